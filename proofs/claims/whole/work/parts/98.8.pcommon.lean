/-! both sides alike: common -/
theorem dg_z {f : Int → Int} (h : dg f < 0) : ∀ j : Int, 0 ≤ j → j < 7 → f j = 0 := fun j a b => dgk_top f 7 j (by unfold dg at h; omega) (by omega)
theorem sm_z {f : Int → Int} (h : dg f < 0) : sm f := fun j a b => by rw [dg_z h j a b]; exact ⟨by decide, by decide⟩
theorem l_M_co56 {i k to : Int} (hi : 0 ≤ i ∧ i < 10) (hk : 0 ≤ k ∧ k < 10) {m : rz_M} {K : Int → rz_M → Prop} (hg : sm (rwM m i) → sm (rwM m k) → rz_E y_M_common 91 [rR 221, rI i, rI k, rI to, rI (dg (rwM m i)), rI (dg (rwM m k)), rX 0, rX 0] [] m K) (hb : ¬ (sm (rwM m i) ∧ sm (rwM m k)) → rz_C y_M_said [rR 221, rI (-2)] m K) (h0 : ¬ (dg (rwM m i) < 0 ∧ dg (rwM m k) < 0)) : rz_E y_M_common 56 [rR 221, rI i, rI k, rI to, rI (dg (rwM m i)), rI (dg (rwM m k)), rX 0, rX 0] [] m K := by
  refine T_M_common_56 _ _ _ _ _ _ _ (bb (fun q => bb (fun q2 => absurd ⟨q, q2⟩ h0) (fun q2 => c_M_isSmall hk (fun _ s => b1n (hg (sm_z q) s)) (fun n => b0n (hb (fun w => n ⟨by omega, w.2⟩))))) (fun q => c_M_isSmall hi (fun _ s => b1t (bb (fun q2 => hg s (sm_z q2)) (fun q2 => c_M_isSmall hk (fun _ s2 => b1n (hg s s2)) (fun n => b0n (hb (fun w => n ⟨by omega, w.2⟩)))))) (fun n => b0t (hb (fun w => n ⟨by omega, w.1⟩)))))
theorem oF_congr {c2 : Nat} {G G' : Nat → E3} {x : E3} (hd : ∀ k k', k < c2 → k' < c2 → (G k).1 = (G k').1 → k = k') (h : ∀ k, k < c2 → G k = G' k) : oF c2 G x = oF c2 G' x := by
  have hd' : ∀ k k', k < c2 → k' < c2 → (G' k).1 = (G' k').1 → k = k' := fun k k' a b e => hd k k' a b (by rw [h k a, h k' b]; exact e)
  rcases Classical.em (∃ k, k < c2 ∧ (G k).1 = x.1) with ⟨k, hk, e⟩ | n
  · rw [oF_pos hd hk e, oF_pos hd' hk (by rw [← h k hk]; exact e), h k hk]
  · rw [oF_neg (fun k hk e => n ⟨k, hk, e⟩), oF_neg (fun k hk e => n ⟨k, hk, by rw [h k hk]; exact e⟩)]
section
variable {R : Type}
theorem fl_nil [Lean.Grind.CommRing R] {co : R → Nat → Int} {mk : Nat → (Nat → Int) → R} (H : PolyR co mk) {A : R} {c : Nat} {F : Nat → E3} (h : FacL co mk A ((List.range c).map F)) (ht : tz co A 0) : c = 0 := by
  obtain ⟨ok, _, ds⟩ := fl_in H h ht
  cases c with
  | zero => rfl
  | succ c =>
    exfalso
    have o := ok c (by omega)
    have o1 := o.2.1
    have o2 := o.2.2.2.1
    have h4 : 1 * 1 ≤ (F c).2.1.toNat * (F c).2.2.toNat := Nat.mul_le_mul (by omega) (by omega)
    have h3 : dsI F (c + 1) = dsI F c + (F c).2.1.toNat * (F c).2.2.toNat := rfl
    omega
theorem l_M_co122 [Lean.Grind.CommRing R] {co : R → Nat → Int} {mk : Nat → (Nat → Int) → R} (H : PolyR co mk) {r to v4 v5 : Int} (hr : 0 ≤ r ∧ r < 10) {m : rz_M} (hs : sm (rwM m r)) (hD : 0 ≤ dg (rwM m r)) (hv : v4 + v5 + 1 = dg (rwM m r)) (b4 : -1 ≤ v4 ∧ v4 ≤ 6) (b5 : -1 ≤ v5 ∧ v5 ≤ 6) (hm : ∀ j : Int, 0 ≤ j → j < 13 → m 223 j = if j = 0 then 1 else 0) {g1 : Int} {f1 : Int → Int} (c1 : core co mk f1 (dg (rwM m r))) (z1 : g1 ≠ 0) (e1 : ∀ j : Int, 0 ≤ j → j < 7 → rwM m r j = g1 * f1 j) {K : Int → rz_M → Prop} (h : ∀ m' : rz_M, (∀ i : Nat, (i < 221 ∨ i = 222 ∨ 230 < i) → m' i = m i) → m' 221 17 = m 221 17 → m' 221 18 = m 221 18 → (∀ j : Int, 7 ≤ j → j < 13 → m' 223 j = 0) → (∀ j : Int, 0 ≤ j → j < 7 → m' 223 j = f1 j) → rz_C y_M_put [rR 221, rI to] m' K) : rz_E y_M_common 122 [rR 221, rX 0, rX 0, rI to, rI v4, rI v5, rX 0, rX 0] [rI r] m K := by
  have rd := dg_rng (rwM m r)
  refine T_M_common_122 _ _ _ _ _ _ ?_
  rw [w32_id (z := v4 + v5) (by omega) (by omega), w32_id (z := v4 + v5 + 1) (by omega) (by omega), hv]
  refine bb (fun q => ?_) (fun q => ?_)
  · have d0 : dg (rwM m r) = 0 := by omega
    rw [d0] at c1
    have one := one_of H c1
    refine h m (fun _ _ => rfl) rfl rfl (fun j a b => by rw [hm j (by omega) b, if_neg (by omega)]) (fun j a b => ?_)
    have e : co (pR mk 7 f1) j.toNat = co (1 : R) j.toNat := by rw [one]
    rw [co_pR H, if_pos (by omega), H.2.2.2.1, Int.toNat_of_nonneg a] at e
    rw [hm j a (by omega), e]
    by_cases z : j = 0
    · rw [if_pos z, if_pos (by omega)]
    · rw [if_neg z, if_neg (by omega)]
  · refine c_M_findFactors H hr hs hD (fun g2 f2 m4 g20 e2 c2 fr4 fr41 c10 c9 L2 s2 => ?_)
    obtain ⟨eg, ef⟩ := core_uq H c1 c2 z1 g20 (fun j a b => by rw [← e1 j a b]; exact (e2 j a b).1)
    obtain ⟨c, ec⟩ : ∃ c : Nat, m4 221 9 = c := ⟨(m4 221 9).toNat, by omega⟩
    have L2' : FacL co mk (pR mk 7 f2) ((List.range c).map (elM m4)) := by
      have e : mtl m4 = (List.range c).map (elM m4) := by unfold mtl; rw [ec, Int.toNat_natCast]
      rwa [e] at L2
    obtain ⟨ok, _, ds⟩ := fl_in H L2' (core_tz H c2)
    refine l_M_c143 H (c := c) (by omega) ec ok (by omega) (fun m' f' o' v' => h m' (fun i hi => ?_) ?_ ?_ (fun j a b => ?_) (fun j a b => ?_)) c 0 m4 (by omega) (Nat.zero_le _) (fun _ _ => rfl) (fun _ _ => rfl) (fun y hy => ?_)
    · rw [f' i (by omega)]; exact fr4 i (by omega)
    · rw [f' 221 (by decide)]; exact fr41 17 (by decide) (by decide) (by decide)
    · rw [f' 221 (by decide)]; exact fr41 18 (by decide) (by decide) (by decide)
    · rw [o' j a, fr4 223 (by decide), hm j (by omega) b, if_neg (by omega)]
    · have := v' j.toNat (by omega)
      rw [cmI_all, ← L2'.2.2, co_pR H, if_pos (by omega), Int.toNat_of_nonneg a] at this
      have b2 := (e2 j a b).2
      unfold bd at b2
      rw [this, w64_id (by omega) (by omega)]
      exact (ef j a b).symm
    · show _ = w64 (co (1 : R) y)
      rw [fr4 223 (by decide), hm y (by omega) (by omega), H.2.2.2.1]
      by_cases z : y = 0
      · rw [if_pos (by omega), if_pos z]; decide +kernel
      · rw [if_neg (by omega), if_neg z]; decide +kernel
theorem p_common_R [Lean.Grind.CommRing R] {co : R → Nat → Int} {mk : Nat → (Nat → Int) → R} (H : PolyR co mk) (i k to : Int) (m : rz_M) (hI : Inv m) : pairOK y_RC_common y_M_common [rI i, rI k, rI to] m := by
  have scU : ∀ m1 : rz_M, kpM m1 (rz_up m1 221 0 0) := fun m1 => ⟨fun i hi => up_ne (by omega), up_nj (by decide), up_nj (by decide)⟩
  have rwe : ∀ (m1 : rz_M) (r : Int), m1 222 = m 222 → rwM (rz_up m1 221 0 0) r = rwM m r := fun m1 r h => by unfold rwM; rw [up_ne (by decide), h]
  have bad1 : ¬ ((0 ≤ i ∧ i < 10) ∧ (0 ≤ k ∧ k < 10) ∧ (0 ≤ to ∧ to < 10)) → rz_C y_RC_refuse [rR 0, rI (-1)] m (fun r1 m1 => rz_C y_M_common [rR 221, rI i, rI k, rI to] m1 (fun r2 m2 => r1 = r2 ∧ Inv m2 ∧ m2 400 = m 400)) := by
    intro hn
    refine c_RC_refuse ?_
    have fin : rz_C y_M_said [rR 221, rI (-1)] (rz_up (rz_up m 0 10 (-1)) 221 0 0) (fun r2 m2 => -1 = r2 ∧ Inv m2 ∧ m2 400 = m 400) := c_M_said ⟨rfl, fin_bad2 hI (fun _ _ => rfl) (scU _)⟩
    exact T_M_common_0 _ _ _ _ _ (c_M_isRow (fun a b => b1t (c_M_isRow (fun c d => b1t (c_M_isRow (fun e f => absurd ⟨⟨a, b⟩, ⟨c, d⟩, e, f⟩ hn) (fun _ => b0n fin))) (fun _ => b0t fin))) (fun _ => b0t fin))
  refine T_RC_common_0 _ _ _ _ _ (c_RC_isRow (fun i1 i2 => b1t (c_RC_isRow (fun k1 k2 => b1t (c_RC_isRow (fun t1 t2 => b1n ?_) (fun q => b0n (bad1 (fun z => q z.2.2))))) (fun q => b0t (bad1 (fun z => q z.2.1))))) (fun q => b0t (bad1 (fun z => q z.1))))
  have hi := And.intro i1 i2
  have hk := And.intro k1 k2
  have ht := And.intro t1 t2
  have ri := dg_rng (m (rz_R 1 i))
  have rk := dg_rng (m (rz_R 1 k))
  have ei := dg_eq hI hi
  have ek := dg_eq hI hk
  have Ri : rz_R 1 i = 2 + i.toNat := rfl
  have Rk : rz_R 1 k = 2 + k.toNat := rfl
  have Rt : rz_R 1 to = 2 + to.toNat := rfl
  have mod : ∀ (m1 : rz_M) (Q : Int → rz_M → Prop), m1 222 = m 222 → (dg (rwM m i) < 0 → dg (rwM m k) < 0 → rz_C y_M_said [rR 221, rI (-2)] (rz_up m1 221 0 0) Q) → (¬ (dg (rwM m i) < 0 ∧ dg (rwM m k) < 0) → rz_E y_M_common 56 [rR 221, rI i, rI k, rI to, rI (dg (rwM m i)), rI (dg (rwM m k)), rX 0, rX 0] [] (rz_up m1 221 0 0) Q) → rz_C y_M_common [rR 221, rI i, rI k, rI to] m1 Q := by
    intro m1 Q hm h1 h2
    have e := fun r => rwe m1 r hm
    refine T_M_common_0 _ _ _ _ _ (c_M_isRow (fun _ _ => b1t (c_M_isRow (fun _ _ => b1t (c_M_isRow (fun _ _ => b1n (c_M_degreeOf hi (c_M_degreeOf hk ?_))) (fun z => absurd ht z))) (fun z => absurd hk z))) (fun z => absurd hi z))
    rw [e i, e k]
    exact bb (fun q => h2 (by omega)) (fun q => bb (fun q2 => h1 (by omega) q2) (fun q2 => h2 (by omega)))
  have fin2 : rz_C y_M_said [rR 221, rI (-2)] (rz_up (rz_up m 0 10 (-2)) 221 0 0) (fun r2 m2 => -2 = r2 ∧ Inv m2 ∧ m2 400 = m 400) := c_M_said ⟨rfl, fin_bad2 hI (fun _ _ => rfl) (scU _)⟩
  have bad2 : ¬ ((sm (m (rz_R 1 i)) ∧ sm (m (rz_R 1 k))) ∧ ¬ (dg (m (rz_R 1 i)) < 0 ∧ dg (m (rz_R 1 k)) < 0)) → rz_C y_RC_refuse [rR 0, rI (-2)] m (fun r1 m1 => rz_C y_M_common [rR 221, rI i, rI k, rI to] m1 (fun r2 m2 => r1 = r2 ∧ Inv m2 ∧ m2 400 = m 400)) := by
    intro hn
    refine c_RC_refuse (mod _ _ (up_ne (by decide)) (fun _ _ => fin2) (fun h0 => ?_))
    have e := fun r => rwe (rz_up m 0 10 (-2)) r (up_ne (by decide))
    have := l_M_co56 (to := to) hi hk (m := rz_up (rz_up m 0 10 (-2)) 221 0 0) (K := fun r2 m2 => -2 = r2 ∧ Inv m2 ∧ m2 400 = m 400) (fun s1 s2 => absurd ⟨⟨(sm_eq hI hi).mpr (by rwa [e i] at s1), (sm_eq hI hk).mpr (by rwa [e k] at s2)⟩, by rw [ei, ek]; exact h0⟩ hn) (fun _ => fin2) (by rw [e i, e k]; exact h0)
    rw [e i, e k] at this
    exact this
  have finish : ∀ m1 : rz_M, kpC m m1 → (∀ (mb : rz_M) (Q : Int → rz_M → Prop), mb 222 = m 222 → (∀ M2 : rz_M, kpM mb M2 → (∀ j : Int, 7 ≤ j → j < 13 → M2 223 j = 0) → (∀ j : Int, 0 ≤ j → j < 7 → M2 223 j = m1 12 j) → rz_C y_M_put [rR 221, rI to] M2 Q) → rz_C y_M_common [rR 221, rI i, rI k, rI to] mb Q) → rz_C y_RC_keepMade [rR 0, rI to] m1 (fun r1 m1 => rz_C y_M_common [rR 221, rI i, rI k, rI to] m1 (fun r2 m2 => r1 = r2 ∧ Inv m2 ∧ m2 400 = m 400)) := fun m1 kc modT =>
    c_RC_keepMade ht (fun hf => modT _ _ (by rw [up_ne (by decide), wr_ne (by omega)]; exact kc 222 (by omega)) (fun M2 k2 z2 v2 => (put_of2 ht hI kc z2 v2).1 hf k2)) (fun hf => modT _ _ (by rw [up_ne (by decide)]; exact kc 222 (by omega)) (fun M2 k2 z2 v2 => (put_of2 ht hI kc z2 v2).2 hf k2))
  have to91 : ∀ (mb : rz_M) (Q : Int → rz_M → Prop), mb 222 = m 222 → sm (rwM m i) → sm (rwM m k) → ¬ (dg (rwM m i) < 0 ∧ dg (rwM m k) < 0) → rz_E y_M_common 91 [rR 221, rI i, rI k, rI to, rI (dg (rwM m i)), rI (dg (rwM m k)), rX 0, rX 0] [] (rz_up mb 221 0 0) Q → rz_C y_M_common [rR 221, rI i, rI k, rI to] mb Q := fun mb Q hmb s1 s2 h0 hq => by
    have e := fun r => rwe mb r hmb
    refine mod mb Q hmb (fun a b => absurd ⟨a, b⟩ h0) (fun _ => ?_)
    have := l_M_co56 (to := to) hi hk (m := rz_up mb 221 0 0) (K := Q) (fun _ _ => by rw [e i, e k]; exact hq) (fun n => absurd ⟨by rw [e i]; exact s1, by rw [e k]; exact s2⟩ n) (by rw [e i, e k]; exact h0)
    rw [e i, e k] at this
    exact this
  have made1 : ∀ (mb : rz_M) (j : Int), 0 ≤ j → j < 13 → rz_up (wr (rz_up mb 221 0 0) 223 13 (fun _ => 0)) 223 0 1 223 j = if j = 0 then 1 else 0 := fun mb j a b => by
    by_cases z : j = 0
    · rw [if_pos z, z, up_eq]
    · rw [if_neg z, up_nj z, wr_in a b]
  have one : ∀ r : Int, (0 ≤ r ∧ r < 10) → sm (m (rz_R 1 i)) → sm (m (rz_R 1 k)) → sm (m (rz_R 1 r)) → 0 ≤ dg (m (rz_R 1 r)) → ¬ (dg (rwM m i) < 0 ∧ dg (rwM m k) < 0) → dg (rwM m i) + dg (rwM m k) + 1 = dg (rwM m r) → (∀ (M : rz_M) (Q : Int → rz_M → Prop), rz_E y_M_common 122 [rR 221, rX 0, rX 0, rI to, rI (dg (rwM m i)), rI (dg (rwM m k)), rX 0, rX 0] [rI r] (rz_up (wr M 223 13 (fun _ => 0)) 223 0 1) Q → rz_E y_M_common 91 [rR 221, rI i, rI k, rI to, rI (dg (rwM m i)), rI (dg (rwM m k)), rX 0, rX 0] [] M Q) → rz_C y_RC_takeContentOut [rR (rz_R 1 r), rR 12] m (fun r6 m6 => rz_C y_RC_keepMade [rR 0, rI to] m6 (fun r1 m1 => rz_C y_M_common [rR 221, rI i, rI k, rI to] m1 (fun r2 m2 => r1 = r2 ∧ Inv m2 ∧ m2 400 = m 400))) := by
    intro r hr s1 s2 s d h0 hv h91
    have Rr : rz_R 1 r = 2 + r.toNat := rfl
    have rr := dg_rng (m (rz_R 1 r))
    have er := dg_eq hI hr
    refine c_RC_cont (isL_row hr) isL_12 (by omega) s d (fun g1 m1 f1 g10 e1 lead pr => ?_)
    have tz0 : ∀ k : Int, dg (m (rz_R 1 r)) < k → k < 7 → m1 12 k = 0 := fun k k0 k1 => by
      have e := (e1 k (by omega) k1).1
      have z : m (rz_R 1 r) k = 0 := dgk_top (m (rz_R 1 r)) 7 k k0 k1
      rw [z] at e
      rcases Int.mul_eq_zero.mp e.symm with w | w
      · exact absurd w g10
      · exact w
    have tb := tbn_le (dg (m (rz_R 1 r)))
    have c1 : core co mk (m1 12) (dg (rwM m r)) := by
      rw [← er]
      refine ⟨⟨d, by omega⟩, lead, tz0, fun k k0 k1 => bd_le (e1 k k0 k1).2 tb.1, (e1 _ d (by omega)).2.2, (e1 0 (by decide) (by decide)).2, fun p hp hall => pr p hp (fun j j0 j1 => ?_)⟩
      have := hall j.toNat
      rwa [co_pR H, if_pos (by omega), Int.toNat_of_nonneg j0] at this
    refine finish m1 (fun x hx => f1 x (by omega)) (fun mb Q hmb hput => to91 mb Q hmb ((sm_eq hI hi).mp s1) ((sm_eq hI hk).mp s2) h0 (h91 _ _ ?_))
    have eW : rwM (rz_up (wr (rz_up mb 221 0 0) 223 13 (fun _ => 0)) 223 0 1) r = rwM m r := by
      unfold rwM
      rw [up_ne (by decide), wr_ne (by decide), up_ne (by decide), hmb]
    refine l_M_co122 H hr (by rw [eW]; exact (sm_eq hI hr).mp s) (by rw [eW]; omega) (by rw [eW]; exact hv) (by omega) (by omega) (made1 mb) (g1 := g1) (f1 := m1 12) (by rw [eW]; exact c1) g10 (fun j a b => by rw [eW, ← (e1 j a b).1]; exact (row_eq hI hr ⟨a, b⟩).symm) (fun m' f' e17 e18 z' v' => hput m' ⟨fun x hx => ?_, ?_, ?_⟩ z' v')
    · rw [f' x (by omega), up_ne (by omega), wr_ne (by omega), up_ne (by omega)]
    · rw [e17, up_ne (by decide), wr_ne (by decide), up_nj (by decide)]
    · rw [e18, up_ne (by decide), wr_ne (by decide), up_nj (by decide)]
  have go59 : ¬ (dg (m (rz_R 1 i)) < 0 ∧ dg (m (rz_R 1 k)) < 0) → rz_E y_RC_common 59 [rR 0, rI i, rI k, rI to, rI (dg (m (rz_R 1 i))), rI (dg (m (rz_R 1 k)))] [] m (fun r1 m1 => rz_C y_M_common [rR 221, rI i, rI k, rI to] m1 (fun r2 m2 => r1 = r2 ∧ Inv m2 ∧ m2 400 = m 400)) := by
    intro h0
    refine T_RC_common_59 _ _ _ _ _ _ _ ⟨hi, c_RC_hasSmallNumbers (isL_row hi) (fun s1 => b1t ⟨hk, c_RC_hasSmallNumbers (isL_row hk) (fun s2 => b1n ?_) (fun q => b0n (bad2 (fun z => q z.1.2)))⟩) (fun q => b0t (bad2 (fun z => q z.1.1)))⟩
    refine bb (fun di => bb (fun dk => ⟨hi, ?_⟩) (fun dk => ⟨hi, ?_⟩)) (fun di => ⟨hk, ?_⟩)
    · refine c_Sp_splitInto H (P := 25) (Or.inr (Or.inl rfl)) (isL_row hi) (by omega) s1 di (fun g1 f1 m3 g10 e1 c1 fr3 c5 c4 L1 so1 => ⟨hk, ?_⟩)
      have ek3 : m3 (rz_R 1 k) = m (rz_R 1 k) := fr3 _ (by omega) (by omega) (by omega)
      refine c_Sp_splitInto H (P := 36) (Or.inr (Or.inr rfl)) (isL_row hk) (by omega) (by rw [ek3]; exact s2) (by rw [ek3]; exact dk) (fun g2 f2 m4 g20 e2 c2 fr4 d5 d4 L2 so2 => T_RC_common_168 _ _ _ ?_)
      rw [ek3] at e2 c2
      have p25 : ptl m4 25 = ptl m3 25 := by
        unfold ptl
        rw [fr4 25 (by decide) (by decide) (by decide)]
        refine List.map_congr_left (fun x hx => ?_)
        have hx' := List.mem_range.mp hx
        unfold elC
        rw [fr4 (25 + 2 + x) (by omega) (by omega) (by omega), fr4 (25 + 8) (by decide) (by decide) (by decide), fr4 (25 + 9) (by decide) (by decide) (by decide)]
      have e25 : m4 25 = m3 25 := fr4 25 (by decide) (by decide) (by decide)
      rw [← p25] at L1 so1
      obtain ⟨n1, en1⟩ : ∃ n : Nat, m4 25 4 = n := ⟨(m4 25 4).toNat, by rw [e25]; omega⟩
      obtain ⟨n2, en2⟩ : ∃ n : Nat, m4 36 4 = n := ⟨(m4 36 4).toNat, by omega⟩
      have n16 : n1 ≤ 6 := by rw [e25] at en1; omega
      have l1 : ptl m4 25 = (List.range n1).map (elC m4 25) := by unfold ptl; rw [en1, Int.toNat_natCast]
      have l2 : ptl m4 36 = (List.range n2).map (elC m4 36) := by unfold ptl; rw [en2, Int.toNat_natCast]
      rw [l1] at L1 so1
      rw [l2] at L2 so2
      obtain ⟨ok1, hd1, ds1⟩ := fl_in H L1 (core_tz H c1)
      obtain ⟨ok2, hd2, ds2⟩ := fl_in H L2 (core_tz H c2)
      refine c_Pa_shareWith H (Or.inr (Or.inl rfl)) (Or.inr (Or.inr rfl)) (by decide) n16 (by omega) en1 en2 ok1 (by omega) hd2 (fun m5 f5 v5 => finish m5 (fun x hx => ?_) (fun mb Q hmb hput => to91 mb Q hmb ((sm_eq hI hi).mp s1) ((sm_eq hI hk).mp s2) (by omega) ?_))
      · rw [f5 x (by omega) (by omega), fr4 x (by omega) (by omega) (by omega)]
        exact fr3 x (by omega) (by omega) (by omega)
      · have eW : ∀ r, rwM (rz_up (wr (rz_up mb 221 0 0) 223 13 (fun _ => 0)) 223 0 1) r = rwM m r := fun r => by
          unfold rwM
          rw [up_ne (by decide), wr_ne (by decide), up_ne (by decide), hmb]
        have kp0 : kpM mb (rz_up (wr (rz_up mb 221 0 0) 223 13 (fun _ => 0)) 223 0 1) := ⟨fun x hx => by rw [up_ne (by omega), wr_ne (by omega), up_ne (by omega)], by rw [up_ne (by decide), wr_ne (by decide), up_nj (by decide)], by rw [up_ne (by decide), wr_ne (by decide), up_nj (by decide)]⟩
        have isone : cmI mk (elC m4 25) (fun k => oF n2 (elC m4 36) (elC m4 25 k)) n1 = 1 → rz_C y_M_put [rR 221, rI to] (rz_up (wr (rz_up mb 221 0 0) 223 13 (fun _ => 0)) 223 0 1) Q := fun e => by
          refine hput _ kp0 (fun j a b => by rw [made1 mb j (by omega) b, if_neg (by omega)]) (fun j a b => ?_)
          have := v5 j.toNat (by omega)
          rw [e, H.2.2.2.1, Int.toNat_of_nonneg a] at this
          rw [made1 mb j a (by omega), this]
          by_cases z : j = 0
          · rw [if_pos z, if_pos (by omega)]; decide +kernel
          · rw [if_neg z, if_neg (by omega)]; decide +kernel
        refine T_M_common_91 _ _ _ _ _ _ _ (c_M_clear ⟨⟨by decide, by decide⟩, bf (by omega) (bt (by omega) (bb (fun q => isone ?_) (fun q => bb (fun q2 => isone ?_) (fun q2 => ?_))))⟩)
        · have d0 : dg (m (rz_R 1 i)) = 0 := by omega
          have := core_tz H c1
          rw [d0] at this
          have : n1 = 0 := fl_nil H L1 this
          rw [this]
          rfl
        · have d0 : dg (m (rz_R 1 k)) = 0 := by omega
          have := core_tz H c2
          rw [d0] at this
          have n20 : n2 = 0 := fl_nil H L2 this
          refine cmI_one n1 (fun x hx => ?_)
          show oF n2 _ _ ≤ 0
          rw [oF_neg (fun y hy => absurd hy (by omega))]
          exact Int.le_refl _
        · refine c_M_findFactors H hk (by rw [eW]; exact (sm_eq hI hk).mp s2) (by rw [eW]; omega) (fun g3 f3 m6 g30 e3 c3 fr6 fr61 c610 c69 L3 so3 => ?_)
          rw [eW] at e3 c3
          refine c_M_keepOther c69 (fun m7 fr7 fr71 e722 eo7 => ?_)
          have eW7 : ∀ r, rwM m7 r = rwM m r := fun r => by
            rw [← eW r]
            unfold rwM
            rw [fr7 222 (by decide) (by decide) (by decide) (by decide), fr6 222 (by decide)]
          refine c_M_findFactors H hi (by rw [eW7]; exact (sm_eq hI hi).mp s1) (by rw [eW7]; omega) (fun g4 f4 m8 g40 e4 c4' fr8 fr81 c810 c89 L4 so4 => ?_)
          rw [eW7] at e4 c4'
          obtain ⟨n3, en3⟩ : ∃ n : Nat, m8 221 9 = n := ⟨(m8 221 9).toNat, by omega⟩
          have e822 : m8 221 22 = m6 221 9 := by rw [fr81 22 (by decide) (by decide) (by decide)]; exact e722
          obtain ⟨n4, en4⟩ : ∃ n : Nat, m8 221 22 = n := ⟨(m8 221 22).toNat, by omega⟩
          have l3 : mtl m8 = (List.range n3).map (elM m8) := by unfold mtl; rw [en3, Int.toNat_natCast]
          have l4 : mtl m6 = (List.range n4).map (elO m8) := by
            rw [← eo7]
            unfold otl
            rw [e722, ← e822, en4, Int.toNat_natCast]
            refine List.map_congr_left (fun x hx => ?_)
            unfold elO
            rw [fr8 234 (by decide), fr8 235 (by decide), fr8 236 (by decide)]
          rw [l3] at L4 so4
          rw [l4] at L3 so3
          rw [← ei] at c4'
          rw [← ek] at c3
          have uq1 := core_uq H c1 c4' g10 g40 (fun j a b => by rw [← (e1 j a b).1, ← (e4 j a b).1]; exact row_eq hI hi ⟨a, b⟩)
          have uq2 := core_uq H c2 c3 g20 g30 (fun j a b => by rw [← (e2 j a b).1, ← (e3 j a b).1]; exact row_eq hI hk ⟨a, b⟩)
          rw [pR_congr H (fun j a b => uq1.2 j a (by omega))] at L1
          rw [pR_congr H (fun j a b => uq2.2 j a (by omega))] at L2
          have q1 := fac_eq H L1 L4 so1 so4
          have q2' := fac_eq H L2 L3 so2 so3
          have n13 : n1 = n3 := by
            have := congrArg List.length q1
            simpa using this
          have n24 : n2 = n4 := by
            have := congrArg List.length q2'
            simpa using this
          subst n13
          subst n24
          have el1 := map_at q1
          have el2 := map_at q2'
          obtain ⟨ok3, _, ds3⟩ := fl_in H L4 (core_tz H c4')
          obtain ⟨ok4, hd4, _⟩ := fl_in H L3 (core_tz H c3)
          refine l_M_c201 H n16 (by omega) en3 en4 ok3 ok4 (by omega) hd4 (fun m9 f9 o9 v9 => hput m9 ⟨fun x hx => ?_, ?_, ?_⟩ (fun j a b => ?_) (fun j a b => ?_)) n1 0 m8 (by omega) (Nat.zero_le _) (fun _ _ => rfl) (fun _ _ => rfl) (fun y hy => ?_)
          · rw [f9 x (by omega), fr8 x (by omega), fr7 x (by omega) (by omega) (by omega) (by omega), fr6 x (by omega)]
            exact kp0.1 x hx
          · rw [f9 221 (by decide), fr81 17 (by decide) (by decide) (by decide), fr71 17 (by decide), fr61 17 (by decide) (by decide) (by decide)]
            exact kp0.2.1
          · rw [f9 221 (by decide), fr81 18 (by decide) (by decide) (by decide), fr71 18 (by decide), fr61 18 (by decide) (by decide) (by decide)]
            exact kp0.2.2
          · rw [o9 j a, fr8 223 (by decide), fr7 223 (by decide) (by decide) (by decide) (by decide), fr6 223 (by decide), made1 mb j (by omega) b, if_neg (by omega)]
          · have h9 := v9 j.toNat (by omega)
            have h5 := v5 j.toNat (by omega)
            rw [Int.toNat_of_nonneg a] at h9 h5
            rw [h9, h5, cmI_congr n1 el1 (fun x hx => by show oF n2 (elC m4 36) (elC m4 25 x) = oF n2 (elO m8) (elM m8 x); rw [el1 x hx]; exact oF_congr hd2 el2)]
          · show _ = w64 (co (1 : R) y)
            rw [fr8 223 (by decide), fr7 223 (by decide) (by decide) (by decide) (by decide), fr6 223 (by decide), made1 mb y (by omega) (by omega), H.2.2.2.1]
            by_cases z : y = 0
            · rw [if_pos (by omega), if_pos z]; decide +kernel
            · rw [if_neg (by omega), if_neg z]; decide +kernel
    · exact one i hi s1 s2 s1 di (by omega) (by omega) (fun M Q hq => T_M_common_91 _ _ _ _ _ _ _ (c_M_clear ⟨⟨by decide, by decide⟩, bf (by omega) (bf (by omega) (bt (by omega) hq))⟩))
    · exact one k hk s1 s2 s2 (by omega) (by omega) (by omega) (fun M Q hq => T_M_common_91 _ _ _ _ _ _ _ (c_M_clear ⟨⟨by decide, by decide⟩, bt (by omega) (bf (by omega) hq)⟩))
  exact ⟨hi, c_RC_degreeOf (isL_row hi) ⟨hk, c_RC_degreeOf (isL_row hk) (bb (fun q => go59 (by omega)) (fun q => bb (fun q2 => bad2 (fun z => z.2 ⟨by omega, q2⟩)) (fun q2 => go59 (by omega))))⟩⟩
end
theorem p_common (i k to : Int) (m : rz_M) (hI : Inv m) : pairOK y_RC_common y_M_common [rI i, rI k, rI to] m := @p_common_R PZ rgPZ pzco pzK PZ_ok i k to m hI
