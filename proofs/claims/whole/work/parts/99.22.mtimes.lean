/-! the reference's long numbers: multiply -/
theorem mg_le {g : Int → Int} {n : Nat} (h : d16 g 160) (hn : n ≤ 160) : mg g n ≤ mg g 160 := by
  obtain ⟨q, q0, e⟩ := mg_hi (g := g) (n := n) (160 - n) (fun j a b => h j a (by omega))
  rw [show n + (160 - n) = 160 from by omega] at e
  have : 0 ≤ q * qw n := Int.mul_nonneg q0 (Int.le_of_lt (qw_pos n))
  omega
section
variable {a b t : Nat} {m0 : rz_M} {K : Int → rz_M → Prop}
theorem l_M_tb55 (ha : a < 60) (hb : b < 60) (ht : t < 60) (hat : a ≠ t) (hbt : b ≠ t) {n many : Nat} (hmany : many ≤ 160) (da : d16 (br m0 a) 160) (db : d16 (br m0 b) 160) (hbz : ∀ j : Int, (many : Int) ≤ j → j < 160 → br m0 b j = 0) {i : Nat} (hi : i < 160) {T : Int} (T0 : 0 ≤ T) (lim : T + br m0 a i * mg (br m0 b) 160 * qw i < qw 160) (hK : ∀ m' : rz_M, frS t m0 m' → m' 247 t = m0 247 t → d16 (br m' t) 160 → mg (br m' t) 160 = T + br m0 a i * mg (br m0 b) 160 * qw i → rz_E y_M_timesBig 42 [rR 221, rI a, rI b, rI t, rI n, rI many, rI ((i : Int) + 1), rX 0, rX 0, rX 0, rX 0, rX 0] [] m' K) : ∀ (r k : Nat) (c : Int) (m : rz_M), 160 - (i + k) = r → i + k ≤ 160 → frS t m0 m → m 247 t = m0 247 t → d16 (br m t) 160 → (0 ≤ c ∧ c ≤ 65535) → mg (br m t) 160 + c * qw (i + k) = T + br m0 a i * mg (br m0 b) k * qw i → rz_E y_M_timesBig 55 [rR 221, rI a, rI b, rI t, rI n, rI many, rI i, rL c, rX 1, rI k, rX 0, rX 0] [] m K := by
  have ra := da i (by omega) (by omega)
  intro r
  induction r with
  | zero =>
    intro k c m hr hk hf h7 hd hc he
    have e : i + k = 160 := by omega
    refine T_M_timesBig_55 _ _ _ _ _ _ _ _ _ _ ?_
    rw [w32_id (z := (i : Int) + k) (by omega) (by omega), w32_id (z := (i : Int) + 1) (by omega) (by omega)]
    refine bt (by omega) (hK m hf h7 hd ?_)
    obtain ⟨q, q0, eq⟩ := mg_hi (g := br m0 b) (n := k) (160 - k) (fun j x y => db j x (by omega))
    rw [show k + (160 - k) = 160 from by omega] at eq
    rw [e] at he
    have nn := mg_nn (g := br m t) 160 hd
    have qk : qw 160 = qw i * qw k := by rw [← e, qw_add]
    have tot : T + br m0 a i * mg (br m0 b) 160 * qw i = mg (br m t) 160 + (c + br m0 a i * q) * qw 160 := by
      rw [eq, Int.add_mul, qk]
      rw [qk] at he
      have : br m0 a i * (mg (br m0 b) k + q * qw k) * qw i = br m0 a i * mg (br m0 b) k * qw i + br m0 a i * q * (qw i * qw k) := by grind
      omega
    have z : c + br m0 a i * q = 0 := by
      have p := qw_pos 160
      have n0 : 0 ≤ br m0 a i * q := Int.mul_nonneg ra.1 q0
      refine Classical.byContradiction fun w => ?_
      have : 1 * qw 160 ≤ (c + br m0 a i * q) * qw 160 := Int.mul_le_mul_of_nonneg_right (by omega) (by omega)
      omega
    rw [tot, z, Int.zero_mul, Int.add_zero]
  | succ r ih =>
    intro k c m hr hk hf h7 hd hc he
    have rb := db k (by omega) (by omega)
    have rt := hd ((i : Int) + k) (by omega) (by omega)
    have et : ∀ z : Int, z = 160 * (t : Int) + i + k → m 246 z = br m t ((i : Int) + k) := fun z hz => by
      unfold br
      rw [show 160 * (t : Int) + ((i : Int) + k) = z from by omega]
    have prod : 0 ≤ br m0 a i * br m0 b k ∧ br m0 a i * br m0 b k ≤ 65535 * 65535 := ⟨Int.mul_nonneg ra.1 rb.1, Int.mul_le_mul (by omega) (by omega) rb.1 (by decide)⟩
    have go : ∀ s0 s1 : Int, s0 = br m0 a i * br m0 b k → s1 = br m t ((i : Int) + k) + c → rz_E y_M_timesBig 140 [rR 221, rI a, rI b, rI t, rI n, rI many, rI i, rX 0, rX 0, rI k, rX 0, rX 0] [rL s0, rL s1] m K := fun s0 s1 h0 h1 => by
      refine T_M_timesBig_140 _ _ _ _ _ _ _ _ _ _ _ ?_
      rw [w32_id (z := 160 * (t : Int)) (by omega) (by omega), w32_id (z := 160 * (t : Int) + i) (by omega) (by omega), w32_id (z := 160 * (t : Int) + i + k) (by omega) (by omega), w32_id (z := (k : Int) + 1) (by omega) (by omega), w64_id (z := s1 + s0) (by omega) (by omega), and16_64, shr16 (by unfold R64; omega)]
      generalize hw : s1 + s0 = w
      have w0 : 0 ≤ w ∧ w ≤ 4294967295 := by omega
      rw [w32_id (z := w % 65536) (by omega) (by omega), show 160 * (t : Int) + i + k = 160 * (t : Int) + ((i : Int) + k) from by omega]
      refine ⟨⟨by omega, by omega⟩, ih (k + 1) (w / 65536) _ (by omega) (by omega) (frS_dig hf ⟨by omega, by omega⟩) (by rw [up_ne (by decide)]; exact h7) (fun j x y => ?_) (by omega) ?_⟩
      · by_cases q : j = (i : Int) + k
        · rw [q, br_up]; omega
        · rw [br_nj q]; exact hd j x y
      · have u := mg_upd (g := br m t) (h := br (rz_up m 246 (160 * (t : Int) + ((i : Int) + k)) (w % 65536)) t) (j := i + k) (fun y hy => br_nj (by omega)) 160
        rw [if_pos (by omega), show (((i + k : Nat) : Int)) = (i : Int) + k from by omega, br_up] at u
        rw [u]
        show mg (br m t) 160 + (w % 65536 - br m t ((i : Int) + k)) * qw (i + k) + w / 65536 * (qw (i + k) * 65536) = T + br m0 a i * (mg (br m0 b) k + br m0 b k * qw k) * qw i
        have e1 : (w % 65536 - br m t ((i : Int) + k)) * qw (i + k) + w / 65536 * (qw (i + k) * 65536) = (w - br m t ((i : Int) + k)) * qw (i + k) := by
          have : w = w % 65536 + 65536 * (w / 65536) := by omega
          generalize w % 65536 = x at *
          generalize w / 65536 = y at *
          rw [this]
          grind
        have e2 : (w - br m t ((i : Int) + k)) * qw (i + k) = c * qw (i + k) + br m0 a i * br m0 b k * qw (i + k) := by
          rw [← hw, h0, h1]
          grind
        have e3 : br m0 a i * (mg (br m0 b) k + br m0 b k * qw k) * qw i = br m0 a i * mg (br m0 b) k * qw i + br m0 a i * br m0 b k * qw (i + k) := by
          rw [qw_add]
          grind
        omega
    have to80 : rz_E y_M_timesBig 80 [rR 221, rI a, rI b, rI t, rI n, rI many, rI i, rL c, rX 1, rI k, rX 0, rX 0] [] m K := by
      refine T_M_timesBig_80 _ _ _ _ _ _ _ _ _ _ ?_
      rw [w32_id (z := 160 * (t : Int)) (by omega) (by omega), w32_id (z := 160 * (t : Int) + i) (by omega) (by omega), w32_id (z := 160 * (t : Int) + i + k) (by omega) (by omega), w32_id (z := 160 * (a : Int)) (by omega) (by omega), w32_id (z := 160 * (a : Int) + i) (by omega) (by omega), w32_id (z := 160 * (b : Int)) (by omega) (by omega), w32_id (z := 160 * (b : Int) + k) (by omega) (by omega), et _ rfl, w64_id (z := br m t ((i : Int) + k) + c) (by omega) (by omega)]
      have ea : m 246 (160 * (a : Int) + i) = br m0 a i := hf.2.1 _ (by omega)
      have eb : m 246 (160 * (b : Int) + k) = br m0 b k := hf.2.1 _ (by omega)
      rw [ea, eb, w64_id (z := br m0 a i * br m0 b k) (by omega) (by omega)]
      exact ⟨⟨by omega, by omega⟩, bb (fun q => go _ _ (by rw [hbz k (by omega) (by omega), Int.mul_zero]) rfl) (fun q => ⟨⟨by omega, by omega⟩, ⟨by omega, by omega⟩, go _ _ rfl rfl⟩)⟩
    refine T_M_timesBig_55 _ _ _ _ _ _ _ _ _ _ ?_
    rw [w32_id (z := (i : Int) + k) (by omega) (by omega), w32_id (z := (i : Int) + 1) (by omega) (by omega)]
    refine bf (by omega) (bb (fun q => to80) (fun q => bb (fun z => hK m hf h7 hd ?_) (fun z => to80)))
    have c0 : c = 0 := by omega
    have em : mg (br m0 b) 160 = mg (br m0 b) k := by
      have := mg_top (g := br m0 b) (n := k) (160 - k) (fun j x y => hbz j (by omega) (by omega))
      rwa [show k + (160 - k) = 160 from by omega] at this
    rw [c0, Int.zero_mul, Int.add_zero] at he
    rw [he, em]
theorem l_M_tb42 (ha : a < 60) (hb : b < 60) (ht : t < 60) (hat : a ≠ t) (hbt : b ≠ t) {n many : Nat} (hn : n ≤ 160) (hmany : many ≤ 160) (da : d16 (br m0 a) 160) (db : d16 (br m0 b) 160) (haz : ∀ j : Int, (n : Int) ≤ j → j < 160 → br m0 a j = 0) (hbz : ∀ j : Int, (many : Int) ≤ j → j < 160 → br m0 b j = 0) (lim : mg (br m0 a) 160 * mg (br m0 b) 160 < qw 160) (hK : ∀ m' : rz_M, frS t m0 m' → m' 247 t = m0 247 t → d16 (br m' t) 160 → mg (br m' t) 160 = mg (br m0 a) 160 * mg (br m0 b) 160 → K 0 m') : ∀ (r i : Nat) (m : rz_M), n - i = r → i ≤ n → frS t m0 m → m 247 t = m0 247 t → d16 (br m t) 160 → mg (br m t) 160 = mg (br m0 a) i * mg (br m0 b) 160 → rz_E y_M_timesBig 42 [rR 221, rI a, rI b, rI t, rI n, rI many, rI i, rX 0, rX 0, rX 0, rX 0, rX 0] [] m K := by
  intro r
  induction r with
  | zero =>
    intro i m hr hi hf h7 hd he
    have e : i = n := by omega
    subst e
    refine T_M_timesBig_42 _ _ _ _ _ _ _ _ (bt (Int.le_refl _) (hK m hf h7 hd ?_))
    have em : mg (br m0 a) 160 = mg (br m0 a) i := by
      have := mg_top (g := br m0 a) (n := i) (160 - i) (fun j x y => haz j (by omega) (by omega))
      rwa [show i + (160 - i) = 160 from by omega] at this
    rw [he, em]
  | succ r ih =>
    intro i m hr hi hf h7 hd he
    have ra := da i (by omega) (by omega)
    have B0 := mg_nn (g := br m0 b) 160 db
    have A0 := mg_nn (g := br m0 a) i (fun j x y => da j x (by omega))
    have e1 : mg (br m0 a) i * mg (br m0 b) 160 + br m0 a i * mg (br m0 b) 160 * qw i = mg (br m0 a) (i + 1) * mg (br m0 b) 160 := by
      show _ = (mg (br m0 a) i + br m0 a i * qw i) * mg (br m0 b) 160
      grind
    have e2 : mg (br m0 a) (i + 1) * mg (br m0 b) 160 ≤ mg (br m0 a) 160 * mg (br m0 b) 160 := Int.mul_le_mul_of_nonneg_right (mg_le da (by omega)) B0
    refine T_M_timesBig_42 _ _ _ _ _ _ _ _ (bf (by omega) ?_)
    have go := l_M_tb55 (m0 := m0) (n := n) (K := K) ha hb ht hat hbt hmany da db hbz (i := i) (by omega) (T := mg (br m0 a) i * mg (br m0 b) 160) (Int.mul_nonneg A0 B0) (by omega) (fun m' f' s' d' e' => by
      have := ih (i + 1) m' (by omega) (by omega) f' s' d' (by rw [e', e1])
      exact this) (160 - i) 0 0 m (by omega) (by omega) hf h7 hd ⟨Int.le_refl _, by decide⟩ (by
        rw [he]
        show mg (br m0 a) i * mg (br m0 b) 160 + 0 * qw (i + 0) = mg (br m0 a) i * mg (br m0 b) 160 + br m0 a i * 0 * qw i
        simp)
    exact go
theorem c_M_timesBig (ha : a < 60) (hb : b < 60) (ht : t < 60) (hat : a ≠ t) (hbt : b ≠ t) {u v : Int} (hu : MV m0 a u) (hv : MV m0 b v) (lim : (u.natAbs : Int) * (v.natAbs : Int) < qw 160) (hK : ∀ m' : rz_M, frS t m0 m' → MV m' t (u * v) → K 0 m') : rz_C y_M_timesBig [rR 221, rI a, rI b, rI t] m0 K := by
  have su := sgn3 u
  have sv := sgn3 v
  refine T_M_timesBig_0 _ _ _ _ _ (c_M_setBig ht (by decide) (fun m1 f1 v1 => ⟨⟨by omega, by omega⟩, ⟨by omega, by omega⟩, ⟨by omega, by omega⟩, ?_⟩))
  have hu1 := MV_kp hu f1 hat
  have hv1 := MV_kp hv f1 hbt
  rw [hu1.2.1, hv1.2.1]
  have sm : w32 (u.sign * v.sign) = (u * v).sign := by
    rw [Int.sign_mul]
    rcases su with ⟨x, _⟩ | ⟨x, _⟩ | ⟨x, _⟩ <;> rcases sv with ⟨y, _⟩ | ⟨y, _⟩ | ⟨y, _⟩ <;> rw [x, y] <;> decide
  rw [sm]
  generalize hm2 : rz_up m1 247 t (u * v).sign = m2
  have f2 : frS t m0 m2 := by rw [← hm2]; exact frS_sgn f1
  have hu2 : d16 (br m2 a) 160 ∧ mg (br m2 a) 160 = u.natAbs := by
    have e : br m2 a = br m1 a := by rw [← hm2]; unfold br; rw [up_ne (by decide)]
    rw [e]
    exact ⟨hu1.1, hu1.2.2⟩
  have hv2 : d16 (br m2 b) 160 ∧ mg (br m2 b) 160 = v.natAbs := by
    have e : br m2 b = br m1 b := by rw [← hm2]; unfold br; rw [up_ne (by decide)]
    rw [e]
    exact ⟨hv1.1, hv1.2.2⟩
  have ht2 : d16 (br m2 t) 160 ∧ mg (br m2 t) 160 = 0 := by
    have e : br m2 t = br m1 t := by rw [← hm2]; unfold br; rw [up_ne (by decide)]
    rw [e]
    exact ⟨v1.1, v1.2.2⟩
  have s2 : m2 247 t = (u * v).sign := by rw [← hm2, up_eq]
  refine c_M_usedBig ha (fun n hn hz => c_M_usedBig hb (fun many hmany hbz => ?_))
  refine l_M_tb42 (m0 := m2) ha hb ht hat hbt hn hmany hu2.1 hv2.1 hz hbz (by rw [hu2.2, hv2.2]; exact lim) (fun m' f' s' d' e' => hK m' (frS_tr f2 f') ⟨d', by rw [s', s2], ?_⟩) n 0 m2 rfl (Nat.zero_le _) (frS_rf _ _) rfl ht2.1 ?_
  · rw [e', hu2.2, hv2.2, Int.natAbs_mul, Int.natCast_mul]
  · rw [ht2.2]
    show (0 : Int) = 0 * _
    omega
end
