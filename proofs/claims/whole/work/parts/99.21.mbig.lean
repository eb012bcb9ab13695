/-! the reference's long numbers: set, copy, compare, add -/
def br (m : rz_M) (s : Nat) : Int → Int := fun j => m 246 (160 * (s : Int) + j)
/-- slot s holds v -/
def MV (m : rz_M) (s : Nat) (v : Int) : Prop := d16 (br m s) 160 ∧ m 247 s = v.sign ∧ mg (br m s) 160 = v.natAbs
/-- only slot s is written -/
def frS (s : Nat) (m0 m : rz_M) : Prop := (∀ x : Nat, x ≠ 246 → x ≠ 247 → m x = m0 x) ∧ (∀ y : Int, ¬ (160 * (s : Int) ≤ y ∧ y < 160 * (s : Int) + 160) → m 246 y = m0 246 y) ∧ ∀ y : Int, y ≠ s → m 247 y = m0 247 y
theorem frS_rf (s : Nat) (m : rz_M) : frS s m m := ⟨fun _ _ _ => rfl, fun _ _ => rfl, fun _ _ => rfl⟩
theorem frS_tr {s : Nat} {m0 m1 m2 : rz_M} (h1 : frS s m0 m1) (h2 : frS s m1 m2) : frS s m0 m2 := ⟨fun x a b => by rw [h2.1 x a b, h1.1 x a b], fun y hy => by rw [h2.2.1 y hy, h1.2.1 y hy], fun y hy => by rw [h2.2.2 y hy, h1.2.2 y hy]⟩
theorem MV_kp {m0 m : rz_M} {s t : Nat} {v : Int} (h : MV m0 t v) (f : frS s m0 m) (hne : t ≠ s) : MV m t v := by
  have e : ∀ j : Int, 0 ≤ j → j < 160 → br m t j = br m0 t j := fun j a b => f.2.1 _ (by omega)
  refine ⟨fun j a b => by rw [e j a b]; exact h.1 j a b, by rw [f.2.2 t (by omega)]; exact h.2.1, ?_⟩
  rw [mg_congr 160 e]
  exact h.2.2
theorem frS_dig {s : Nat} {m0 m : rz_M} (h : frS s m0 m) {k d : Int} (hk : 0 ≤ k ∧ k < 160) : frS s m0 (rz_up m 246 (160 * (s : Int) + k) d) := ⟨fun x a b => by rw [up_ne a]; exact h.1 x a b, fun y hy => by rw [up_nj (by omega)]; exact h.2.1 y hy, fun y hy => by rw [up_ne (by decide)]; exact h.2.2 y hy⟩
theorem frS_sgn {s : Nat} {m0 m : rz_M} (h : frS s m0 m) {d : Int} : frS s m0 (rz_up m 247 s d) := ⟨fun x a b => by rw [up_ne b]; exact h.1 x a b, fun y hy => by rw [up_ne (by decide)]; exact h.2.1 y hy, fun y hy => by rw [up_nj (by omega)]; exact h.2.2 y hy⟩
theorem br_up {m : rz_M} {s : Nat} {k d : Int} : br (rz_up m 246 (160 * (s : Int) + k) d) s k = d := up_eq
theorem br_nj {m : rz_M} {s : Nat} {k d j : Int} (h : j ≠ k) : br (rz_up m 246 (160 * (s : Int) + k) d) s j = br m s j := up_nj (by omega)
theorem l_M_sb44 {s : Nat} (hs : s < 60) {x : Int} (hx : 0 ≤ x ∧ x < 9223372036854775808) {m0 : rz_M} {K : Int → rz_M → Prop} (hK : ∀ m' : rz_M, frS s m0 m' → m' 247 s = m0 247 s → (∀ j : Int, 0 ≤ j → j < 160 → br m' s j = dg4 x j.toNat) → K 0 m') : ∀ (r k : Nat) (m : rz_M), 160 - k = r → k ≤ 160 → frS s m0 m → m 247 s = m0 247 s → (∀ j : Int, 0 ≤ j → j < k → br m s j = dg4 x j.toNat) → rz_E y_M_setBig 44 [rR 221, rI s, rX 0, rX 0, rL x, rX 1, rI k] [] m K
  | 0, k, m, hr, hk, hf, h7, hv => T_M_setBig_44 _ _ _ _ _ (bt (by omega) (hK m hf h7 (fun j a b => hv j a (by omega))))
  | r + 1, k, m, hr, hk, hf, h7, hv => by
    refine T_M_setBig_44 _ _ _ _ _ (bf (by omega) ?_)
    rw [w32_id (z := 160 * (s : Int)) (by omega) (by omega), w32_id (z := 160 * (s : Int) + k) (by omega) (by omega), w32_id (z := (k : Int) + 1) (by omega) (by omega)]
    have go : ∀ d : Int, d = dg4 x k → rz_E y_M_setBig 44 [rR 221, rI s, rX 0, rX 0, rL x, rX 1, rI ((k : Int) + 1)] [] (rz_up m 246 (160 * (s : Int) + k) d) K := fun d hd =>
      l_M_sb44 hs hx hK r (k + 1) _ (by omega) (by omega) (frS_dig hf ⟨by omega, by omega⟩) (by rw [up_ne (by decide)]; exact h7) (fun j a b => by
        by_cases q : j = k
        · rw [q, br_up, hd, Int.toNat_natCast]
        · rw [br_nj q]; exact hv j a (by omega))
    refine bb (fun q => ⟨⟨by omega, by omega⟩, go 0 ?_⟩) (fun q => ⟨⟨by omega, by omega⟩, go _ (dg4_is hx k (by omega))⟩)
    unfold dg4
    rw [if_neg (by omega)]
theorem c_M_setBig {s : Nat} (hs : s < 60) {x : Int} (hx : -9223372036854775808 < x ∧ x < 9223372036854775808) {m : rz_M} {K : Int → rz_M → Prop} (hK : ∀ m' : rz_M, frS s m m' → MV m' s x → K 0 m') : rz_C y_M_setBig [rR 221, rI s, rL x] m K := by
  have go : ∀ w : Int, w = x.natAbs → rz_E y_M_setBig 12 [rR 221, rI s, rL x, rX 1, rX 0, rX 0, rX 0] [rL w] m K := fun w hw => by
    have f44 : ∀ g : Int, g = x.sign → rz_E y_M_setBig 44 [rR 221, rI s, rX 0, rX 0, rL w, rX 1, rI 0] [] (rz_up m 247 s g) K := fun g hg =>
      l_M_sb44 hs (by omega) (fun m' f' s' d' => hK m' (frS_tr (frS_sgn (frS_rf s m)) f') ⟨fun j a b => by rw [d' j a b]; exact dg4_rng w _, by rw [s', up_eq, hg], by
        rw [mg_congr 160 d', mg_dg4 (by omega), hw]⟩) 160 0 _ (by omega) (Nat.zero_le _) (frS_rf _ _) rfl (fun j a b => by omega)
    have s3 := sgn3 x
    exact T_M_setBig_12 _ _ _ _ _ (bb (fun q => bb (fun q2 => ⟨⟨by omega, by omega⟩, f44 0 (by omega)⟩) (fun q2 => ⟨⟨by omega, by omega⟩, f44 1 (by omega)⟩)) (fun q => ⟨⟨by omega, by omega⟩, f44 (-1) (by omega)⟩))
  refine T_M_setBig_0 _ _ _ _ (bb (fun q => go x (by omega)) (fun q => ?_))
  rw [w64_id (by omega) (by omega)]
  exact go (-x) (by omega)
theorem l_M_cb29 {a b : Nat} (ha : a < 60) (hb : b < 60) (hne : a ≠ b) {m0 : rz_M} {K : Int → rz_M → Prop} (hK : ∀ m' : rz_M, frS b m0 m' → m' 247 b = m0 247 b → (∀ j : Int, 0 ≤ j → j < 160 → br m' b j = br m0 a j) → K 0 m') : ∀ (r k : Nat) (m : rz_M), 160 - k = r → k ≤ 160 → frS b m0 m → m 247 b = m0 247 b → (∀ j : Int, 0 ≤ j → j < k → br m b j = br m0 a j) → rz_E y_M_copyBig 29 [rR 221, rI a, rI b, rX 0, rI k] [] m K
  | 0, k, m, hr, hk, hf, h7, hv => T_M_copyBig_29 _ _ _ _ _ (bt (by omega) (hK m hf h7 (fun j x y => hv j x (by omega))))
  | r + 1, k, m, hr, hk, hf, h7, hv => by
    refine T_M_copyBig_29 _ _ _ _ _ (bf (by omega) ?_)
    rw [w32_id (z := 160 * (a : Int)) (by omega) (by omega), w32_id (z := 160 * (a : Int) + k) (by omega) (by omega), w32_id (z := 160 * (b : Int)) (by omega) (by omega), w32_id (z := 160 * (b : Int) + k) (by omega) (by omega), w32_id (z := (k : Int) + 1) (by omega) (by omega), hf.2.1 (160 * (a : Int) + k) (by omega)]
    refine ⟨⟨by omega, by omega⟩, ⟨by omega, by omega⟩, l_M_cb29 ha hb hne hK r (k + 1) _ (by omega) (by omega) (frS_dig hf ⟨by omega, by omega⟩) (by rw [up_ne (by decide)]; exact h7) (fun j x y => ?_)⟩
    by_cases q : j = k
    · rw [q, br_up]; rfl
    · rw [br_nj q]; exact hv j x (by omega)
theorem c_M_copyBig {a b : Nat} (ha : a < 60) (hb : b < 60) (hne : a ≠ b) {m : rz_M} {v : Int} (hv : MV m a v) {t : Int} (ht : t = 0 ∨ t = 1) {K : Int → rz_M → Prop} (hK : ∀ m' : rz_M, frS b m m' → MV m' b (if t = 0 then v else -v) → K 0 m') : rz_C y_M_copyBig [rR 221, rI a, rI b, rI t] m K := by
  have s3 := sgn3 v
  have fin : ∀ g : Int, g = (if t = 0 then v else -v).sign → rz_E y_M_copyBig 29 [rR 221, rI a, rI b, rX 0, rI 0] [] (rz_up m 247 b g) K := fun g hg =>
    l_M_cb29 ha hb hne (fun m' f' s' d' => hK m' (frS_tr (frS_sgn (frS_rf b m)) f') (by
      have e : ∀ j : Int, 0 ≤ j → j < 160 → br m' b j = br m a j := fun j x y => by rw [d' j x y]; exact congrFun (up_ne (by decide)) _
      refine ⟨fun j x y => by rw [e j x y]; exact hv.1 j x y, by rw [s', up_eq, hg], ?_⟩
      rw [mg_congr 160 e, hv.2.2]
      split
      · rfl
      · rw [Int.natAbs_neg])) 160 0 _ (by omega) (Nat.zero_le _) (frS_rf _ _) rfl (fun j x y => by omega)
  refine T_M_copyBig_0 _ _ _ _ _ (bb (fun q => ⟨⟨by omega, by omega⟩, ⟨by omega, by omega⟩, fin _ (by rw [if_pos q]; exact hv.2.1)⟩) (fun q => ⟨⟨by omega, by omega⟩, ⟨by omega, by omega⟩, fin _ ?_⟩))
  rw [if_neg q, hv.2.1, Int.sign_neg, w32_id (by omega) (by omega)]
theorem l_M_ub4 {s : Nat} (hs : s < 60) {m : rz_M} {K : Int → rz_M → Prop} (hK : ∀ n : Nat, n ≤ 160 → (∀ j : Int, (n : Int) ≤ j → j < 160 → br m s j = 0) → K n m) : ∀ n : Nat, n ≤ 160 → (∀ j : Int, (n : Int) ≤ j → j < 160 → br m s j = 0) → rz_E y_M_usedBig 4 [rR 221, rI s, rI n] [] m K
  | 0, hn, hz => T_M_usedBig_4 _ _ _ _ (bt (by omega) (hK 0 hn hz))
  | n + 1, hn, hz => by
    refine T_M_usedBig_4 _ _ _ _ (bf (by omega) ?_)
    rw [w32_id (z := 160 * (s : Int)) (by omega) (by omega), w32_id (z := 160 * (s : Int) + ((n + 1 : Nat) : Int)) (by omega) (by omega), w32_id (z := 160 * (s : Int) + ((n + 1 : Nat) : Int) - 1) (by omega) (by omega), show 160 * (s : Int) + ((n + 1 : Nat) : Int) - 1 = 160 * (s : Int) + n from by omega]
    refine ⟨⟨by omega, by omega⟩, bb (fun q => hK (n + 1) hn hz) (fun q => ?_)⟩
    rw [w32_id (by omega) (by omega), show ((n + 1 : Nat) : Int) + -1 = n from by omega]
    refine l_M_ub4 hs hK n (by omega) (fun j a b => ?_)
    by_cases z : j = n
    · rw [z]; exact Classical.not_not.mp q
    · exact hz j (by omega) b
theorem c_M_usedBig {s : Nat} (hs : s < 60) {m : rz_M} {K : Int → rz_M → Prop} (hK : ∀ n : Nat, n ≤ 160 → (∀ j : Int, (n : Int) ≤ j → j < 160 → br m s j = 0) → K n m) : rz_C y_M_usedBig [rR 221, rI s] m K :=
  T_M_usedBig_0 _ _ _ (l_M_ub4 hs hK 160 (Nat.le_refl _) (fun j a b => by omega))
theorem l_M_cmp4 {a b : Nat} (ha : a < 60) (hb : b < 60) {m : rz_M} (da : d16 (br m a) 160) (db : d16 (br m b) 160) {K : Int → rz_M → Prop} (h0 : mg (br m a) 160 = mg (br m b) 160 → K 0 m) (h1 : mg (br m b) 160 < mg (br m a) 160 → K 1 m) (h2 : mg (br m a) 160 < mg (br m b) 160 → K (-1) m) : ∀ n : Nat, n ≤ 160 → (∀ j : Int, (n : Int) ≤ j → j < 160 → br m a j = br m b j) → rz_E y_M_compareBig 4 [rR 221, rI a, rI b, rI ((n : Int) - 1)] [] m K
  | 0, _, hz => T_M_compareBig_4 _ _ _ _ _ (bt (by omega) (h0 (mg_congr 160 (fun j x y => hz j (by omega) y))))
  | n + 1, hn, hz => by
    refine T_M_compareBig_4 _ _ _ _ _ (bf (by omega) ?_)
    rw [show ((n + 1 : Nat) : Int) - 1 = n from by omega, w32_id (z := 160 * (a : Int)) (by omega) (by omega), w32_id (z := 160 * (a : Int) + n) (by omega) (by omega), w32_id (z := 160 * (b : Int)) (by omega) (by omega), w32_id (z := 160 * (b : Int) + n) (by omega) (by omega)]
    refine ⟨⟨by omega, by omega⟩, ⟨by omega, by omega⟩, bb (fun q => ?_) (fun q => ⟨⟨by omega, by omega⟩, ⟨by omega, by omega⟩, bb (fun z => T_M_compareBig_66 _ _ (h1 ?_)) (fun z => T_M_compareBig_62 _ _ (h2 ?_))⟩)⟩
    · rw [w32_id (by omega) (by omega), show (n : Int) + -1 = (n : Int) - 1 from by omega]
      refine l_M_cmp4 ha hb da db h0 h1 h2 n (by omega) (fun j x y => ?_)
      by_cases w : j = n
      · rw [w]; exact q
      · exact hz j (by omega) y
    · have lt : br m b n < br m a n := by
        have q' : br m a n ≠ br m b n := q
        have z' : br m b n ≤ br m a n := z
        omega
      have := mg_cmp (g := br m b) (h := br m a) (k := n) (fun j x y => db j x (by omega)) (fun j x y => da j x (by omega)) lt (159 - n) (fun j x y => (hz j (by omega) (by omega)).symm)
      rwa [show n + 1 + (159 - n) = 160 from by omega] at this
    · have lt : br m a n < br m b n := Int.not_le.mp z
      have := mg_cmp (g := br m a) (h := br m b) (k := n) (fun j x y => da j x (by omega)) (fun j x y => db j x (by omega)) lt (159 - n) (fun j x y => hz j (by omega) (by omega))
      rwa [show n + 1 + (159 - n) = 160 from by omega] at this
theorem c_M_cmpBig {a b : Nat} (ha : a < 60) (hb : b < 60) {m : rz_M} (da : d16 (br m a) 160) (db : d16 (br m b) 160) {K : Int → rz_M → Prop} (h0 : mg (br m a) 160 = mg (br m b) 160 → K 0 m) (h1 : mg (br m b) 160 < mg (br m a) 160 → K 1 m) (h2 : mg (br m a) 160 < mg (br m b) 160 → K (-1) m) : rz_C y_M_compareBig [rR 221, rI a, rI b] m K :=
  T_M_compareBig_0 _ _ _ _ (l_M_cmp4 ha hb da db h0 h1 h2 160 (Nat.le_refl _) (fun j x y => by omega))
/-- adding sizes -/
theorem l_M_pb51 {a b : Nat} (ha : a < 60) (hb : b < 60) (hne : a ≠ b) {m0 : rz_M} (da : d16 (br m0 a) 160) (db : d16 (br m0 b) 160) (lim : mg (br m0 a) 160 + mg (br m0 b) 160 < qw 160) {K : Int → rz_M → Prop} (hK : ∀ m' : rz_M, frS a m0 m' → m' 247 a = m0 247 a → d16 (br m' a) 160 → mg (br m' a) 160 = mg (br m0 a) 160 + mg (br m0 b) 160 → K 0 m') : ∀ (r k : Nat) (c : Int) (m : rz_M), 160 - k = r → k ≤ 160 → frS a m0 m → m 247 a = m0 247 a → (0 ≤ c ∧ c ≤ 1) → (∀ j : Int, 0 ≤ j → j < k → 0 ≤ br m a j ∧ br m a j < 65536) → (∀ j : Int, (k : Int) ≤ j → j < 160 → br m a j = br m0 a j) → mg (br m a) k + c * qw k = mg (br m0 a) k + mg (br m0 b) k → rz_E y_M_plusBig 51 [rR 221, rI a, rI b, rI c, rI k, rX 0, rX 0] [] m K
  | 0, k, c, m, hr, hk, hf, h7, hc, hd, hv, he => by
    have e : k = 160 := by omega
    subst e
    have c0 : c = 0 := by
      refine Classical.byContradiction fun q => ?_
      have c1 : c = 1 := by omega
      have nn := mg_nn (g := br m a) 160 hd
      rw [c1, Int.one_mul] at he
      omega
    rw [c0, Int.zero_mul, Int.add_zero] at he
    exact T_M_plusBig_51 _ _ _ _ _ _ (bt (by omega) (hK m hf h7 hd he))
  | r + 1, k, c, m, hr, hk, hf, h7, hc, hd, hv, he => by
    have ea : m 246 (160 * (a : Int) + k) = br m0 a k := hv k (by omega) (by omega)
    have eb : m 246 (160 * (b : Int) + k) = br m0 b k := hf.2.1 _ (by omega)
    have ra := da k (by omega) (by omega)
    have rb := db k (by omega) (by omega)
    refine T_M_plusBig_51 _ _ _ _ _ _ (bf (by omega) ?_)
    rw [w32_id (z := 160 * (a : Int)) (by omega) (by omega), w32_id (z := 160 * (a : Int) + k) (by omega) (by omega), w32_id (z := 160 * (b : Int)) (by omega) (by omega), w32_id (z := 160 * (b : Int) + k) (by omega) (by omega), ea, eb, w32_id (z := br m0 a k + br m0 b k) (by omega) (by omega), w32_id (z := br m0 a k + br m0 b k + c) (by omega) (by omega), and16_32]
    refine ⟨⟨by omega, by omega⟩, ⟨by omega, by omega⟩, ⟨by omega, by omega⟩, T_M_plusBig_109 _ _ _ _ _ _ ?_⟩
    generalize hw : br m0 a k + br m0 b k + c = w
    rw [shr16_32 (show R32 w by unfold R32; omega), w32_id (z := (k : Int) + 1) (by omega) (by omega)]
    refine l_M_pb51 ha hb hne da db lim hK r (k + 1) (w / 65536) _ (by omega) (by omega) (frS_dig hf ⟨by omega, by omega⟩) (by rw [up_ne (by decide)]; exact h7) (by omega) (fun j x y => ?_) (fun j x y => ?_) ?_
    · by_cases q : j = k
      · rw [q, br_up]; omega
      · rw [br_nj q]; exact hd j x (by omega)
    · rw [br_nj (by omega)]; exact hv j (by omega) y
    · have u := mg_congr (g := br (rz_up m 246 (160 * (a : Int) + k) (w % 65536)) a) (h := br m a) k (fun j x y => br_nj (by omega))
      show mg _ k + br (rz_up m 246 (160 * (a : Int) + k) (w % 65536)) a k * qw k + w / 65536 * (qw k * 65536) = mg (br m0 a) k + br m0 a k * qw k + (mg (br m0 b) k + br m0 b k * qw k)
      rw [u, br_up]
      have e1 : w % 65536 * qw k + w / 65536 * (qw k * 65536) = w * qw k := by
        have : w = w % 65536 + 65536 * (w / 65536) := by omega
        generalize w % 65536 = x at *
        generalize w / 65536 = y at *
        rw [this]
        grind
      have e2 : w * qw k = br m0 a k * qw k + br m0 b k * qw k + c * qw k := by rw [← hw]; grind
      omega
/-- the greater less the smaller, into slot a; g, h: their digits -/
theorem l_M_pb135 {a b : Nat} (ha : a < 60) (hb : b < 60) (hne : a ≠ b) {m0 : rz_M} {how : Int} {g h : Int → Int} (hgh : (0 ≤ how ∧ g = br m0 a ∧ h = br m0 b) ∨ (how < 0 ∧ g = br m0 b ∧ h = br m0 a)) (hr32 : R32 how) (dgg : d16 g 160) (dh : d16 h 160) (le : mg h 160 ≤ mg g 160) {K : Int → rz_M → Prop} (hK : ∀ m' : rz_M, frS a m0 m' → m' 247 a = m0 247 a → d16 (br m' a) 160 → mg (br m' a) 160 = mg g 160 - mg h 160 → rz_E y_M_plusBig 135 [rR 221, rI a, rI b, rI how, rI 0, rI 160, rX 0] [] m' K) : ∀ (r k : Nat) (c : Int) (m : rz_M), 160 - k = r → k ≤ 160 → frS a m0 m → m 247 a = m0 247 a → (0 ≤ c ∧ c ≤ 1) → (∀ j : Int, 0 ≤ j → j < k → 0 ≤ br m a j ∧ br m a j < 65536) → (∀ j : Int, (k : Int) ≤ j → j < 160 → br m a j = br m0 a j) → mg (br m a) k - c * qw k = mg g k - mg h k → rz_E y_M_plusBig 135 [rR 221, rI a, rI b, rI how, rI c, rI k, rX 0] [] m K
  | 0, k, c, m, hr, hk, hf, h7, hc, hd, hv, he => by
    have e : k = 160 := by omega
    subst e
    have c0 : c = 0 := by
      refine Classical.byContradiction fun q => ?_
      have c1 : c = 1 := by omega
      have lt := mg_lt (g := br m a) 160 hd
      rw [c1, Int.one_mul] at he
      omega
    subst c0
    rw [Int.zero_mul, Int.sub_zero] at he
    exact hK m hf h7 hd he
  | r + 1, k, c, m, hr, hk, hf, h7, hc, hd, hv, he => by
    have ea : m 246 (160 * (a : Int) + k) = br m0 a k := hv k (by omega) (by omega)
    have eb : m 246 (160 * (b : Int) + k) = br m0 b k := hf.2.1 _ (by omega)
    have rg := dgg k (by omega) (by omega)
    have rh := dh k (by omega) (by omega)
    have st : ∀ w c' : Int, w = g k - h k - c → (c' = if w < 0 then 1 else 0) → rz_E y_M_plusBig 223 [rR 221, rI a, rI b, rI how, rX 0, rI k, rI w] [rI c'] m K := fun w c' hw hc' => by
      refine T_M_plusBig_223 _ _ _ _ _ _ _ _ ?_
      rw [w32_id (z := 160 * (a : Int)) (by omega) (by omega), w32_id (z := 160 * (a : Int) + k) (by omega) (by omega), w32_id (z := (k : Int) + 1) (by omega) (by omega), and16_32]
      have c01 : 0 ≤ c' ∧ c' ≤ 1 := by rw [hc']; split <;> omega
      have wm : w % 65536 = w + c' * 65536 := by rw [hc']; split <;> omega
      refine ⟨⟨by omega, by omega⟩, l_M_pb135 ha hb hne hgh hr32 dgg dh le hK r (k + 1) c' _ (by omega) (by omega) (frS_dig hf ⟨by omega, by omega⟩) (by rw [up_ne (by decide)]; exact h7) c01 (fun j x y => ?_) (fun j x y => ?_) ?_⟩
      · by_cases q : j = k
        · rw [q, br_up]; omega
        · rw [br_nj q]; exact hd j x (by omega)
      · rw [br_nj (by omega)]; exact hv j (by omega) y
      · have u := mg_congr (g := br (rz_up m 246 (160 * (a : Int) + k) (w % 65536)) a) (h := br m a) k (fun j x y => br_nj (by omega))
        show mg _ k + br (rz_up m 246 (160 * (a : Int) + k) (w % 65536)) a k * qw k - c' * (qw k * 65536) = mg g k + g k * qw k - (mg h k + h k * qw k)
        rw [u, br_up, wm]
        have e1 : (w + c' * 65536) * qw k - c' * (qw k * 65536) = w * qw k := by grind
        have e2 : w * qw k = g k * qw k - h k * qw k - c * qw k := by rw [hw]; grind
        omega
    have ifs : ∀ w : Int, (0 ≤ w → (0 : Int) = if w < 0 then 1 else 0) ∧ (¬ 0 ≤ w → (1 : Int) = if w < 0 then 1 else 0) := fun w => ⟨fun q => by rw [if_neg (by omega)], fun q => by rw [if_pos (by omega)]⟩
    refine T_M_plusBig_135 _ _ _ _ _ _ _ (bf (by omega) ?_)
    rw [w32_id (z := 160 * (a : Int)) (by omega) (by omega), w32_id (z := 160 * (a : Int) + k) (by omega) (by omega), w32_id (z := 160 * (b : Int)) (by omega) (by omega), w32_id (z := 160 * (b : Int) + k) (by omega) (by omega), ea, eb]
    rcases hgh with ⟨q, eg, eh⟩ | ⟨q, eg, eh⟩
    · have gk : br m0 a k = g k := by rw [eg]
      have hk' : br m0 b k = h k := by rw [eh]
      rw [gk, hk', w32_id (z := g k - h k) (by omega) (by omega), w32_id (z := g k - h k - c) (by omega) (by omega)]
      exact bf (by omega) ⟨⟨by omega, by omega⟩, ⟨by omega, by omega⟩, bb (fun z => st _ 0 rfl ((ifs _).1 z)) (fun z => st _ 1 rfl ((ifs _).2 z))⟩
    · have gk : br m0 b k = g k := by rw [eg]
      have hk' : br m0 a k = h k := by rw [eh]
      rw [gk, hk', w32_id (z := g k - h k) (by omega) (by omega), w32_id (z := g k - h k - c) (by omega) (by omega)]
      exact bt q ⟨⟨by omega, by omega⟩, ⟨by omega, by omega⟩, bb (fun z => st _ 0 rfl ((ifs _).1 z)) (fun z => st _ 1 rfl ((ifs _).2 z))⟩
theorem c_M_plusBig {a b : Nat} (ha : a < 60) (hb : b < 60) (hne : a ≠ b) {m : rz_M} {u v : Int} (hu : MV m a u) (hv : MV m b v) (lim : (u.natAbs : Int) + (v.natAbs : Int) < qw 160) {K : Int → rz_M → Prop} (hK : ∀ m' : rz_M, frS a m m' → MV m' a (u + v) → K 0 m') : rz_C y_M_plusBig [rR 221, rI a, rI b] m K := by
  have su := sgn3 u
  have sv := sgn3 v
  have suv := sgn3 (u + v)
  have add : (u = 0 ∨ u.sign = v.sign) → rz_E y_M_plusBig 51 [rR 221, rI a, rI b, rI 0, rI 0, rX 0, rX 0] [] (rz_up m 247 a (m 247 b)) K := fun h => by
    have eb : ∀ s : Nat, br (rz_up m 247 a (m 247 b)) s = br m s := fun s => by unfold br; rw [up_ne (by decide)]
    refine l_M_pb51 ha hb hne (m0 := rz_up m 247 a (m 247 b)) (by rw [eb]; exact hu.1) (by rw [eb]; exact hv.1) (by rw [eb, eb, hu.2.2, hv.2.2]; exact lim) (fun m' f' s' d' e' => hK m' (frS_tr (frS_sgn (frS_rf a m)) f') ⟨d', ?_, ?_⟩) 160 0 0 _ (by omega) (Nat.zero_le _) (frS_rf _ _) rfl ⟨Int.le_refl _, by decide⟩ (fun j x y => by omega) (fun j x y => rfl) (by show (0 : Int) + 0 * qw 0 = 0 + 0; omega)
    · rw [s', up_eq, hv.2.1]
      omega
    · rw [e', eb, eb, hu.2.2, hv.2.2]
      omega
  refine T_M_plusBig_0 _ _ _ _ ⟨⟨by omega, by omega⟩, ?_⟩
  rw [hu.2.1, hv.2.1]
  rw [hv.2.1] at add
  refine bb (fun q => ⟨⟨by omega, by omega⟩, bb (fun z => ⟨⟨by omega, by omega⟩, ⟨by omega, by omega⟩, add (Or.inl (by omega))⟩) (fun z => ⟨⟨by omega, by omega⟩, ⟨by omega, by omega⟩, bb (fun w => ?_) (fun w => ⟨⟨by omega, by omega⟩, ⟨by omega, by omega⟩, add (Or.inr (Classical.not_not.mp w))⟩)⟩)⟩) (fun q => hK m (frS_rf a m) ?_)
  · -- unlike signs
    have fin : ∀ (m' : rz_M) (s z : Int), frS a m m' → d16 (br m' a) 160 → mg (br m' a) 160 = z → s = (u + v).sign → z = (u + v).natAbs → K 0 (rz_up m' 247 a s) := fun m' s z f' d' e' hs hm => hK _ (frS_sgn f') (by
      have eb : br (rz_up m' 247 a s) a = br m' a := by unfold br; rw [up_ne (by decide)]
      exact ⟨by rw [eb]; exact d', by rw [up_eq, hs], by rw [eb, e', hm]⟩)
    have sub : ∀ (how : Int) (g h : Int → Int), R32 how → ((0 ≤ how ∧ g = br m a ∧ h = br m b) ∨ (how < 0 ∧ g = br m b ∧ h = br m a)) → mg h 160 ≤ mg g 160 → (∀ m' : rz_M, frS a m m' → m' 247 a = u.sign → m' 247 b = v.sign → d16 (br m' a) 160 → mg (br m' a) 160 = mg g 160 - mg h 160 → (((how ≠ 0) → (((how ≤ 0) → (rz_in (b : Int) 60 ∧ (rz_in (a : Int) 60 ∧ K 0 (rz_up m' 247 a (m' 247 b))))) ∧ (¬ (how ≤ 0) → (rz_in (a : Int) 60 ∧ (rz_in (a : Int) 60 ∧ K 0 (rz_up m' 247 a (m' 247 a))))))) ∧ (¬ (how ≠ 0) → (rz_in (a : Int) 60 ∧ K 0 (rz_up m' 247 a 0))))) → rz_E y_M_plusBig 135 [rR 221, rI a, rI b, rI how, rI 0, rI 0, rX 0] [] m K := fun how g h hr hgh le hE => by
      have dd : d16 g 160 ∧ d16 h 160 := by
        rcases hgh with ⟨_, x, y⟩ | ⟨_, x, y⟩
        · rw [x, y]; exact ⟨hu.1, hv.1⟩
        · rw [x, y]; exact ⟨hv.1, hu.1⟩
      exact l_M_pb135 ha hb hne hgh hr dd.1 dd.2 le (fun m' f' s' d' e' => T_M_plusBig_135 _ _ _ _ _ _ _ (bt (by omega) (hE m' f' (by rw [s']; exact hu.2.1) (by rw [f'.2.2 b (by omega)]; exact hv.2.1) d' e'))) 160 0 0 m (by omega) (Nat.zero_le _) (frS_rf _ _) rfl ⟨Int.le_refl _, by decide⟩ (fun j x y => by omega) (fun j x y => rfl) (by show (0 : Int) - 0 * qw 0 = 0 - 0; omega)
    have mu := hu.2.2
    have mv := hv.2.2
    refine c_M_cmpBig ha hb hu.1 hv.1 (fun e => ?_) (fun e => ?_) (fun e => ?_)
    · refine sub 0 _ _ (by unfold R32; decide) (Or.inl ⟨Int.le_refl _, rfl, rfl⟩) (by omega) (fun m' f' sa sb d' e' => bf (by decide) ⟨⟨by omega, by omega⟩, fin m' 0 _ f' d' e' (by omega) (by omega)⟩)
    · refine sub 1 _ _ (by unfold R32; decide) (Or.inl ⟨by decide, rfl, rfl⟩) (by omega) (fun m' f' sa sb d' e' => bt (by decide) (bf (by decide) ⟨⟨by omega, by omega⟩, ⟨by omega, by omega⟩, fin m' _ _ f' d' e' (by rw [sa]; omega) (by omega)⟩))
    · refine sub (-1) _ _ (by unfold R32; decide) (Or.inr ⟨by decide, rfl, rfl⟩) (by omega) (fun m' f' sa sb d' e' => bt (by decide) (bt (by decide) ⟨⟨by omega, by omega⟩, ⟨by omega, by omega⟩, fin m' _ _ f' d' e' (by rw [sb]; omega) (by omega)⟩))
  · have : v = 0 := by omega
    rw [this, Int.add_zero]
    exact hu
