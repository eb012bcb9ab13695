/-! SignChain: one place is taken away -/
theorem sc_bg0 : ∀ i : Nat, i < 52 → (rz_isC (67 + 2 * i) 0 = true ∧ rz_R (67 + 2 * i) 0 = 67 + 2 * i + 1 ∧ rz_isK (67 + 2 * i + 1) 1 = true ∧ rz_len (67 + 2 * i + 1) = 40) := by decide +kernel
theorem sc_bg {a : Nat} (i : Nat) (h : a = 67 + 2 * i) (hi : i < 52) : bgO a := by
  rw [h]
  exact sc_bg0 i hi
theorem sc_bk {k : Nat} (hk : k < 49) : bgO (73 + 2 * k) := sc_bg (k + 3) (by omega) (by omega)
theorem sc_R : ∀ k : Nat, k < 49 → rz_R 65 (k : Int) = 73 + 2 * k := by decide +kernel
theorem BV_fr {m m' : rz_M} {a : Nat} {v : Int} (h : BV m a v) (e1 : m' a = m a) (e2 : m' (a + 1) = m (a + 1)) : BV m' a v := by
  obtain ⟨g, e⟩ := h
  refine ⟨?_, ?_⟩
  · unfold bg; rw [e1, e2]; exact g
  · unfold bv; rw [e1, e2]; exact e
theorem BV_sg {m : rz_M} {a : Nat} {v : Int} (h : BV m a v) : m a 2 = v.sign := by
  obtain ⟨g, e⟩ := h
  have s := sgn3 v
  rcases bv_sgn g with ⟨x, y⟩ | ⟨x, y⟩ | ⟨x, y⟩ <;> omega
theorem LIM_pw : LIM * 1001 ^ 8 * 4 < pw 40 := by decide +kernel
theorem LIM_pos : 0 < LIM := by decide +kernel
theorem LIM4 : 4 * LIM < pw 40 := by decide +kernel
theorem c_flip {c : Nat} (hc : bgO c) {m : rz_M} {v : Int} (g : BV m c v) {K : Int → rz_M → Prop} (h : ∀ m', bgw c m m' → BV m' c (-v) → K 0 m') : rz_C y_Big_flip [rR c] m K :=
  c_Big_flip hc g.1 (fun m' w b e => h m' w ⟨b, by rw [e, g.2]⟩)
def frL (t : Nat) (m0 m : rz_M) : Prop := ∀ x : Nat, (x < 69 ∨ 170 < x ∨ (73 ≤ x ∧ (x < 73 + 2 * t ∨ 73 + 2 * t + 14 ≤ x))) → m x = m0 x
theorem l_SC_lw24 {t p j bD : Nat} (htp : t = p + 7) (ht : t + 6 < 49) (hbj : bD ≤ j) (hj : j ≤ 6) {h B : Int → Int} {m0 : rz_M} (hB : ∀ i : Nat, i ≤ 6 → BV m0 (73 + 2 * (p + i)) (B i)) (B0 : B bD ≠ 0) (hb : ∀ i : Nat, i < j → bd (B bD * h i) LIM ∧ (j - bD ≤ i → bd (h j * B ((i - (j - bD) : Nat) : Int)) LIM)) {K : Int → rz_M → Prop}
    (hK : ∀ m' : rz_M, frL t m0 m' → (∀ i : Nat, i ≤ 6 → BV m' (73 + 2 * (t + i)) (lowF (B bD) (h j) h B j bD i)) → K 0 m') :
    ∀ (r i : Nat) (m : rz_M), j - i = r → i ≤ j → frL t m0 m → (∀ i' : Nat, i' ≤ 6 → BV m (73 + 2 * (t + i')) (if i' < i then lowF (B bD) (h j) h B j bD i' else h i')) → rz_E y_SC_lower 24 [rR 64, rI t, rI j, rI p, rI bD, rR (73 + 2 * (t + j)), rR (73 + 2 * (p + bD)), rI i, rX 0, rX 0] [] m K := by
  have lp := LIM4
  have l0 := LIM_pos
  have g69 : bgO 69 := sc_bg 1 rfl (by decide)
  have g71 : bgO 71 := sc_bg 2 rfl (by decide)
  intro r
  induction r with
  | zero =>
    intro i m hr hi hf hv
    have e : i = j := by omega
    subst e
    refine T_SC_lower_24 _ _ _ _ _ _ _ _ _ (bt (Int.le_refl _) ⟨(sc_bk (by omega)).1, b_put (sc_bk (by omega)) (by decide) (fun m' w b => hK m' (fun x hx => ?_) (fun i' hi' => ?_))⟩)
    · rw [w x (by omega) (by omega)]
      exact hf x hx
    · by_cases q : i' = i
      · subst q
        have e : lowF (B bD) (h i') h B i' bD i' = 0 := if_pos rfl
        rw [e]
        exact b
      · have b' := hv i' hi'
        by_cases z : i' < i
        · rw [if_pos z] at b'
          exact BV_kp b' w (by omega) (by omega) (by omega)
        · rw [if_neg z] at b'
          have e : lowF (B bD) (h i) h B i bD i' = h i' := by
            unfold lowF
            rw [if_neg (by omega), if_neg (by omega)]
          rw [e]
          exact BV_kp b' w (by omega) (by omega) (by omega)
  | succ r ih =>
    intro i m hr hi hf hv
    have lt : i < j := by omega
    obtain ⟨hb1, hb2⟩ := hb i lt
    have vL : BV m (73 + 2 * (p + bD)) (B bD) := BV_fr (hB bD (by omega)) (hf _ (by omega)) (hf _ (by omega))
    have vT : BV m (73 + 2 * (t + j)) (h j) := by
      have := hv j hj
      rwa [if_neg (by omega)] at this
    have vH : BV m (73 + 2 * (t + i)) (h i) := by
      have := hv i (by omega)
      rwa [if_neg (by omega)] at this
    have go : ∀ (mm : rz_M) (val : Int), (∀ x : Nat, x < 69 ∨ 72 < x → mm x = m x) → BV mm 69 val → lowF (B bD) (h j) h B j bD i = (B bD).sign * val → rz_E y_SC_lower 100 [rR 64, rI t, rI j, rI p, rI bD, rR (73 + 2 * (t + j)), rR (73 + 2 * (p + bD)), rI i, rR (73 + 2 * (t + i)), rX 0] [] mm K := fun mm val fm bv69 ev => by
      have vL' : BV mm (73 + 2 * (p + bD)) (B bD) := BV_fr vL (fm _ (by omega)) (fm _ (by omega))
      have nx : ∀ (m5 : rz_M) (val' : Int), (∀ x : Nat, x < 69 ∨ 72 < x → m5 x = m x) → BV m5 69 val' → val' = lowF (B bD) (h j) h B j bD i → rz_C y_Big_take [rR (73 + 2 * (t + i)), rR 69] m5 (fun r2 m2 => rz_E y_SC_lower 24 [rR 64, rI t, rI j, rI p, rI bD, rR (73 + 2 * (t + j)), rR (73 + 2 * (p + bD)), rI (w32 ((i : Int) + 1)), rX 0, rX 0] [] m2 K) := fun m5 val' f5 b5 e5 => by
        rw [w32_id (z := (i : Int) + 1) (by omega) (by omega)]
        refine b_take g69 (sc_bk (by omega)) (by omega) b5 (fun m6 w6 b6 => ih (i + 1) m6 (by omega) (by omega) (fun x hx => ?_) (fun i' hi' => ?_))
        · rw [w6 x (by omega) (by omega), f5 x (by omega)]
          exact hf x hx
        · by_cases q : i' = i
          · subst q
            rw [if_pos (by omega), ← e5]
            exact b6
          · have b' : BV m5 (73 + 2 * (t + i')) (if i' < i then lowF (B bD) (h j) h B j bD i' else h i') := BV_fr (hv i' hi') (f5 _ (by omega)) (f5 _ (by omega))
            have e : (if i' < i then lowF (B bD) (h j) h B j bD i' else h i') = (if i' < i + 1 then lowF (B bD) (h j) h B j bD i' else h i') := by
              by_cases z : i' < i
              · rw [if_pos z, if_pos (by omega)]
              · rw [if_neg z, if_neg (by omega)]
            rw [e] at b'
            exact BV_kp b' w6 (by omega) (by omega) (by omega)
      refine T_SC_lower_100 _ _ _ _ _ _ _ _ _ _ ⟨(sc_bk (by omega)).1, c_Big_sign (sc_bk (by omega)) ?_⟩
      rw [BV_sg vL']
      have s3 := sgn3 (B bD)
      refine bb (fun q => ⟨(sc_bk (by omega)).1, nx mm val fm bv69 ?_⟩) (fun q => c_flip g69 bv69 (fun m4 w4 b4 => ⟨(sc_bk (by omega)).1, nx m4 (-val) (fun x hx => ?_) b4 ?_⟩))
      · rw [ev]
        have : (B bD).sign = 1 := by omega
        rw [this, Int.one_mul]
      · rw [w4 x (by omega) (by omega)]
        exact fm x hx
      · rw [ev]
        have : (B bD).sign = -1 := by omega
        rw [this]
        omega
    have low : lowF (B bD) (h j) h B j bD i = (B bD).sign * (B bD * h i - (if (j : Int) - bD ≤ i then h j * B ((i : Int) - ((j : Int) - bD)) else 0)) := by
      unfold lowF
      rw [if_neg (by omega), if_pos (by omega)]
    refine T_SC_lower_24 _ _ _ _ _ _ _ _ _ (bf (by omega) ?_)
    rw [w32_id (z := (t : Int) + i) (by omega) (by omega), w32_id (z := (j : Int) - bD) (by omega) (by omega), w32_id (z := (i : Int) - ((j : Int) - bD)) (by omega) (by omega), show (t : Int) + i = ((t + i : Nat) : Int) from by omega, sc_R (t + i) (by omega)]
    have n1 := bd_n.mp hb1
    rw [Int.natAbs_mul] at n1
    refine ⟨⟨by omega, by omega⟩, b_mul (a := 73 + 2 * (p + bD)) (b := 73 + 2 * (t + i)) (c := 69) (sc_bk (by omega)) (sc_bk (by omega)) g69 (by omega) (by omega) vL vH (by omega) (fun m2 w2 b2 => bb (fun q => ?_) (fun q => ?_))⟩
    · refine go m2 _ (fun x hx => w2 x (by omega) (by omega)) b2 ?_
      rw [low, if_neg (by omega), Int.sub_zero]
    · have n2 := bd_n.mp (hb2 (by omega))
      rw [Int.natAbs_mul] at n2
      have ei : (i : Int) - ((j : Int) - bD) = ((i - (j - bD) : Nat) : Int) := by omega
      rw [ei, w32_id (z := (p : Int) + ((i - (j - bD) : Nat) : Int)) (by omega) (by omega), show (p : Int) + ((i - (j - bD) : Nat) : Int) = ((p + (i - (j - bD)) : Nat) : Int) from by omega, sc_R (p + (i - (j - bD))) (by omega)]
      have vT2 : BV m2 (73 + 2 * (t + j)) (h j) := BV_kp vT w2 (by omega) (by omega) (by omega)
      have vB2 : BV m2 (73 + 2 * (p + (i - (j - bD)))) (B ((i - (j - bD) : Nat) : Int)) := BV_fr (hB (i - (j - bD)) (by omega)) (by rw [w2 _ (by omega) (by omega)]; exact hf _ (by omega)) (by rw [w2 _ (by omega) (by omega)]; exact hf _ (by omega))
      refine ⟨⟨by omega, by omega⟩, b_mul (a := 73 + 2 * (t + j)) (b := 73 + 2 * (p + (i - (j - bD)))) (c := 71) (sc_bk (by omega)) (sc_bk (by omega)) g71 (by omega) (by omega) vT2 vB2 (by omega) (fun m3 w3 b3 => ?_)⟩
      have b23 : BV m3 69 (B bD * h i) := BV_kp b2 w3 (by decide) (by decide) (by decide)
      refine b_add g69 g71 g69 b23 b3 (Or.inr rfl) (by rw [Int.natAbs_mul, Int.natAbs_mul]; omega) (fun m4 w4 b4 => go m4 _ (fun x hx => ?_) b4 ?_)
      · rw [w4 x (by omega) (by omega), w3 x (by omega) (by omega), w2 x (by omega) (by omega)]
      · rw [low, if_pos (by omega), ei]
        congr 1
        omega
theorem c_SC_lower {t p j bD : Nat} (htp : t = p + 7) (ht : t + 6 < 49) (hbj : bD ≤ j) (hj : j ≤ 6) {h B : Int → Int} {m0 : rz_M} (hB : ∀ i : Nat, i ≤ 6 → BV m0 (73 + 2 * (p + i)) (B i)) (hH : ∀ i : Nat, i ≤ 6 → BV m0 (73 + 2 * (t + i)) (h i)) (B0 : B bD ≠ 0) (hb : ∀ i : Nat, i < j → bd (B bD * h i) LIM ∧ (j - bD ≤ i → bd (h j * B ((i - (j - bD) : Nat) : Int)) LIM)) {K : Int → rz_M → Prop}
    (hK : ∀ m' : rz_M, frL t m0 m' → (∀ i : Nat, i ≤ 6 → BV m' (73 + 2 * (t + i)) (lowF (B bD) (h j) h B j bD i)) → K 0 m') : rz_C y_SC_lower [rR 64, rI t, rI j, rI p, rI bD] m0 K := by
  refine T_SC_lower_0 _ _ _ _ _ _ ?_
  rw [w32_id (z := (t : Int) + j) (by omega) (by omega), w32_id (z := (p : Int) + bD) (by omega) (by omega), show (t : Int) + j = ((t + j : Nat) : Int) from by omega, show (p : Int) + bD = ((p + bD : Nat) : Int) from by omega, sc_R (t + j) (by omega), sc_R (p + bD) (by omega)]
  refine ⟨⟨by omega, by omega⟩, ⟨by omega, by omega⟩, ?_⟩
  exact l_SC_lw24 htp ht hbj hj hB B0 hb hK j 0 m0 rfl (Nat.zero_le _) (fun _ _ => rfl) (fun i' hi' => by rw [if_neg (by omega)]; exact hH i' hi')
