/-! Splitter: powers of x, linear factors -/
def prt (a b c d : Int) : Int → Int := fun y => if y = 0 then a else if y = 1 then b else if y = 2 then c else if y = 3 then d else 0
theorem prt_z {a b c d y : Int} (h : 3 < y) : prt a b c d y = 0 := by
  unfold prt
  rw [if_neg (by omega), if_neg (by omega), if_neg (by omega), if_neg (by omega)]
theorem c_Sp_setPart {a b c d : Int} {m : rz_M} {K : Int → rz_M → Prop} (h : ∀ m' : rz_M, (∀ i, i ≠ 59 → m' i = m i) → (∀ y : Int, 0 ≤ y → y < 7 → m' 59 y = prt a b c d y) → K 0 m') : rz_C y_Sp_setPart [rR 55, rL a, rL b, rL c, rL d] m K := by
  refine T_Sp_setPart_0 _ _ _ _ _ _ (c_RC_clear (n := 7) (by decide +kernel) (by decide +kernel) (by decide) ⟨⟨by decide, by decide⟩, ⟨by decide, by decide⟩, ⟨by decide, by decide⟩, ⟨by decide, by decide⟩, h _ (fun i hi => by rw [up_ne hi, up_ne hi, up_ne hi, up_ne hi, wr_ne hi]) (fun y y0 y1 => ?_)⟩)
  unfold prt
  by_cases q3 : y = 3
  · subst q3
    rw [up_eq, if_neg (by decide), if_neg (by decide), if_neg (by decide), if_pos rfl]
  · rw [up_nj q3]
    by_cases q2 : y = 2
    · subst q2
      rw [up_eq, if_neg (by decide), if_neg (by decide), if_pos rfl]
    · rw [up_nj q2]
      by_cases q1 : y = 1
      · subst q1
        rw [up_eq, if_neg (by decide), if_pos rfl]
      · rw [up_nj q1]
        by_cases q0 : y = 0
        · subst q0
          rw [up_eq, if_pos rfl]
        · rw [up_nj q0, wr_in y0 y1, if_neg q0, if_neg q1, if_neg q2, if_neg q3]
section
variable {R : Type}
theorem prim_dv [Lean.Grind.CommRing R] {co : R → Nat → Int} {mk : Nat → (Nat → Int) → R} (H : PolyR co mk) {g f : R} (hf : prim co f) (h : zd g f) : prim co g := by
  intro p hp hd
  obtain ⟨q, e⟩ := h
  refine hf p hp ?_
  rw [e, show g * q = q * g from by grind]
  exact dvp_mul H q hd
theorem unit_of [Lean.Grind.CommRing R] {co : R → Nat → Int} {mk : Nat → (Nat → Int) → R} (H : PolyR co mk) {x g : R} (hg : prim co g) (hx : tz co x 0) (h : zd x g) : unitZ x := by
  have ex : x = mo mk 0 (co x 0) := H.1 _ _ (fun k => by
    rw [co_mo H]
    by_cases q : k = 0
    · rw [q, if_pos rfl]
    · rw [if_neg q]
      exact hx.2 k (by omega))
  by_cases c1 : co x 0 = 1
  · exact Or.inl (by rw [ex, c1]; exact C_one H)
  · by_cases c2 : co x 0 = -1
    · refine Or.inr (H.1 _ _ (fun k => ?_))
      rw [ex, c2, co_mo H, co_neg H, H.2.2.2.1]
      split <;> rfl
    · exfalso
      obtain ⟨p, hp, hd⟩ := pr_ex2 hx.1 c1 c2
      refine prim_dv H hg h p hp (fun k => ?_)
      rw [ex, co_mo H]
      split
      · exact hd
      · exact Int.dvd_zero p
theorem irz_mk [Lean.Grind.CommRing R] {co : R → Nat → Int} {mk : Nat → (Nat → Int) → R} (H : PolyR co mk) {g : R} {d : Nat} (hg : prim co g) (ht : tz co g d) (hd : 1 ≤ d) (h : ∀ (a b : R) (i j : Nat), g = a * b → tz co a i → tz co b j → i + j = d → 1 ≤ i → i ≤ j → False) : irz co g d := by
  refine ⟨hd, ht, fun a b e => ?_⟩
  obtain ⟨i, j, hi, hj, hij⟩ := zd_deg H ht e
  by_cases i0 : i = 0
  · subst i0
    exact Or.inl (unit_of H hg hi ⟨b, e⟩)
  · by_cases j0 : j = 0
    · subst j0
      exact Or.inr (unit_of H hg hj ⟨a, by rw [e]; grind⟩)
    · exfalso
      rcases Nat.le_total i j with q | q
      · exact h a b i j e hi hj hij (by omega) q
      · exact h b a j i (by rw [e]; grind) hj hi (by omega) (by omega) q
theorem lin_form [Lean.Grind.CommRing R] {co : R → Nat → Int} {mk : Nat → (Nat → Int) → R} (H : PolyR co mk) {a : R} (h : tz co a 1) : a = mo mk 1 (co a 1) + mo mk 0 (co a 0) := H.1 _ _ (fun k => by
  rw [H.2.1, co_mo H, co_mo H]
  by_cases q : k = 0
  · subst q
    rw [if_neg (by decide), if_pos rfl, Int.zero_add]
  · by_cases z : k = 1
    · subst z
      rw [if_pos rfl, if_neg (by decide), Int.add_zero]
    · rw [if_neg z, if_neg q, h.2 k (by omega)]
      rfl)
theorem lin_tz [Lean.Grind.CommRing R] {co : R → Nat → Int} {mk : Nat → (Nat → Int) → R} (H : PolyR co mk) {a b : Int} (ha : a ≠ 0) : tz co (mo mk 1 a + mo mk 0 b : R) 1 := by
  refine ⟨?_, fun k hk => ?_⟩
  · rw [H.2.1, co_mo H, co_mo H, if_pos rfl, if_neg (by decide), Int.add_zero]
    exact ha
  · rw [H.2.1, co_mo H, co_mo H, if_neg (by omega), if_neg (by omega)]
    rfl
theorem prt_lin [Lean.Grind.CommRing R] {co : R → Nat → Int} {mk : Nat → (Nat → Int) → R} (H : PolyR co mk) (a b : Int) : pR mk 7 (prt b a 0 0) = mo mk 1 a + mo mk 0 b := H.1 _ _ (fun k => by
  rw [H.2.1, co_pR H, co_mo H, co_mo H]
  unfold prt
  by_cases q : k = 0
  · subst q
    rw [if_pos (show (0:Nat) < 7 by decide), if_pos (show ((0:Nat):Int) = 0 from rfl), if_neg (show ¬ (0:Nat) = 1 by decide), if_pos rfl, Int.zero_add]
  · by_cases z : k = 1
    · subst z
      rw [if_pos (show (1:Nat) < 7 by decide), if_neg (show ¬ ((1:Nat):Int) = 0 by decide), if_pos (show ((1:Nat):Int) = 1 from rfl), if_pos rfl, if_neg (show ¬ (1:Nat) = 0 by decide), Int.add_zero]
    · rw [if_neg z, if_neg q]
      split
      · rw [if_neg (by omega), if_neg (by omega)]
        split
        · rfl
        · split <;> rfl
      · rfl)
/-- what a linear divisor's numbers divide -/
theorem lin_dv [Lean.Grind.CommRing R] {co : R → Nat → Int} {mk : Nat → (Nat → Int) → R} (H : PolyR co mk) {f : Int → Int} {n a b : Int} (hc : core co mk f n) (ha : a ≠ 0) (h : zd (mo mk 1 a + mo mk 0 b) (pR mk 7 f)) : 1 ≤ n ∧ a ∣ f n ∧ b ∣ f 0 := by
  have n06 := hc.1
  obtain ⟨q, e⟩ := h
  obtain ⟨i, j, hi, hj, hij⟩ := zd_deg H (core_tz H hc) e
  have ei := tz_uniq hi (lin_tz H ha)
  have er := row_ex H (h := q) (fun k hk => hj.2 k (by omega))
  rw [← prt_lin H, ← er] at e
  have c0 := co_row0 H e
  have ct := co_rowt H (n := n) (d := 1) ⟨n06.1, by omega⟩ ⟨by decide, by omega⟩ (fun k k0 k1 => by
    unfold prt
    rw [if_neg (by omega), if_neg (by omega)]
    split
    · rfl
    · split <;> rfl) (fun k k0 k1 => hj.2 _ (by omega)) e
  refine ⟨by omega, ⟨_, ct⟩, ⟨_, c0⟩⟩
/-- linear divisors of a primitive one can't be parted -/
theorem lin_irz [Lean.Grind.CommRing R] {co : R → Nat → Int} {mk : Nat → (Nat → Int) → R} (H : PolyR co mk) {f : R} {a b : Int} (ha : a ≠ 0) (hf : prim co f) (h : zd (mo mk 1 a + mo mk 0 b) f) : irz co (mo mk 1 a + mo mk 0 b) 1 :=
  irz_mk H (prim_dv H hf h) (lin_tz H ha) (Nat.le_refl _) (fun _ _ i j _ _ _ h1 h2 h3 => by omega)
theorem spI_part [Lean.Grind.CommRing R] {co : R → Nat → Int} {mk : Nat → (Nat → Int) → R} {m0 m m' : rz_M} {P : Nat} (hP : isP P) {A : R} {n : Int} (hI : spI co mk m0 m P A n) (hf : ∀ i, i ≠ 59 → m' i = m i) : spI co mk m0 m' P A n := by
  have P59 : P + 10 < 47 := by rcases hP with z | z | z <;> omega
  obtain ⟨I1, I2, I3, I4, I5, I6, I7, I8, I9, I10⟩ := hI
  have n06 := I5.1
  have eP := ptl_eq (m := m) (m' := m') (P := P) (fun i hi => hf i (by omega)) (by omega)
  refine ⟨fun i a b c => by rw [hf i (by omega)]; exact I1 i a b c, by rw [hf P (by omega)]; exact I2, by rw [hf 55 (by decide)]; exact I3, by rw [hf 55 (by decide)]; exact I4, by rw [hf 56 (by decide)]; exact I5, by rw [hf P (by omega)]; exact I6, by rw [eP, hf 56 (by decide)]; exact I7, by rw [eP, hf 56 (by decide)]; exact I8, by rw [eP]; exact I9, by rw [eP]; exact I10⟩
/-- a linear one is tried -/
theorem c_Sp_tryLin [Lean.Grind.CommRing R] {co : R → Nat → Int} {mk : Nat → (Nat → Int) → R} (H : PolyR co mk) {P : Nat} (hP : isP P) {m0 m : rz_M} {A : R} {n a b : Int} (hI : spI co mk m0 m P A n) (ha : 1 ≤ a ∧ a ≤ 100) (hb : bd b 100) (hb0 : b ≠ 0 ∨ (a = 1 ∧ hB (m 56) 100)) (hp : ∀ y : Int, 0 ≤ y → y < 7 → m 59 y = prt b a 0 0 y) {K : Int → rz_M → Prop}
    (h : ∀ (r : Int) (m' : rz_M) (n' : Int), spI co mk m0 m' P A n' → zd (pR mk 7 (m' 56)) (pR mk 7 (m 56)) → ¬ zd (mo mk 1 a + mo mk 0 b) (pR mk 7 (m' 56)) → K r m') : rz_C y_Sp_takeOut [rR 55, rI 1] m K := by
  have e59 : pR mk 7 (m 59) = mo mk 1 a + mo mk 0 b := by
    rw [pR_congr H (f := m 59) (g := prt b a 0 0) (fun y y0 y1 => hp y y0 (by omega)), prt_lin H]
  have g0 : m 59 0 = b := by rw [hp 0 (by decide) (by decide)]; rfl
  have g1 : m 59 1 = a := by rw [hp 1 (by decide) (by decide)]; rfl
  have gz : ∀ k : Int, 1 < k → k < 7 → m 59 k = 0 := fun k k0 k1 => by
    rw [hp k (by omega) k1]
    unfold prt
    rw [if_neg (by omega), if_neg (by omega)]
    split
    · rfl
    · split <;> rfl
  have prf := hI.2.2.2.2.1.2.2.2.2.2.2
  refine c_Sp_takeOut H hP hI ⟨⟨by decide, by decide⟩, by rw [g1]; omega, gz, Or.inl rfl, ?_⟩ (fun k k0 k1 => ?_) (fun z => ?_) (fun r m' n' I' _ zr nz _ _ => h r m' n' I' zr (by rwa [e59] at nz))
  · rw [g0]
    rcases hb0 with q | ⟨q1, q2⟩
    · exact Or.inl q
    · exact Or.inr ⟨rfl, by rw [g1]; exact q1, q2⟩
  · unfold bd at hb
    have : k = 0 ∨ k = 1 ∨ 1 < k := by omega
    rcases this with q | q | q
    · rw [q, g0]; exact ⟨by omega, by omega⟩
    · rw [q, g1]; exact ⟨by omega, by omega⟩
    · rw [gz k q k1]; exact ⟨by decide, by decide⟩
  · rw [e59] at z ⊢
    exact lin_irz H (by omega) prf z
theorem c_Sp_powersX [Lean.Grind.CommRing R] {co : R → Nat → Int} {mk : Nat → (Nat → Int) → R} (H : PolyR co mk) {P : Nat} (hP : isP P) {m0 m : rz_M} {A : R} {n : Int} (hI : spI co mk m0 m P A n) (hB' : hB (m 56) 100) {K : Int → rz_M → Prop} (h : ∀ (m' : rz_M) (n' : Int), spI co mk m0 m' P A n' → m' 56 0 ≠ 0 → K 0 m') : rz_C y_Sp_takePowersOfX [rR 55] m K := by
  refine T_Sp_takePowersOfX_0 _ _ (c_Sp_setPart (fun m1 f1 p1 => c_Sp_tryLin H hP (a := 1) (b := 0) (spI_part hP hI f1) ⟨by decide, by decide⟩ ⟨by decide, by decide⟩ (Or.inr ⟨rfl, by rw [f1 56 (by decide)]; exact hB'⟩) p1 (fun r m2 n2 I2 _ nz => h m2 n2 I2 (fun z => nz ?_))))
  have e0 : ev7 (m2 56) 0 = 0 := by unfold ev7; omega
  have := ev_root H e0
  rwa [show (-0 : Int) = 0 from rfl] at this
/-- all linear ones below a0, and with a0 those below b0, are out -/
def linD [Lean.Grind.CommRing R] (mk : Nat → (Nat → Int) → R) (A : R) (a0 b0 : Int) : Prop := ∀ a b : Int, 1 ≤ a → 1 ≤ b → b ≤ 100 → (a < a0 ∨ a = a0 ∧ b < b0) → ¬ zd (mo mk 1 a + mo mk 0 b) A ∧ ¬ zd (mo mk 1 a + mo mk 0 (-b)) A
theorem linD_dv [Lean.Grind.CommRing R] {mk : Nat → (Nat → Int) → R} {A B : R} {a0 b0 : Int} (h : linD mk A a0 b0) (d : zd B A) : linD mk B a0 b0 := fun a b h1 h2 h3 h4 => ⟨fun z => (h a b h1 h2 h3 h4).1 (zd_tr z d), fun z => (h a b h1 h2 h3 h4).2 (zd_tr z d)⟩
theorem linD_next [Lean.Grind.CommRing R] {mk : Nat → (Nat → Int) → R} {A : R} {a0 b0 : Int} (h : linD mk A a0 b0) (hb : 1 ≤ b0) (h1 : ¬ zd (mo mk 1 a0 + mo mk 0 b0) A) (h2 : ¬ zd (mo mk 1 a0 + mo mk 0 (-b0)) A) : linD mk A a0 (b0 + 1) := fun a b x1 x2 x3 x4 => by
  by_cases q : a = a0 ∧ b = b0
  · rw [q.1, q.2]; exact ⟨h1, h2⟩
  · exact h a b x1 x2 x3 (by omega)
theorem linD_row [Lean.Grind.CommRing R] {mk : Nat → (Nat → Int) → R} {A : R} {a0 : Int} (h : linD mk A a0 101) : linD mk A (a0 + 1) 1 := fun a b x1 x2 x3 x4 => h a b x1 x2 x3 (by omega)
theorem l_Sp_linW [Lean.Grind.CommRing R] {co : R → Nat → Int} {mk : Nat → (Nat → Int) → R} (H : PolyR co mk) {P : Nat} (hP : isP P) {m0 : rz_M} {A : R} {a : Int} (ha : 1 ≤ a ∧ a ≤ 100) {K : Int → rz_M → Prop} (h : ∀ (m' : rz_M) (n' : Int), spI co mk m0 m' P A n' → m' 56 0 ≠ 0 → linD mk (pR mk 7 (m' 56)) (a + 1) 1 → K 0 m') : ∀ (r : Nat) (b : Int) (m : rz_M) (n : Int), 101 - b = r → 1 ≤ b → spI co mk m0 m P A n → m 56 0 ≠ 0 → linD mk (pR mk 7 (m 56)) a b → rz_E y_Sp_takeLinearsWith 2 [rR 55, rI a, rI b] [] m K := by
  intro r
  induction r with
  | zero =>
    intro b m n hr hb hI h0 hD
    have e : b = 101 := by omega
    subst e
    exact T_Sp_takeLinearsWith_2 _ _ _ _ (bt (by decide) (h m n hI h0 (linD_row hD)))
  | succ r ih =>
    intro b m n hr hb hI h0 hD
    have hc := hI.2.2.2.2.1
    have n06 := hc.1
    have em : m 55 10 = n := hI.2.2.2.1
    have skip : ¬ (b ∣ m 56 0) ∨ ¬ (a ∣ m 56 n) → rz_E y_Sp_takeLinearsWith 2 [rR 55, rI a, rI (w32 (b + 1))] [] m K := fun q => by
      rw [w32_id (by omega) (by omega)]
      refine ih (b + 1) m n (by omega) (by omega) hI h0 (linD_next hD hb (fun z => ?_) (fun z => ?_))
      · have := lin_dv H hc (by omega) z
        rcases q with q | q
        · exact q this.2.2
        · exact q this.2.1
      · have := lin_dv H hc (by omega) z
        rcases q with q | q
        · exact q (Int.neg_dvd.mp this.2.2)
        · exact q this.2.1
    refine T_Sp_takeLinearsWith_2 _ _ _ _ (bf (by omega) ?_)
    rw [em]
    refine bb (fun q => h m n hI h0 (fun a' b' x1 x2 x3 x4 => ⟨fun z => ?_, fun z => ?_⟩)) (fun q => ⟨⟨by decide, by decide⟩, c_RC_divides (fun _ db => b1t ⟨⟨by rw [em]; omega, by rw [em]; omega⟩, c_RC_divides (fun _ da => b1t (c_Sp_setPart (fun m1 f1 p1 => T_Sp_takeLinearsWith_60 _ _ _ _ (c_Sp_tryLin H hP (spI_part hP hI f1) ha ⟨by omega, by omega⟩ (Or.inl (by omega)) p1 (fun r1 m2 n2 I2 z2 d2 => ?_))))) (fun w => b0t (skip (Or.inr (fun y => w ⟨by omega, by rw [em]; exact y⟩))))⟩) (fun w => b0t (skip (Or.inl (fun y => w ⟨by omega, y⟩))))⟩)
    · have := (lin_dv H hc (by omega) z).1
      omega
    · have := (lin_dv H hc (by omega) z).1
      omega
    · rw [w32_id (z := -b) (by omega) (by omega)]
      refine c_Sp_setPart (fun m3 f3 p3 => c_Sp_tryLin H hP (spI_part hP I2 f3) ha ⟨by omega, by omega⟩ (Or.inl (by omega)) p3 (fun r4 m4 n4 I4 z4 d4 => ?_))
      rw [w32_id (by omega) (by omega)]
      rw [f1 56 (by decide)] at z2
      rw [f3 56 (by decide)] at z4
      have z42 := zd_tr z4 z2
      have h04 : m4 56 0 ≠ 0 := by
        obtain ⟨q', e⟩ := z42
        have n06' := I4.2.2.2.2.1.1
        obtain ⟨i, j, hi, hj, hij⟩ := zd_deg H (core_tz H hc) e
        have er := row_ex H (h := q') (fun k hk => hj.2 k (by omega))
        rw [← er] at e
        have := co_row0 H e
        intro w
        rw [w, Int.zero_mul] at this
        exact h0 this
      exact ih (b + 1) m4 n4 (by omega) (by omega) I4 h04 (linD_next (linD_dv hD z42) hb (fun z => d2 (zd_tr z z4)) d4)
theorem l_Sp_lin [Lean.Grind.CommRing R] {co : R → Nat → Int} {mk : Nat → (Nat → Int) → R} (H : PolyR co mk) {P : Nat} (hP : isP P) {m0 : rz_M} {A : R} {K : Int → rz_M → Prop} (h : ∀ (m' : rz_M) (n' : Int), spI co mk m0 m' P A n' → m' 56 0 ≠ 0 → nolin mk (pR mk 7 (m' 56)) → K 0 m') : ∀ (r : Nat) (a : Int) (m : rz_M) (n : Int), 101 - a = r → 1 ≤ a → spI co mk m0 m P A n → m 56 0 ≠ 0 → linD mk (pR mk 7 (m 56)) a 1 → rz_E y_Sp_takeLinears 2 [rR 55, rI a] [] m K := by
  have fin : ∀ (m : rz_M) (n : Int), spI co mk m0 m P A n → m 56 0 ≠ 0 → (n < 1 ∨ linD mk (pR mk 7 (m 56)) 101 1) → K 0 m := fun m n hI h0 hD => by
    have hc := hI.2.2.2.2.1
    have n06 := hc.1
    refine h m n hI h0 (fun a b ha z => ?_)
    have dv := lin_dv H hc ha z
    rcases hD with q | hD
    · omega
    · have b0 : b ≠ 0 := fun w => h0 (by
        obtain ⟨t, et⟩ := dv.2.2
        rw [et, w, Int.zero_mul])
      have fn := hc.2.1
      have f1 := hc.2.2.2.2.1
      have f0 := hc.2.2.2.2.2.1
      have a100 : a.natAbs ≤ 100 := by
        have := Int.natAbs_dvd_natAbs.mpr dv.2.1
        have := Nat.le_of_dvd (by omega) this
        omega
      have b100 : b.natAbs ≤ 100 := by
        have := Int.natAbs_dvd_natAbs.mpr dv.2.2
        have := Nat.le_of_dvd (by omega) this
        unfold bd at f0
        omega
      -- the sign of a is turned
      have neg : zd (mo mk 1 (-a) + mo mk 0 (-b)) (pR mk 7 (m 56)) := by
        obtain ⟨q', e⟩ := z
        have en : (mo mk 1 (-a) + mo mk 0 (-b) : R) = -(mo mk 1 a + mo mk 0 b) := H.1 _ _ (fun k => by
          rw [co_neg H, H.2.1, H.2.1, co_mo H, co_mo H, co_mo H, co_mo H]
          split <;> split <;> omega)
        exact ⟨-q', by rw [e, en]; grind⟩
      rcases Int.lt_or_gt_of_ne ha with s | s
      · rcases Int.lt_or_gt_of_ne b0 with t | t
        · exact (hD (-a) (-b) (by omega) (by omega) (by omega) (by omega)).1 neg
        · have := (hD (-a) b (by omega) (by omega) (by omega) (by omega)).2
          exact this neg
      · rcases Int.lt_or_gt_of_ne b0 with t | t
        · have := (hD a (-b) (by omega) (by omega) (by omega) (by omega)).2
          rw [Int.neg_neg] at this
          exact this z
        · exact (hD a b (by omega) (by omega) (by omega) (by omega)).1 z
  intro r
  induction r with
  | zero =>
    intro a m n hr ha hI h0 hD
    have e : a = 101 := by omega
    subst e
    exact T_Sp_takeLinears_2 _ _ _ (bt (by decide) (fin m n hI h0 (Or.inr hD)))
  | succ r ih =>
    intro a m n hr ha hI h0 hD
    have hc := hI.2.2.2.2.1
    have n06 := hc.1
    have em : m 55 10 = n := hI.2.2.2.1
    refine T_Sp_takeLinears_2 _ _ _ (bf (by omega) ?_)
    rw [em]
    refine bb (fun q => fin m n hI h0 (Or.inl q)) (fun q => ⟨⟨by omega, by omega⟩, c_RC_divides (fun _ da => b1t (T_Sp_takeLinearsWith_0 _ _ _ (l_Sp_linW H hP ⟨ha, by omega⟩ (fun m' n' I' h0' D' => ?_) 100 1 m n (by decide) (by decide) hI h0 hD))) (fun w => b0t ?_)⟩)
    · rw [w32_id (by omega) (by omega)]
      exact ih (a + 1) m' n' (by omega) (by omega) I' h0' D'
    · rw [w32_id (by omega) (by omega)]
      refine ih (a + 1) m n (by omega) (by omega) hI h0 (fun a' b' x1 x2 x3 x4 => ?_)
      by_cases z : a' = a
      · subst z
        exact ⟨fun y => w ⟨by omega, (lin_dv H hc (by omega) y).2.1⟩, fun y => w ⟨by omega, (lin_dv H hc (by omega) y).2.1⟩⟩
      · exact hD a' b' x1 x2 x3 (by omega)
theorem c_Sp_linears [Lean.Grind.CommRing R] {co : R → Nat → Int} {mk : Nat → (Nat → Int) → R} (H : PolyR co mk) {P : Nat} (hP : isP P) {m0 m : rz_M} {A : R} {n : Int} (hI : spI co mk m0 m P A n) (h0 : m 56 0 ≠ 0) {K : Int → rz_M → Prop} (h : ∀ (m' : rz_M) (n' : Int), spI co mk m0 m' P A n' → m' 56 0 ≠ 0 → nolin mk (pR mk 7 (m' 56)) → K 0 m') : rz_C y_Sp_takeLinears [rR 55] m K :=
  T_Sp_takeLinears_0 _ _ (l_Sp_lin H hP h 100 1 m n (by decide) (by decide) hI h0 (fun a b x1 _ _ x4 => by omega))
end
