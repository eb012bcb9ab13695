/-! the reference: linear factors -/
section
variable {R : Type}
theorem mI_228 [Lean.Grind.CommRing R] {co : R → Nat → Int} {mk : Nat → (Nat → Int) → R} {m0 m m' : rz_M} {A : R} {n : Int} (hI : mI co mk m0 m A n) (hf : ∀ i, i ≠ 228 → i ≠ 229 → i ≠ 230 → m' i = m i) : mI co mk m0 m' A n := by
  obtain ⟨I1, I2, I3, I5, I6, I7, I8, I9⟩ := hI
  have e1 := hf 221 (by decide) (by decide) (by decide)
  have e4 := hf 224 (by decide) (by decide) (by decide)
  have eP : mtl m' = mtl m := mtl_eq (by rw [e1]) (hf 225 (by decide) (by decide) (by decide)) (hf 226 (by decide) (by decide) (by decide)) (hf 227 (by decide) (by decide) (by decide))
  refine ⟨fun i hi => by rw [hf i (by omega) (by omega) (by omega)]; exact I1 i hi, fun y a b => by rw [e1]; exact I2 y a b, by rw [e1]; exact I3, by rw [e4]; exact I5, by rw [e1]; exact I6, by rw [eP, e4]; exact I7, by rw [eP, e4]; exact I8, by rw [eP]; exact I9⟩
theorem gw_1 : ∀ nn : Int, 1 ≤ nn → nn ≤ 6 → tbn nn * (1 + 100) ^ (nn - 1 + 1).toNat ≤ 4000000000000000000 := fun nn h1 h2 => by
  have : nn = 1 ∨ nn = 2 ∨ nn = 3 ∨ nn = 4 ∨ nn = 5 ∨ nn = 6 := by omega
  rcases this with q | q | q | q | q | q <;> subst q <;> decide +kernel
theorem c_M_tryLin [Lean.Grind.CommRing R] {co : R → Nat → Int} {mk : Nat → (Nat → Int) → R} (H : PolyR co mk) {m0 m : rz_M} {A : R} {n a b : Int} (hI : mI co mk m0 m A n) (ha : 1 ≤ a ∧ a ≤ 100) (hb : bd b 100) (hb0 : b ≠ 0 ∨ (a = 1 ∧ hB (m 224) 100)) (p0 : m 228 0 = b) (p1 : m 228 1 = a) {K : Int → rz_M → Prop}
    (h : ∀ (r : Int) (m' : rz_M) (n' : Int), mI co mk m0 m' A n' → zd (pR mk 7 (m' 224)) (pR mk 7 (m 224)) → ¬ zd (mo mk 1 a + mo mk 0 b) (pR mk 7 (m' 224)) → K r m') : rz_C y_M_takesOut [rR 221, rI 1] m K := by
  have gz : ∀ k : Int, 1 < k → k < 7 → prt b a 0 0 k = 0 := fun k k0 k1 => by
    unfold prt
    rw [if_neg (by omega), if_neg (by omega)]
    split
    · rfl
    · split <;> rfl
  have prf := hI.2.2.2.1.2.2.2.2.2.2
  have n06 := hI.2.2.2.1.1
  refine c_M_takesOut H hI (g := prt b a 0 0) (G := 100) (fun y y0 y1 => ?_) ⟨⟨by decide, by decide⟩, by show 0 < a; omega, gz, Or.inl rfl, ?_⟩ ⟨by decide, by decide⟩ (fun y y0 y1 => ?_) (fun nn a b => gw_1 nn a (by omega)) (fun z => ?_) (fun r m' n' I' _ zr nz _ _ => h r m' n' I' zr (by rwa [prt_lin H] at nz))
  · have : y = 0 ∨ y = 1 := by omega
    rcases this with q | q <;> subst q
    · exact p0
    · exact p1
  · rcases hb0 with q | ⟨q1, q2⟩
    · exact Or.inl q
    · exact Or.inr ⟨rfl, q1, q2⟩
  · have : y = 0 ∨ y = 1 := by omega
    rcases this with q | q <;> subst q
    · exact hb
    · show bd a 100
      exact ⟨by omega, ha.2⟩
  · rw [prt_lin H] at z ⊢
    exact lin_irz H (by omega) prf z
/-- those that were tried -/
def linT [Lean.Grind.CommRing R] (mk : Nat → (Nat → Int) → R) (A : R) (a0 e0 : Int) : Prop := ∀ a e : Int, 1 ≤ a → e ≠ 0 → -100 ≤ e → e ≤ 100 → (a < a0 ∨ a = a0 ∧ e < e0) → ¬ zd (mo mk 1 a + mo mk 0 e) A
theorem linT_dv [Lean.Grind.CommRing R] {mk : Nat → (Nat → Int) → R} {A B : R} {a0 e0 : Int} (h : linT mk A a0 e0) (d : zd B A) : linT mk B a0 e0 := fun a b h1 h2 h3 h4 h5 z => h a b h1 h2 h3 h4 h5 (zd_tr z d)
theorem linT_next [Lean.Grind.CommRing R] {mk : Nat → (Nat → Int) → R} {A : R} {a0 e0 : Int} (h : linT mk A a0 e0) (h1 : e0 ≠ 0 → ¬ zd (mo mk 1 a0 + mo mk 0 e0) A) : linT mk A a0 (e0 + 1) := fun a e x1 x2 x3 x4 x5 => by
  by_cases q : a = a0 ∧ e = e0
  · rw [q.1, q.2]; exact h1 (by rw [← q.2]; exact x2)
  · exact h a e x1 x2 x3 x4 (by omega)
theorem lin_gcd [Lean.Grind.CommRing R] {co : R → Nat → Int} {mk : Nat → (Nat → Int) → R} (H : PolyR co mk) {f : R} {a e : Int} (hf : prim co f) (z : zd (mo mk 1 a + mo mk 0 e) f) {g : Int} (g0 : 0 ≤ g) (hg : ∀ p : Int, p ∣ g ↔ p ∣ a ∧ p ∣ e) (ha : a ≠ 0) : g = 1 := by
  refine Classical.byContradiction fun q => ?_
  have gn : g ≠ 0 := fun w => ha (by
    have := ((hg g).mp ⟨1, by omega⟩).1
    obtain ⟨t, ht⟩ := this
    rw [ht, w, Int.zero_mul])
  obtain ⟨p, hp, hd⟩ := pr_ex2 gn q (by omega)
  have pd := (hg p).mp hd
  refine prim_dv H hf z p hp (fun k => ?_)
  rw [H.2.1, co_mo H, co_mo H]
  refine Int.dvd_add ?_ ?_
  · split
    · exact pd.1
    · exact Int.dvd_zero p
  · split
    · exact pd.2
    · exact Int.dvd_zero p
theorem l_M_fl [Lean.Grind.CommRing R] {co : R → Nat → Int} {mk : Nat → (Nat → Int) → R} (H : PolyR co mk) {m0 : rz_M} {A : R} {a : Int} (ha : 1 ≤ a ∧ a ≤ 100) {K : Int → rz_M → Prop} (h : ∀ (m' : rz_M) (n' : Int), mI co mk m0 m' A n' → m' 224 0 ≠ 0 → (linT mk (pR mk 7 (m' 224)) (a + 1) (-100) ∨ n' ≤ 0) → rz_E y_M_findLinear 22 [rR 221, rL (a + 1), rX 1, rX 0, rX 0] [] m' K) : ∀ (r : Nat) (e : Int) (m : rz_M) (n : Int), 101 - e = r → -100 ≤ e → mI co mk m0 m A n → m 224 0 ≠ 0 → linT mk (pR mk 7 (m 224)) a e → rz_E y_M_findLinear 34 [rR 221, rL a, rX 1, rL e, rX 1] [] m K := by
  intro r
  induction r with
  | zero =>
    intro e m n hr he hI h0 hT
    refine T_M_findLinear_34 _ _ _ _ (bt (by omega) ?_)
    rw [w64_id (by omega) (by omega)]
    exact h m n hI h0 (Or.inl (fun a' e' x1 x2 x3 x4 x5 => hT a' e' x1 x2 x3 x4 (by omega)))
  | succ r ih =>
    intro e m n hr he hI h0 hT
    have hc := hI.2.2.2.1
    have n06 := hc.1
    have em : m 221 5 = n := hI.2.2.1
    have prf := hc.2.2.2.2.2.2
    have skip : (e ≠ 0 → ¬ zd (mo mk 1 a + mo mk 0 e) (pR mk 7 (m 224))) → rz_E y_M_findLinear 118 [rR 221, rL a, rX 1, rL (w64 (e + 1)), rX 1] [] m K := fun q => by
      rw [w64_id (by omega) (by omega)]
      exact T_M_findLinear_118 _ _ _ _ (ih (e + 1) m n (by omega) (by omega) hI h0 (linT_next hT q))
    refine T_M_findLinear_34 _ _ _ _ (bf (by omega) ?_)
    rw [em]
    refine bb (fun q => ?_) (fun q => bb (fun q2 => skip (fun w => absurd q2 w)) (fun q2 => ⟨⟨by omega, by omega⟩, c_M_into (fun _ da => b1t ⟨⟨by decide, by decide⟩, c_M_into (fun _ db => b1t (c_M_divisor ⟨by omega, by omega⟩ ?_)) (fun w => b0t (skip (fun _ z => w ⟨q2, (lin_dv H hc (by omega) z).2.2⟩)))⟩) (fun w => b0t (skip (fun _ z => w ⟨by omega, (lin_dv H hc (by omega) z).2.1⟩)))⟩))
    · rw [w64_id (by omega) (by omega)]
      exact h m n hI h0 (Or.inr (by omega))
    · obtain ⟨y, e2, y0, y1, yd⟩ : ∃ y : Int, rz_abs e = y ∧ 0 ≤ y ∧ y.natAbs ≤ 100 ∧ (∀ p : Int, p ∣ y ↔ p ∣ e) := by
        unfold rz_abs
        split
        · exact ⟨_, rfl, by omega, by omega, fun p => Iff.rfl⟩
        · exact ⟨-e, w64_id (by omega) (by omega), by omega, by omega, fun p => Int.dvd_neg⟩
      have e1 : rz_abs a = a := if_pos (by omega)
      have gnn := gi_nn 100 a y (by omega) y0
      have gdv : ∀ p : Int, p ∣ gi 100 a y ↔ p ∣ a ∧ p ∣ e := fun p => by rw [gi_dv 100 a y y1 p, yd p]
      rw [e1, e2]
      refine bb (fun q3 => skip (fun _ z => q3 (lin_gcd H prf z gnn gdv (by omega)))) (fun _ => ⟨⟨by decide, by decide⟩, T_M_findLinear_101 _ _ _ _ ⟨⟨by decide, by decide⟩, ?_⟩⟩)
      have f1 : ∀ i, i ≠ 228 → rz_up (rz_up m 228 0 e) 228 1 a i = m i := fun i hi => by rw [up_ne hi, up_ne hi]
      refine c_M_tryLin H (a := a) (b := e) (mI_228 hI (fun i i1 _ _ => f1 i i1)) ha ⟨by omega, by omega⟩ (Or.inl q2) (by rw [up_nj (by decide), up_eq]) up_eq (fun r1 m2 n2 I2 z2 d2 => ?_)
      rw [f1 224 (by decide)] at z2
      have h02 : m2 224 0 ≠ 0 := by
        obtain ⟨q', e'⟩ := z2
        have n06' := I2.2.2.2.1.1
        obtain ⟨i, j, hi, hj, hij⟩ := zd_deg H (core_tz H hc) e'
        have er := row_ex H (h := q') (fun k hk => hj.2 k (by omega))
        rw [← er] at e'
        have := co_row0 H e'
        intro w
        rw [w, Int.zero_mul] at this
        exact h0 this
      rw [w64_id (by omega) (by omega)]
      exact T_M_findLinear_118 _ _ _ _ (ih (e + 1) m2 n2 (by omega) (by omega) I2 h02 (linT_next (linT_dv hT z2) (fun _ => d2)))
theorem l_M_fl22 [Lean.Grind.CommRing R] {co : R → Nat → Int} {mk : Nat → (Nat → Int) → R} (H : PolyR co mk) {m0 : rz_M} {A : R} {K : Int → rz_M → Prop} (h : ∀ (m' : rz_M) (n' : Int), mI co mk m0 m' A n' → m' 224 0 ≠ 0 → (linT mk (pR mk 7 (m' 224)) 101 (-100) ∨ n' ≤ 0) → K 0 m') : ∀ (r : Nat) (a : Int) (m : rz_M) (n : Int), 101 - a = r → 1 ≤ a → mI co mk m0 m A n → m 224 0 ≠ 0 → (linT mk (pR mk 7 (m 224)) a (-100) ∨ n ≤ 0) → rz_E y_M_findLinear 22 [rR 221, rL a, rX 1, rX 0, rX 0] [] m K := by
  have triv : ∀ (m : rz_M) (n a e : Int), mI co mk m0 m A n → n ≤ 0 → linT mk (pR mk 7 (m 224)) a e := fun m n a e hI hn a' e' x1 _ _ _ _ z => by
    have := (lin_dv H hI.2.2.2.1 (by omega) z).1
    omega
  intro r
  induction r with
  | zero =>
    intro a m n hr ha hI h0 hT
    have e : a = 101 := by omega
    subst e
    exact T_M_findLinear_22 _ _ _ (bt (by decide) (h m n hI h0 hT))
  | succ r ih =>
    intro a m n hr ha hI h0 hT
    refine T_M_findLinear_22 _ _ _ (bf (by omega) (l_M_fl H ⟨ha, by omega⟩ (fun m' n' I' h0' D' => ih (a + 1) m' n' (by omega) (by omega) I' h0' D') 201 (-100) m n (by decide) (by decide) hI h0 ?_))
    rcases hT with q | q
    · exact q
    · exact triv m n a (-100) hI q
theorem c_M_findLinear [Lean.Grind.CommRing R] {co : R → Nat → Int} {mk : Nat → (Nat → Int) → R} (H : PolyR co mk) {m0 m : rz_M} {A : R} {n : Int} (hI : mI co mk m0 m A n) (hB' : hB (m 224) 100) {K : Int → rz_M → Prop} (h : ∀ (m' : rz_M) (n' : Int), mI co mk m0 m' A n' → m' 224 0 ≠ 0 → nolin mk (pR mk 7 (m' 224)) → K 0 m') : rz_C y_M_findLinear [rR 221] m K := by
  have f1 : ∀ i, i ≠ 228 → rz_up (rz_up m 228 0 0) 228 1 1 i = m i := fun i hi => by rw [up_ne hi, up_ne hi]
  refine T_M_findLinear_0 _ _ ⟨⟨by decide, by decide⟩, ⟨by decide, by decide⟩, c_M_tryLin H (a := 1) (b := 0) (mI_228 hI (fun i i1 _ _ => f1 i i1)) ⟨by decide, by decide⟩ ⟨by decide, by decide⟩ (Or.inr ⟨rfl, by rw [f1 224 (by decide)]; exact hB'⟩) (by rw [up_nj (by decide), up_eq]) up_eq (fun r1 m1 n1 I1 z1 d1 => ?_)⟩
  have h0 : m1 224 0 ≠ 0 := fun w => d1 (by
    have e0 : ev7 (m1 224) 0 = 0 := by unfold ev7; omega
    have := ev_root H e0
    rwa [show (-0 : Int) = 0 from rfl] at this)
  refine l_M_fl22 H (fun m n hI h0 hT => ?_) 100 1 m1 n1 (by decide) (by decide) I1 h0 (Or.inl (fun a e x1 _ x3 _ x5 => by omega))
  have hc := hI.2.2.2.1
  have n06 := hc.1
  refine h m n hI h0 (fun a b ha z => ?_)
  have dv := lin_dv H hc ha z
  rcases hT with hD | q
  · have b0 : b ≠ 0 := fun w => h0 (by
      obtain ⟨t, et⟩ := dv.2.2
      rw [et, w, Int.zero_mul])
    have fn := hc.2.1
    have f1 := hc.2.2.2.2.1
    have f0 := hc.2.2.2.2.2.1
    have a100 : a.natAbs ≤ 100 := by
      have := Int.natAbs_dvd_natAbs.mpr dv.2.1
      have := Nat.le_of_dvd (by omega) this
      omega
    have b100 : b.natAbs ≤ 100 := by
      have := Int.natAbs_dvd_natAbs.mpr dv.2.2
      have := Nat.le_of_dvd (by omega) this
      unfold bd at f0
      omega
    have neg : zd (mo mk 1 (-a) + mo mk 0 (-b)) (pR mk 7 (m 224)) := by
      obtain ⟨q', e⟩ := z
      have en : (mo mk 1 (-a) + mo mk 0 (-b) : R) = -(mo mk 1 a + mo mk 0 b) := H.1 _ _ (fun k => by
        rw [co_neg H, H.2.1, H.2.1, co_mo H, co_mo H, co_mo H, co_mo H]
        split <;> split <;> omega)
      exact ⟨-q', by rw [e, en]; grind⟩
    rcases Int.lt_or_gt_of_ne ha with s | s
    · exact hD (-a) (-b) (by omega) (by omega) (by omega) (by omega) (by omega) neg
    · exact hD a b (by omega) b0 (by omega) (by omega) (by omega) z
  · omega
end
