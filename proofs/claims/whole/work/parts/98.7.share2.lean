/-! what both rows have: the class's outer loop, the reference's loops, one product -/
noncomputable def oF (c2 : Nat) (G : Nat → E3) (x : E3) : Int := @dite Int (∃ k, k < c2 ∧ (G k).1 = x.1) (Classical.propDecidable _) (fun h => (G (Classical.choose h)).2.2) (fun _ => 0)
theorem oF_pos {c2 : Nat} {G : Nat → E3} {x : E3} (hd : ∀ k k', k < c2 → k' < c2 → (G k).1 = (G k').1 → k = k') {k : Nat} (hk : k < c2) (he : (G k).1 = x.1) : oF c2 G x = (G k).2.2 := by
  unfold oF
  have h : ∃ k, k < c2 ∧ (G k).1 = x.1 := ⟨k, hk, he⟩
  have s := Classical.choose_spec h
  have e := hd _ k s.1 hk (by rw [s.2, he])
  rw [dif_pos h, e]
theorem oF_neg {c2 : Nat} {G : Nat → E3} {x : E3} (h : ∀ k, k < c2 → (G k).1 ≠ x.1) : oF c2 G x = 0 := by
  unfold oF
  rw [dif_neg (fun ⟨k, a, b⟩ => h k a b)]
theorem pw_at {c : Nat} {G : Nat → E3} (h : ((List.range c).map G).Pairwise (fun x y => x.1 ≠ y.1)) : ∀ k k', k < c → k' < c → (G k).1 = (G k').1 → k = k' := by
  intro k k' hk hk' e
  have p := List.pairwise_iff_getElem.mp h
  rcases Nat.lt_trichotomy k k' with q | q | q
  · have := p k k' (by simpa using hk) (by simpa using hk') q
    simp at this
    exact absurd e this
  · exact q
  · have := p k' k (by simpa using hk') (by simpa using hk) q
    simp at this
    exact absurd e.symm this
/-- degrees of the parts, as often as they are there -/
def dsI (F : Nat → E3) : Nat → Nat
  | 0 => 0
  | k + 1 => dsI F k + (F k).2.1.toNat * (F k).2.2.toNat
theorem ds_mono (F : Nat → E3) {k : Nat} : ∀ r : Nat, dsI F k ≤ dsI F (k + r)
  | 0 => Nat.le_refl _
  | r + 1 => by
    have := ds_mono F (k := k) r
    show dsI F k ≤ dsI F (k + r) + _
    omega
def cmD (F : Nat → E3) (o : Nat → Int) : Nat → Nat
  | 0 => 0
  | k + 1 => cmD F o k + (F k).2.1.toNat * (rz_mn (F k).2.2 (o k)).toNat
theorem mn_le (a b : Int) : rz_mn a b ≤ a := by
  unfold rz_mn
  split <;> omega
theorem cmD_le (F : Nat → E3) (o : Nat → Int) : ∀ k : Nat, cmD F o k ≤ dsI F k
  | 0 => Nat.le_refl _
  | k + 1 => by
    have h1 := cmD_le F o k
    have h2 := mn_le (F k).2.2 (o k)
    have h3 : (F k).2.1.toNat * (rz_mn (F k).2.2 (o k)).toNat ≤ (F k).2.1.toNat * (F k).2.2.toNat := Nat.mul_le_mul_left _ (by omega)
    show cmD F o k + _ ≤ dsI F k + _
    omega
section
variable {R : Type}
theorem tz_1 [Lean.Grind.CommRing R] {co : R → Nat → Int} {mk : Nat → (Nat → Int) → R} (H : PolyR co mk) : tz co (1 : R) 0 := ⟨by rw [H.2.2.2.1, if_pos rfl]; decide, fun k hk => by rw [H.2.2.2.1, if_neg (by omega)]⟩
theorem tz_pow [Lean.Grind.CommRing R] {co : R → Nat → Int} {mk : Nat → (Nat → Int) → R} (H : PolyR co mk) {a : R} {n : Nat} (h : tz co a n) : ∀ k : Nat, tz co (a ^ k) (n * k)
  | 0 => by
    rw [Lean.Grind.Semiring.pow_zero]
    exact tz_1 H
  | k + 1 => by
    rw [Lean.Grind.Semiring.pow_succ, Nat.mul_add, Nat.mul_one]
    exact tz_mul H (tz_pow H h k) h
theorem prodL_sc [Lean.Grind.CommRing R] {mk : Nat → (Nat → Int) → R} (F : Nat → E3) (c : Nat) : prodL mk ((List.range (c + 1)).map F) = prodL mk ((List.range c).map F) * pR mk 7 (F c).1 ^ (F c).2.2.toNat := by
  rw [List.range_succ, List.map_append, prodL_app]
  show _ * (pR mk 7 (F c).1 ^ (F c).2.2.toNat * 1) = _
  grind
theorem ds_tz [Lean.Grind.CommRing R] {co : R → Nat → Int} {mk : Nat → (Nat → Int) → R} (H : PolyR co mk) (F : Nat → E3) : ∀ c : Nat, (∀ k, k < c → elOK co mk (F k)) → tz co (prodL mk ((List.range c).map F)) (dsI F c)
  | 0, _ => tz_1 H
  | c + 1, h => by
    rw [prodL_sc]
    exact tz_mul H (ds_tz H F c (fun k hk => h k (by omega))) (tz_pow H (h c (by omega)).2.2.2.2.1.2.1 _)
/-- of a list of FACTORS: all that the loops ask -/
theorem fl_in [Lean.Grind.CommRing R] {co : R → Nat → Int} {mk : Nat → (Nat → Int) → R} (H : PolyR co mk) {A : R} {c n : Nat} {F : Nat → E3} (h : FacL co mk A ((List.range c).map F)) (ht : tz co A n) : (∀ k, k < c → elOK co mk (F k)) ∧ (∀ k k', k < c → k' < c → (F k).1 = (F k').1 → k = k') ∧ dsI F c = n := by
  have ok : ∀ k, k < c → elOK co mk (F k) := fun k hk => h.1 _ (List.mem_map.mpr ⟨k, List.mem_range.mpr hk, rfl⟩)
  refine ⟨ok, pw_at h.2.1, tz_uniq ?_ ht⟩
  rw [h.2.2]
  exact ds_tz H F c ok
def cmI [Lean.Grind.CommRing R] (mk : Nat → (Nat → Int) → R) (F : Nat → E3) (o : Nat → Int) : Nat → R
  | 0 => 1
  | k + 1 => cmI mk F o k * pR mk 7 (F k).1 ^ (rz_mn (F k).2.2 (o k)).toNat
theorem cmI_congr [Lean.Grind.CommRing R] {mk : Nat → (Nat → Int) → R} {F F' : Nat → E3} {o o' : Nat → Int} : ∀ c : Nat, (∀ k, k < c → F k = F' k) → (∀ k, k < c → o k = o' k) → cmI mk F o c = cmI mk F' o' c
  | 0, _, _ => rfl
  | c + 1, h1, h2 => by
    show cmI mk F o c * _ = cmI mk F' o' c * _
    rw [cmI_congr c (fun k hk => h1 k (by omega)) (fun k hk => h2 k (by omega)), h1 c (by omega), h2 c (by omega)]
theorem cmI_one [Lean.Grind.CommRing R] {mk : Nat → (Nat → Int) → R} {F : Nat → E3} {o : Nat → Int} : ∀ c : Nat, (∀ k, k < c → o k ≤ 0) → cmI mk F o c = 1
  | 0, _ => rfl
  | c + 1, h => by
    have h1 := h c (by omega)
    have h2 : (rz_mn (F c).2.2 (o c)).toNat = 0 := by
      unfold rz_mn
      split <;> omega
    show cmI mk F o c * _ = 1
    rw [cmI_one c (fun k hk => h k (by omega)), h2, Lean.Grind.Semiring.pow_zero]
    grind
theorem cmI_all [Lean.Grind.CommRing R] {mk : Nat → (Nat → Int) → R} (F : Nat → E3) : ∀ c : Nat, cmI mk F (fun k => (F k).2.2) c = prodL mk ((List.range c).map F)
  | 0 => rfl
  | c + 1 => by
    rw [prodL_sc]
    show cmI mk F _ c * pR mk 7 (F c).1 ^ (rz_mn (F c).2.2 (F c).2.2).toNat = _
    rw [cmI_all F c, show rz_mn (F c).2.2 (F c).2.2 = (F c).2.2 from by unfold rz_mn; split <;> rfl]
theorem cm_z [Lean.Grind.CommRing R] {co : R → Nat → Int} {mk : Nat → (Nat → Int) → R} (H : PolyR co mk) {F : Nat → E3} {o : Nat → Int} : ∀ c : Nat, (∀ k, k < c → elOK co mk (F k)) → tz co (cmI mk F o c) (cmD F o c)
  | 0, _ => tz_1 H
  | c + 1, h => tz_mul H (cm_z H c (fun k hk => h k (by omega))) (tz_pow H (h c (by omega)).2.2.2.2.1.2.1 _)
theorem l_Pa_sw13 [Lean.Grind.CommRing R] {co : R → Nat → Int} {mk : Nat → (Nat → Int) → R} (H : PolyR co mk) {P Po : Nat} (hP : isP P) (hPo : isP Po) (hne : P ≠ Po) {c c2 : Nat} (hc : c ≤ 6) (hc2 : c2 ≤ 6) {m0 : rz_M} (ec : m0 P 4 = c) (ec2 : m0 Po 4 = c2) (ok : ∀ k, k < c → elOK co mk (elC m0 P k)) (ds : dsI (elC m0 P) c ≤ 6) (hd : ∀ k k', k < c2 → k' < c2 → (elC m0 Po k).1 = (elC m0 Po k').1 → k = k') {K : Int → rz_M → Prop}
    (h : ∀ m' : rz_M, (∀ i, i ≠ 12 → i ≠ P + 10 → m' i = m0 i) → (∀ y : Nat, y < 7 → m' 12 y = w64 (co (cmI mk (elC m0 P) (fun k => oF c2 (elC m0 Po) (elC m0 P k)) c) y)) → K 0 m') :
    ∀ (r k : Nat) (m : rz_M), c - k = r → k ≤ c → (∀ i, i ≠ 12 → i ≠ P + 10 → m i = m0 i) → (∀ y : Nat, y < 7 → m 12 y = w64 (co (cmI mk (elC m0 P) (fun k => oF c2 (elC m0 Po) (elC m0 P k)) k) y)) → rz_E y_Parts_shareWith 13 [rR P, rR Po, rR 12, rI ((cmD (elC m0 P) (fun k => oF c2 (elC m0 Po) (elC m0 P k)) k : Nat) : Int), rI k, rX 0, rX 0] [] m K := by
  have cp := parts_c hP
  have cpo := parts_c hPo
  have P12 : 12 < P ∧ P + 10 < 47 := by rcases hP with z | z | z <;> omega
  have Po12 : 12 < Po ∧ Po + 10 < 47 := by rcases hPo with z | z | z <;> omega
  have far : P + 10 < Po ∨ Po + 10 < P := by rcases hP with z | z | z <;> rcases hPo with w | w | w <;> omega
  intro r
  induction r with
  | zero =>
    intro k m hr hk hf hv
    have e : k = c := by omega
    subst e
    refine T_Parts_shareWith_13 _ _ _ _ _ _ _ ⟨cp.1, bt ?_ (h m hf hv)⟩
    rw [hf P (by omega) (by omega), ec]
    exact Int.le_refl _
  | succ r ih =>
    intro k m hr hk hf hv
    have pr := parts_r hP k (by omega)
    have okk := ok k (by omega)
    obtain ⟨x1, x2, x3, x4, x5, x6⟩ := okk
    have ed : m (P + 8) k = (((elC m0 P k).2.1.toNat : Nat) : Int) := by
      rw [hf (P + 8) (by omega) (by omega), Int.toNat_of_nonneg (by omega)]
      rfl
    have eo : m (P + 9) k = (elC m0 P k).2.2 := by
      rw [hf (P + 9) (by omega) (by omega)]
      rfl
    have erow : m (P + 2 + k) = m0 (P + 2 + k) := hf _ (by omega) (by omega)
    have ex : pR mk 7 (m (P + 2 + k)) = pR mk 7 (elC m0 P k).1 := by
      rw [erow]
      exact pR_congr H (fun y a b => (cutf_in (f := m0 (P + 2 + k)) a (by omega)).symm)
    have hz : ∀ y : Int, (((elC m0 P k).2.1.toNat : Nat) : Int) < y → y < 7 → m (P + 2 + k) y = 0 := fun y a b => by
      have := x5.2.1.2 y.toNat (by omega)
      rw [← ex, co_pR H, if_pos (by omega), Int.toNat_of_nonneg (by omega)] at this
      exact this
    have lim : cmD (elC m0 P) (fun k => oF c2 (elC m0 Po) (elC m0 P k)) (k + 1) ≤ 6 := by
      have h1 := cmD_le (elC m0 P) (fun k => oF c2 (elC m0 Po) (elC m0 P k)) (k + 1)
      have h2 := ds_mono (elC m0 P) (k := k + 1) (c - (k + 1))
      rw [show k + 1 + (c - (k + 1)) = c from by omega] at h2
      omega
    have go : rz_E y_Parts_shareWith 48 [rR P, rR Po, rR 12, rI ((cmD (elC m0 P) (fun k => oF c2 (elC m0 Po) (elC m0 P k)) k : Nat) : Int), rI k, rI (rz_mn (elC m0 P k).2.2 (oF c2 (elC m0 Po) (elC m0 P k))), rI 0] [] m K := by
      have e1 : cmD (elC m0 P) (fun k => oF c2 (elC m0 Po) (elC m0 P k)) (k + 1) = cmD (elC m0 P) (fun k => oF c2 (elC m0 Po) (elC m0 P k)) k + (elC m0 P k).2.1.toNat * (rz_mn (elC m0 P k).2.2 (oF c2 (elC m0 Po) (elC m0 P k))).toNat := rfl
      have := l_Pa_sw48 H (P := P) (Po := Po) hP (k := k) (by omega) (m0 := m) (d := (elC m0 P k).2.1.toNat) (by omega) ed hz (shared := rz_mn (elC m0 P k).2.2 (oF c2 (elC m0 Po) (elC m0 P k))) (K := K) (A := cmI mk (elC m0 P) (fun k => oF c2 (elC m0 Po) (elC m0 P k)) k) (n0 := cmD (elC m0 P) (fun k => oF c2 (elC m0 Po) (elC m0 P k)) k) ?_ ?_ (rz_mn (elC m0 P k).2.2 (oF c2 (elC m0 Po) (elC m0 P k))).toNat 0 m (by omega) (Or.inr rfl) (fun _ _ _ => rfl) ?_ ?_
      · rw [Nat.mul_zero, Nat.add_zero] at this
        exact this
      · rcases Int.le_total (rz_mn (elC m0 P k).2.2 (oF c2 (elC m0 Po) (elC m0 P k))) 0 with q | q
        · exact Or.inr q
        · refine Or.inl ?_
          rw [e1] at lim
          have e2 : ((((elC m0 P k).2.1.toNat * (rz_mn (elC m0 P k).2.2 (oF c2 (elC m0 Po) (elC m0 P k))).toNat : Nat)) : Int) = (((elC m0 P k).2.1.toNat : Nat) : Int) * rz_mn (elC m0 P k).2.2 (oF c2 (elC m0 Po) (elC m0 P k)) := by rw [Int.natCast_mul, Int.toNat_of_nonneg q]
          omega
      · intro m' f' v' _
        refine ih (k + 1) m' (by omega) (by omega) (fun i a b => by rw [f' i a b]; exact hf i a b) (fun y hy => ?_)
        rw [v' y hy, ex]
        rfl
      · intro y hy
        rw [Lean.Grind.Semiring.pow_zero, show cmI mk (elC m0 P) (fun k => oF c2 (elC m0 Po) (elC m0 P k)) k * 1 = cmI mk (elC m0 P) (fun k => oF c2 (elC m0 Po) (elC m0 P k)) k from by grind]
        exact hv y hy
      · intro y hy
        rw [Lean.Grind.Semiring.pow_zero, show cmI mk (elC m0 P) (fun k => oF c2 (elC m0 Po) (elC m0 P k)) k * 1 = cmI mk (elC m0 P) (fun k => oF c2 (elC m0 Po) (elC m0 P k)) k from by grind]
        exact (cm_z H k (fun j hj => ok j (by omega))).2 y (by omega)
    refine T_Parts_shareWith_13 _ _ _ _ _ _ _ ⟨cp.1, bf ?_ ⟨cp.1, ?_⟩⟩
    · rw [hf P (by omega) (by omega), ec]
      omega
    rw [cp.2.2.2.1, cp.2.1, pr.1, cp.2.2.2.2.2.2.1, cp.2.2.2.2.2.2.2.2.2.2, eo]
    have rowO : ∀ k' : Nat, k' < c2 → m (Po + 2 + k') = m0 (Po + 2 + k') := fun k' hk' => hf _ (by omega) (by omega)
    refine ⟨cp.2.2.2.2.2.2.2.2.2.1, ⟨by omega, by omega⟩, cp.1, cp.2.2.2.2.2.1, ⟨by omega, by omega⟩, cpo.1, c_Pa_oftenOf hPo hc2 pr.2.1 pr.2.2 (by rw [hf Po (by omega) (by omega)]; exact ec2) (fun k' hk' s => ?_) (fun s => ?_)⟩
    · have e1 : (elC m0 Po k').1 = (elC m0 P k).1 := canon_ext (cutf_canon _) (cutf_canon _) (fun y y0 y1 => by
        show cutf (m0 (Po + 2 + k')) y = cutf (m0 (P + 2 + k)) y
        rw [cutf_in y0 y1, cutf_in y0 y1, ← rowO k' hk', ← erow]
        exact s y y0 y1)
      have e2 : m (Po + 9) k' = oF c2 (elC m0 Po) (elC m0 P k) := by
        rw [oF_pos hd hk' e1, hf (Po + 9) (by omega) (by omega)]
        rfl
      rw [e2]
      exact go
    · have e2 : oF c2 (elC m0 Po) (elC m0 P k) = 0 := oF_neg (fun k' hk' e => s k' hk' (fun y y0 y1 => by
        have := congrFun e y
        have t : cutf (m0 (Po + 2 + k')) y = cutf (m0 (P + 2 + k)) y := this
        rw [cutf_in y0 y1, cutf_in y0 y1, ← rowO k' hk', ← erow] at t
        exact t))
      rw [e2] at go
      exact go
theorem c_Pa_shareWith [Lean.Grind.CommRing R] {co : R → Nat → Int} {mk : Nat → (Nat → Int) → R} (H : PolyR co mk) {P Po : Nat} (hP : isP P) (hPo : isP Po) (hne : P ≠ Po) {c c2 : Nat} (hc : c ≤ 6) (hc2 : c2 ≤ 6) {m0 : rz_M} (ec : m0 P 4 = c) (ec2 : m0 Po 4 = c2) (ok : ∀ k, k < c → elOK co mk (elC m0 P k)) (ds : dsI (elC m0 P) c ≤ 6) (hd : ∀ k k', k < c2 → k' < c2 → (elC m0 Po k).1 = (elC m0 Po k').1 → k = k') {K : Int → rz_M → Prop}
    (h : ∀ m' : rz_M, (∀ i, i ≠ 12 → i ≠ P + 10 → m' i = m0 i) → (∀ y : Nat, y < 7 → m' 12 y = w64 (co (cmI mk (elC m0 P) (fun k => oF c2 (elC m0 Po) (elC m0 P k)) c) y)) → K 0 m') : rz_C y_Parts_shareWith [rR P, rR Po, rR 12] m0 K := by
  have P12 : 12 < P ∧ P + 10 < 47 := by rcases hP with z | z | z <;> omega
  have Po12 : 12 < Po ∧ Po + 10 < 47 := by rcases hPo with z | z | z <;> omega
  have eC : ∀ (m' : rz_M), (∀ i, i ≠ 12 → i ≠ P + 10 → m' i = m0 i) → ∀ Q k, isP Q → k < 6 → elC m' Q k = elC m0 Q k := fun m' f' Q k hQ hk => by
    have : 12 < Q ∧ Q + 10 < 47 := by rcases hQ with z | z | z <;> omega
    unfold elC
    have far : Q = P ∨ P + 10 < Q ∨ Q + 10 < P := by rcases hP with z | z | z <;> rcases hQ with w | w | w <;> omega
    rw [f' (Q + 2 + k) (by omega) (by omega), f' (Q + 8) (by omega) (by omega), f' (Q + 9) (by omega) (by omega)]
  refine T_Parts_shareWith_0 _ _ _ _ _ (c_RC_clear (n := 7) (by decide +kernel) (by decide +kernel) (by decide) ⟨by decide +kernel, ⟨by decide, by decide +kernel⟩, ?_⟩)
  have f0 : ∀ i, i ≠ 12 → i ≠ P + 10 → rz_up (wr m0 12 7 (fun _ => 0)) 12 0 1 i = m0 i := fun i a _ => by rw [up_ne a, wr_ne a]
  refine l_Pa_sw13 H hP hPo hne hc hc2 ec ec2 ok ds hd h c 0 _ rfl (Nat.zero_le _) f0 (fun y hy => ?_)
  show _ = w64 (co (1 : R) y)
  rw [H.2.2.2.1]
  by_cases q : y = 0
  · subst q
    rw [if_pos rfl, show ((0 : Nat) : Int) = 0 from rfl, up_eq]
    decide +kernel
  · rw [if_neg q, up_nj (by omega), wr_in (by omega) (by omega)]
    decide +kernel
/-- the reference: one factor so often -/
theorem mt_el [Lean.Grind.CommRing R] {co : R → Nat → Int} {mk : Nat → (Nat → Int) → R} (H : PolyR co mk) {k : Nat} (hk : k < 6) {m0 m : rz_M} (e5 : m 225 = m0 225) (e6 : m 226 = m0 226) (ok : elOK co mk (elM m0 k)) {often : Int} (ho : often ≤ 100) {P : R} (hP : ∀ y : Nat, y < 7 → m 223 y = w64 (co P y)) {K : Int → rz_M → Prop} (h : ∀ m' : rz_M, (∀ x, x ≠ 223 → m' x = m x) → (∀ y : Int, 7 ≤ y → m' 223 y = m 223 y) → (∀ y : Nat, y < 7 → m' 223 y = w64 (co (P * pR mk 7 (elM m0 k).1 ^ often.toNat) y)) → K 0 m') : rz_C y_M_makeTimes [rR 221, rI k, rI often] m K := by
  obtain ⟨x1, x2, x3, x4, x5, x6⟩ := ok
  refine c_M_makeTimes H hk ho (d := (elM m0 k).2.1.toNat) (by omega) ?_ (fun y hy => ?_) x5.2.1.2 hP h
  · rw [e6, Int.toNat_of_nonneg (by omega)]
    rfl
  · rw [co_pR H, if_pos (by omega), elM_at (by omega) (by omega), e5]
theorem l_M_c201 [Lean.Grind.CommRing R] {co : R → Nat → Int} {mk : Nat → (Nat → Int) → R} (H : PolyR co mk) {c c2 : Nat} (hc : c ≤ 6) (hc2 : c2 ≤ 6) {m0 : rz_M} (ec : m0 221 9 = c) (ec2 : m0 221 22 = c2) (ok : ∀ k, k < c → elOK co mk (elM m0 k)) (ok2 : ∀ k, k < c2 → elOK co mk (elO m0 k)) (ds : dsI (elM m0) c ≤ 6) (hd : ∀ k k', k < c2 → k' < c2 → (elO m0 k).1 = (elO m0 k').1 → k = k') {to : Int} {K : Int → rz_M → Prop}
    (h : ∀ m' : rz_M, (∀ x, x ≠ 223 → m' x = m0 x) → (∀ y : Int, 7 ≤ y → m' 223 y = m0 223 y) → (∀ y : Nat, y < 7 → m' 223 y = w64 (co (cmI mk (elM m0) (fun k => oF c2 (elO m0) (elM m0 k)) c) y)) → rz_C y_M_put [rR 221, rI to] m' K) :
    ∀ (r k : Nat) (m : rz_M), c - k = r → k ≤ c → (∀ x, x ≠ 223 → m x = m0 x) → (∀ y : Int, 7 ≤ y → m 223 y = m0 223 y) → (∀ y : Nat, y < 7 → m 223 y = w64 (co (cmI mk (elM m0) (fun k => oF c2 (elO m0) (elM m0 k)) k) y)) → rz_E y_M_common 201 [rR 221, rX 0, rX 0, rI to, rX 0, rX 0, rI k, rX 0] [] m K := by
  intro r
  induction r with
  | zero =>
    intro k m hr hk hf h7 hv
    have e : k = c := by omega
    subst e
    refine T_M_common_201 _ _ _ _ (bt ?_ (h m hf h7 hv))
    rw [hf 221 (by decide), ec]
    exact Int.le_refl _
  | succ r ih =>
    intro k m hr hk hf h7 hv
    have wk : w32 ((k : Int) + 1) = ((k + 1 : Nat) : Int) := by rw [w32_id (by omega) (by omega)]; omega
    have okk := ok k (by omega)
    have o1 := okk.2.1
    have o2 := okk.2.2.2.1
    have ob : (elM m0 k).2.2 ≤ 100 := by
      have h2 := ds_mono (elM m0) (k := k + 1) (c - (k + 1))
      rw [show k + 1 + (c - (k + 1)) = c from by omega] at h2
      have h3 : dsI (elM m0) (k + 1) = dsI (elM m0) k + (elM m0 k).2.1.toNat * (elM m0 k).2.2.toNat := rfl
      have h4 : 1 * (elM m0 k).2.2.toNat ≤ (elM m0 k).2.1.toNat * (elM m0 k).2.2.toNat := Nat.mul_le_mul_right _ (by omega)
      omega
    have e27 : m 227 k = (elM m0 k).2.2 := by rw [hf 227 (by decide)]; rfl
    have eM : elM m k = elM m0 k := by
      unfold elM
      rw [hf 225 (by decide), hf 226 (by decide), hf 227 (by decide)]
    have eO : ∀ k', elO m k' = elO m0 k' := fun k' => by
      unfold elO
      rw [hf 234 (by decide), hf 235 (by decide), hf 236 (by decide)]
    have go : ∀ o : Int, o = oF c2 (elO m0) (elM m0 k) → rz_in (k : Int) 6 ∧ ((((m 227 k) ≤ o) → (rz_in (k : Int) 6 ∧ rz_C y_M_makeTimes [rR 221, rI k, rI (m 227 k)] m (fun r3 m3 => rz_E y_M_common 201 [rR 221, rX 0, rX 0, rI to, rX 0, rX 0, rI (w32 (k + 1)), rX 0] [] m3 K))) ∧ (¬ ((m 227 k) ≤ o) → rz_C y_M_makeTimes [rR 221, rI k, rI o] m (fun r4 m4 => rz_E y_M_common 201 [rR 221, rX 0, rX 0, rI to, rX 0, rX 0, rI (w32 (k + 1)), rX 0] [] m4 K))) := fun o eo => by
      have st : ∀ t : Int, t = rz_mn (elM m0 k).2.2 (oF c2 (elO m0) (elM m0 k)) → rz_C y_M_makeTimes [rR 221, rI k, rI t] m (fun r3 m3 => rz_E y_M_common 201 [rR 221, rX 0, rX 0, rI to, rX 0, rX 0, rI (w32 (k + 1)), rX 0] [] m3 K) := fun t et => by
        have tl := mn_le (elM m0 k).2.2 (oF c2 (elO m0) (elM m0 k))
        refine mt_el H (by omega) (hf 225 (by decide)) (hf 226 (by decide)) okk (by omega) hv (fun m' f' o' v' => ?_)
        rw [wk]
        refine ih (k + 1) m' (by omega) (by omega) (fun x hx => by rw [f' x hx]; exact hf x hx) (fun y hy => by rw [o' y hy]; exact h7 y hy) (fun y hy => ?_)
        rw [v' y hy, et]
        rfl
      rw [e27]
      refine ⟨⟨by omega, by omega⟩, bb (fun q => ⟨⟨by omega, by omega⟩, st _ ?_⟩) (fun q => st _ ?_)⟩
      · unfold rz_mn
        rw [if_neg (by omega)]
      · unfold rz_mn
        rw [if_pos (by omega)]
        exact eo
    refine T_M_common_201 _ _ _ _ (bf ?_ (c_M_oftenThere (by omega) hc2 (by rw [hf 221 (by decide)]; exact ec2) (fun k' hk' s => go _ ?_) (fun s => go _ ?_)))
    · rw [hf 221 (by decide), ec]
      omega
    · rw [eM, eO] at s
      rw [oF_pos hd hk' s.1, hf 236 (by decide)]
      rfl
    · refine (oF_neg (fun k' hk' e => s k' hk' ?_)).symm
      rw [eM, eO]
      exact ⟨e, (el_one H (ok2 k' hk') okk (by rw [e]; exact zd_rf _)).2⟩
theorem l_M_c143 [Lean.Grind.CommRing R] {co : R → Nat → Int} {mk : Nat → (Nat → Int) → R} (H : PolyR co mk) {c : Nat} (hc : c ≤ 6) {m0 : rz_M} (ec : m0 221 9 = c) (ok : ∀ k, k < c → elOK co mk (elM m0 k)) (ds : dsI (elM m0) c ≤ 6) {to : Int} {K : Int → rz_M → Prop}
    (h : ∀ m' : rz_M, (∀ x, x ≠ 223 → m' x = m0 x) → (∀ y : Int, 7 ≤ y → m' 223 y = m0 223 y) → (∀ y : Nat, y < 7 → m' 223 y = w64 (co (cmI mk (elM m0) (fun k => (elM m0 k).2.2) c) y)) → rz_C y_M_put [rR 221, rI to] m' K) :
    ∀ (r k : Nat) (m : rz_M), c - k = r → k ≤ c → (∀ x, x ≠ 223 → m x = m0 x) → (∀ y : Int, 7 ≤ y → m 223 y = m0 223 y) → (∀ y : Nat, y < 7 → m 223 y = w64 (co (cmI mk (elM m0) (fun k => (elM m0 k).2.2) k) y)) → rz_E y_M_common 143 [rR 221, rX 0, rX 0, rI to, rX 0, rX 0, rX 0, rI k] [] m K := by
  intro r
  induction r with
  | zero =>
    intro k m hr hk hf h7 hv
    have e : k = c := by omega
    subst e
    refine T_M_common_143 _ _ _ _ (bt ?_ (h m hf h7 hv))
    rw [hf 221 (by decide), ec]
    exact Int.le_refl _
  | succ r ih =>
    intro k m hr hk hf h7 hv
    have wk : w32 ((k : Int) + 1) = ((k + 1 : Nat) : Int) := by rw [w32_id (by omega) (by omega)]; omega
    have okk := ok k (by omega)
    have o1 := okk.2.1
    have o2 := okk.2.2.2.1
    have ob : (elM m0 k).2.2 ≤ 100 := by
      have h2 := ds_mono (elM m0) (k := k + 1) (c - (k + 1))
      rw [show k + 1 + (c - (k + 1)) = c from by omega] at h2
      have h3 : dsI (elM m0) (k + 1) = dsI (elM m0) k + (elM m0 k).2.1.toNat * (elM m0 k).2.2.toNat := rfl
      have h4 : 1 * (elM m0 k).2.2.toNat ≤ (elM m0 k).2.1.toNat * (elM m0 k).2.2.toNat := Nat.mul_le_mul_right _ (by omega)
      omega
    have e27 : m 227 k = (elM m0 k).2.2 := by rw [hf 227 (by decide)]; rfl
    refine T_M_common_143 _ _ _ _ (bf ?_ ⟨⟨by omega, by omega⟩, ?_⟩)
    · rw [hf 221 (by decide), ec]
      omega
    · rw [e27]
      refine mt_el H (by omega) (hf 225 (by decide)) (hf 226 (by decide)) okk ob hv (fun m' f' o' v' => ?_)
      rw [wk]
      refine ih (k + 1) m' (by omega) (by omega) (fun x hx => by rw [f' x hx]; exact hf x hx) (fun y hy => by rw [o' y hy]; exact h7 y hy) (fun y hy => ?_)
      rw [v' y hy]
      show w64 (co (cmI mk (elM m0) (fun k => (elM m0 k).2.2) k * pR mk 7 (elM m0 k).1 ^ (elM m0 k).2.2.toNat) y) = w64 (co (cmI mk (elM m0) (fun k => (elM m0 k).2.2) k * pR mk 7 (elM m0 k).1 ^ (rz_mn (elM m0 k).2.2 (elM m0 k).2.2).toNat) y)
      rw [show rz_mn (elM m0 k).2.2 (elM m0 k).2.2 = (elM m0 k).2.2 from by unfold rz_mn; split <;> rfl]
end
