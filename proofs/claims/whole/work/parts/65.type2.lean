/-! TYPE by a prime: what a type is; the class tells it -/
section
variable {R : Type}
/-- z is the type of the first seven numbers of f by P -/
def TyS [Lean.Grind.CommRing R] (co : R → Nat → Int) (mk : Nat → (Nat → Int) → R) (P : Nat) (f : Int → Int) (z : Int) : Prop :=
  ((P : Int) ∣ f (dg f) ∧ z = 0) ∨ (¬ (P : Int) ∣ f (dg f) ∧ ∃ (Df G : R) (e : Nat), isD co P Df (pR mk 7 f) ∧ gcdp co P G (pR mk 7 f) Df ∧ tpp co P G e ∧ (e ≠ 0 ∧ z = 0 ∨ e = 0 ∧ ∃ (c : R) (l : List (R × Nat)), tpp co P c 0 ∧ (∀ x ∈ l, irp co P x.1 x.2) ∧ l.Pairwise (fun x y => ¬ jd co P x.1 y.1 ∧ ¬ jd co P y.1 x.1) ∧ dvp co P (pR mk 7 f - c * prd l) ∧ sumd l = (dg f).toNat ∧ z = tyG (fun d => cn d l) 6 0))
theorem TyS_cg [Lean.Grind.CommRing R] {co : R → Nat → Int} {mk : Nat → (Nat → Int) → R} (H : PolyR co mk) {P : Nat} {f g : Int → Int} {z : Int} (e : ∀ k : Int, 0 ≤ k → k < 7 → f k = g k) (hd : 0 ≤ dg f) (h : TyS co mk P f z) : TyS co mk P g z := by
  have e1 : dg f = dg g := dgk_congr (fun k a b => e k a (by omega))
  have r := dg_rng f
  have e2 : f (dg f) = g (dg g) := by rw [← e1]; exact e _ hd (by omega)
  have e3 : pR mk 7 f = pR mk 7 g := pR_congr H (fun k a b => e k a (by omega))
  unfold TyS at h ⊢
  rw [e3, e2, e1] at h
  exact h
theorem gcdp_unit [Lean.Grind.CommRing R] {co : R → Nat → Int} {mk : Nat → (Nat → Int) → R} (H : PolyR co mk) {p u v : Int} (huv : p ∣ v * u - 1) {G A B : R} (h : gcdp co p G (mo mk 0 u * A) (mo mk 0 u * B)) : gcdp co p G A B := by
  have e : dvp co p (mo mk 0 v * mo mk 0 u - 1) := fun k => by
    rw [co_sub H, co_momul H, co_mo H, H.2.2.2.1, if_pos (Nat.zero_le _), Nat.sub_zero]
    split
    · exact huv
    · rw [Int.mul_zero]; exact ⟨0, by omega⟩
  obtain ⟨h1, h2, x, y, h3⟩ := h
  have fix : ∀ A : R, jd co p G (mo mk 0 u * A) → jd co p G A := fun A q => jd_nd H (jd_mul H (mo mk 0 v) q) (by
    have := dvp_mul H A e
    rwa [show ∀ A v u : R, A * (v * u - 1) = v * (u * A) - A from fun A v u => by grind] at this)
  refine ⟨fix A h1, fix B h2, x * mo mk 0 u, y * mo mk 0 u, ?_⟩
  rwa [show ∀ G A B x y u : R, G - (x * (u * A) + y * (u * B)) = G - (x * u * A + y * u * B) from fun G A B x y u => by grind] at h3
theorem unit_1 [Lean.Grind.CommRing R] {co : R → Nat → Int} {mk : Nat → (Nat → Int) → R} (H : PolyR co mk) {p : Int} (hp : isPr p) {G A B : R} (h : gcdp co p G A B) (ht : tpp co p G 0) : ∃ u v : R, dvp co p (u * A + v * B - 1) := by
  obtain ⟨_, _, x, y, h3⟩ := h
  obtain ⟨c, hc⟩ := inv_ex2 hp _ ht.1
  have e : dvp co p (mo mk 0 c * G - 1) := fun k => by
    rw [co_sub H, co_momul H, H.2.2.2.1, if_pos (Nat.zero_le _), Nat.sub_zero]
    split
    · next q => rw [q]; exact hc
    · rw [Int.sub_zero]; exact Int.dvd_mul_of_dvd_right (ht.2 k (by omega))
  refine ⟨mo mk 0 c * x, mo mk 0 c * y, ?_⟩
  have := dvp_add H e (dvp_neg H (dvp_mul H (mo mk 0 c) h3))
  rwa [show ∀ c G x y A B : R, c * G - 1 + -(c * (G - (x * A + y * B))) = c * x * A + c * y * B - 1 from fun c G x y A B => by grind] at this
theorem tpp_mo [Lean.Grind.CommRing R] {co : R → Nat → Int} {mk : Nat → (Nat → Int) → R} (H : PolyR co mk) {p c : Int} (h : ¬ p ∣ c) : tpp co p (mo mk 0 c : R) 0 := by
  refine ⟨?_, fun k hk => ?_⟩
  · rw [co_mo H, if_pos rfl]; exact h
  · rw [co_mo H, if_neg (by omega)]; exact ⟨0, by omega⟩
theorem c_PV_typeBy [Lean.Grind.CommRing R] {co : R → Nat → Int} {mk : Nat → (Nat → Int) → R} (H : PolyR co mk) {P : Nat} (hP : okP P) {a : Nat} (ha : isL a 7) (hac : a < 47 ∨ 54 < a) {m : rz_M} (hd : 1 ≤ dg (m a)) {K : Int → rz_M → Prop}
    (h : ∀ (z : Int) (m' : rz_M), (∀ i, (i < 47 ∨ 54 < i) → m' i = m i) → TyS co mk P (m a) z → K z m') : rz_C y_PV_typeBy [rR 47, rR a, rI P] m K := by
  have p2 := hP.1.1
  have p3 := hP.2
  have rd := dg_rng (m a)
  have ea : rz_up m 47 7 P a = m a := up_ne (by omega)
  have em : rz_up m 47 7 P 47 7 = P := up_eq
  refine T_PV_typeBy_0 _ _ _ _ (c_PV_load H hP ha (by omega) em (by rw [ea]; omega) (fun hz m1 f1 => ?_) (fun hz m1 f1 w1 hu => ?_))
  · rw [ea] at hz
    exact bt (by decide) (h 0 m1 (fun i hi => by rw [f1 i (by omega)]; exact up_ne (by omega)) (Or.inl ⟨hz, rfl⟩))
  · rw [ea] at hz w1 hu ⊢
    obtain ⟨u, u1, u2⟩ := hu
    obtain ⟨D, hD⟩ : ∃ D : Nat, dg (m a) = D := ⟨(dg (m a)).toNat, by omega⟩
    have em1 : m1 47 7 = P := by rw [f1 47 (by decide)]; exact em
    refine bf (by omega) (c_PV_hur H hP (D := dg (m a)) ⟨by omega, by omega⟩ em1 w1 (fun m2 f2 G Dw e tG iD gG => ?_))
    -- the derivative of the numbers themselves
    obtain ⟨DA, hDA⟩ := D_ex H (pR mk 7 (m a))
    have iA : isD co P DA (pR mk 7 (m a)) := fun k => by rw [hDA k]; exact ⟨0, by omega⟩
    have iuA : isD co P (mo mk 0 u * DA) (mo mk 0 u * pR mk 7 (m a)) := fun k => by
      rw [co_momul H, co_momul H, if_pos (Nat.zero_le _), if_pos (Nat.zero_le _), Nat.sub_zero, Nat.sub_zero, hDA k]
      exact ⟨0, by grind⟩
    have cD : dvp co P (Dw - mo mk 0 u * DA) := isD_cg H iD iuA u2
    have gA : gcdp co P G (pR mk 7 (m a)) DA := gcdp_unit H (u := u) (v := m a (dg (m a))) (by rwa [Int.mul_comm]) (gcdp_cg H gG (by rw [show ∀ a : R, a - a = 0 from fun a => by grind]; exact dvp_zero H) u2 cD)
    have fr : ∀ i, (i < 47 ∨ 54 < i) → m2 i = m i := fun i hi => by rw [f2 i (by omega) (by omega), f1 i (by omega)]; exact up_ne (by omega)
    refine ⟨fun e0 => bt (by decide) ?_, fun e0 => bf (by decide) (h 0 m2 fr (Or.inr ⟨hz, DA, G, e, iA, gA, tG, Or.inl ⟨e0, rfl⟩⟩))⟩
    subst e0
    -- the parts
    have tA : tpp co P (pR mk 7 (m a)) D := by
      refine ⟨?_, fun k hk => ?_⟩
      · rw [co_pR H, if_pos (by omega), ← hD]; exact hz
      · rw [co_pR H]
        split
        · rw [dgk_top (m a) 7 k (by show dg (m a) < k; omega) (by omega)]; exact ⟨0, by omega⟩
        · exact ⟨0, by omega⟩
    obtain ⟨c, l, c0, hir, hl, hs⟩ := fac_ex H hP.1 D _ tA
    obtain ⟨x, y, hxy⟩ := unit_1 H hP.1 gA tG
    have hpw := sqf_pw H (sqf_of H hP.1 iA hxy) l c hir hl
    have hle : ∀ q ∈ l, 1 ≤ q.2 := fun q hq => (hir q hq).1
    have nu : ¬ (P : Int) ∣ u := fun q => by
      have := Int.dvd_sub (Int.dvd_mul_of_dvd_left (c := m a (dg (m a))) q) u1
      rw [show u * m a (dg (m a)) - (u * m a (dg (m a)) - 1) = 1 from by omega] at this
      have := Int.le_of_dvd (by decide) this
      omega
    have e48 : m2 48 = m1 48 := f2 48 (by decide) (by decide)
    rw [hD]
    refine l_PV_ty32 H hP (m0 := m2) (T := tyG (fun d => cn d l) 6 0) (fun m' f' => h _ m' (fun i hi => by rw [f' i (by omega)]; exact fr i hi) (Or.inr ⟨hz, DA, G, 0, iA, gA, tG, Or.inr ⟨rfl, c, l, c0, hir, hpw, hl, by omega, rfl⟩⟩)) 6 1 D m2 0 l (by decide) (by decide) (by omega) (by decide) ?_ (by rw [f2 47 (by decide) (by decide)]; exact em1) (fun _ _ => rfl) ⟨by rw [e48, ← hD]; exact w1, hs, hir, hpw, hle, ⟨mo mk 0 u * c, tpp_mul H hP.1 (tpp_mo H nu) c0, ?_⟩, fun q => absurd q (by decide)⟩ rfl
    · have : 0 < 10 ^ (6 - D) := Nat.pow_pos (by decide)
      omega
    · rw [e48]
      have := dvp_add H u2 (dvp_mul H (mo mk 0 u) hl)
      rwa [show ∀ W u A c L : R, W - u * A + u * (A - c * L) = W - u * c * L from fun W u A c L => by grind] at this
end
