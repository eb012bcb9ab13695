/-! the kind of a plain row's group, both sides -/
def ro (F : Nat → E3) : Nat → Int
  | 0 => 0
  | k + 1 => ro F k + (F k).2.1
def tw (F : Nat → E3) : Nat → Int
  | 0 => 0
  | k + 1 => if (F k).2.1 = 2 then tw F k + 1 else tw F k
def fi (F : Nat → E3) : Nat → Int
  | 0 => -1
  | k + 1 => if (F k).2.1 = 2 then (if 0 ≤ fi F k then fi F k else k) else fi F k
noncomputable def kd (c : Nat) (F : Nat → E3) : Nat :=
  if (F (c - 1)).2.1 = 1 then 0
  else if (F (c - 1)).2.1 = 2 then (if 2 ≤ c ∧ (F (c - 2)).2.1 = 2 then @ite Nat (sameQ (dis2 (F (c - 2)).1) (dis2 (F (c - 1)).1)) (Classical.propDecidable _) 2 3 else 1)
  else if (F (c - 1)).2.1 = 3 then @ite Nat (isSq (dis3 (F (c - 1)).1)) (Classical.propDecidable _) 4 5
  else kq (F (c - 1)).1
theorem nx_nat (i : Nat) : ((rz_NX : Int) + (i : Int)).toNat = 249 + i := by
  have : (rz_NX : Int) = 249 := rfl
  omega
section
variable {R : Type}
/-- the parts of a plain row of degree at most 4 -/
def okL [Lean.Grind.CommRing R] (co : R → Nat → Int) (mk : Nat → (Nat → Int) → R) (c : Nat) (F : Nat → E3) : Prop :=
  (1 ≤ c ∧ c ≤ 4) ∧ (∀ k, k < c → elOK co mk (F k)) ∧ (∀ i j, i < j → j < c → (F i).2.1 ≤ (F j).2.1) ∧ ro F c ≤ 4 ∧
  ((F (c - 1)).2.1 = 4 → sm (F (c - 1)).1 ∧ (F (c - 1)).1 4 = 1) ∧
  ((F (c - 1)).2.1 = 3 → (dis3 (F (c - 1)).1).natAbs < 4611686018427387904) ∧
  (2 ≤ c → (F (c - 1)).2.1 = 2 → (F (c - 2)).2.1 = 2 → (dis2 (F (c - 2)).1).natAbs < 4611686018427387904 ∧ (dis2 (F (c - 1)).1).natAbs < 4611686018427387904 ∧ dis2 (F (c - 2)).1 ≠ 0 ∧ dis2 (F (c - 1)).1 ≠ 0)
theorem ro_ds [Lean.Grind.CommRing R] {co : R → Nat → Int} {mk : Nat → (Nat → Int) → R} {F : Nat → E3} : ∀ c : Nat, (∀ k, k < c → elOK co mk (F k)) → ro F c ≤ dsI F c ∧ (c : Int) ≤ ro F c
  | 0, _ => ⟨Int.le_refl _, Int.le_refl _⟩
  | c + 1, h => by
    have ih := ro_ds c (fun k hk => h k (by omega))
    have o := h c (by omega)
    have o1 := o.2.1
    have o2 := o.2.2.2.1
    have h4 : (F c).2.1.toNat * 1 ≤ (F c).2.1.toNat * (F c).2.2.toNat := Nat.mul_le_mul_left _ (by omega)
    have h3 : dsI F (c + 1) = dsI F c + (F c).2.1.toNat * (F c).2.2.toNat := rfl
    have h5 : ro F (c + 1) = ro F c + (F c).2.1 := rfl
    omega
/-- an even one's numbers: none is a square of one -/
theorem dis2_nz [Lean.Grind.CommRing R] {co : R → Nat → Int} {mk : Nat → (Nat → Int) → R} (H : PolyR co mk) {f : Int → Int} (h : irz co (pR mk 7 f) 2) (f2 : f 2 = 1) : dis2 f ≠ 0 := by
  intro z
  have fz : ∀ k : Nat, 2 < k → k < 7 → f k = 0 := fun k k0 k1 => by
    have a := h.2.1.2 k k0
    rwa [co_pR H, if_pos k1] at a
  have z3 : f 3 = 0 := fz 3 (by decide) (by decide)
  have z4 : f 4 = 0 := fz 4 (by decide) (by decide)
  have z5 : f 5 = 0 := fz 5 (by decide) (by decide)
  have z6 : f 6 = 0 := fz 6 (by decide) (by decide)
  unfold dis2 at z
  rw [f2] at z
  obtain ⟨w, hw⟩ : ∃ w : Int, f 1 = 2 * w := by
    rcases Int.emod_two_eq (f 1) with q | q
    · exact ⟨f 1 / 2, by omega⟩
    · exfalso
      obtain ⟨x, hx⟩ : ∃ x : Int, f 1 = 2 * x + 1 := ⟨f 1 / 2, by omega⟩
      have : f 1 * f 1 = 4 * (x * x) + 4 * x + 1 := by rw [hx]; grind
      omega
  refine no_root H h (by decide) (-w) ?_
  unfold ev7
  rw [f2, z3, z4, z5, z6, hw]
  rw [hw] at z
  have : 4 * f 0 = 4 * (w * w) := by grind
  have e0 : f 0 = w * w := by omega
  rw [e0]
  grind
theorem dis3_bd {f : Int → Int} {B : Int} (hB : B = 16000) (h : ∀ k : Int, 0 ≤ k → k ≤ 3 → bd (f k) B) : (dis3 f).natAbs < 4611686018427387904 ∨ f 3 ≠ 1 := by
  subst hB
  by_cases q : f 3 = 1
  · refine Or.inl ?_
    have n0 : (f 0).natAbs ≤ 16000 := by have := h 0 (by decide) (by decide); unfold bd at this; omega
    have n1 : (f 1).natAbs ≤ 16000 := by have := h 1 (by decide) (by decide); unfold bd at this; omega
    have n2 : (f 2).natAbs ≤ 16000 := by have := h 2 (by decide) (by decide); unfold bd at this; omega
    have n3 : (f 3).natAbs ≤ 1 := by omega
    have a1 := nab (nab (nab n2 n2) n1) n1
    have a2 := nab (nab (nab (nab (show (4 : Int).natAbs ≤ 4 by decide) n3) n1) n1) n1
    have a3 := nab (nab (nab (nab (show (4 : Int).natAbs ≤ 4 by decide) n2) n2) n2) n0
    have a4 := nab (nab (nab (nab (show (27 : Int).natAbs ≤ 27 by decide) n3) n3) n0) n0
    have a5 := nab (nab (nab (nab (show (18 : Int).natAbs ≤ 18 by decide) n3) n2) n1) n0
    unfold dis3
    omega
  · exact Or.inr q
theorem ok_list [Lean.Grind.CommRing R] {co : R → Nat → Int} {mk : Nat → (Nat → Int) → R} (H : PolyR co mk) {f : Int → Int} {n : Int} (hc : core co mk f n) (n14 : 1 ≤ n ∧ n ≤ 4) (fl : f n = 1) (fb : ∀ j : Int, 0 ≤ j → j < 7 → bd (f j) 100) {c : Nat} {F : Nat → E3} (hL : FacL co mk (pR mk 7 f) ((List.range c).map F)) (hs : ((List.range c).map F).Pairwise bef) : okL co mk c F := by
  obtain ⟨ok, _, ds⟩ := fl_in H hL (core_tz H hc)
  have rd := ro_ds c ok
  have c1 : 1 ≤ c := by
    refine Classical.byContradiction fun q => ?_
    have : c = 0 := by omega
    subst this
    have : dsI F 0 = 0 := rfl
    omega
  have so : ∀ i j, i < j → j < c → (F i).2.1 ≤ (F j).2.1 := fun i j ij jc => by
    have p := List.pairwise_iff_getElem.mp hs i j (by simp; omega) (by simpa using jc) ij
    simp at p
    rcases p with p | p
    · omega
    · have := p.1
      omega
  -- alone: it is the row
  have alone : c = 1 → (F 0).2.2 = 1 → ∀ j : Int, 0 ≤ j → j < 7 → (F 0).1 j = f j := fun e o j j0 j1 => by
    subst e
    have e1 : pR mk 7 f = pR mk 7 (F 0).1 ^ (F 0).2.2.toNat * 1 := hL.2.2
    rw [o, show ((1 : Int)).toNat = 0 + 1 from rfl, Lean.Grind.Semiring.pow_succ, Lean.Grind.Semiring.pow_zero, show (1 * pR mk 7 (F 0).1 * 1 : R) = pR mk 7 (F 0).1 from by grind] at e1
    have e2 : co (pR mk 7 f) j.toNat = co (pR mk 7 (F 0).1) j.toNat := by rw [e1]
    rw [co_pR H, co_pR H, if_pos (by omega), if_pos (by omega), Int.toNat_of_nonneg j0] at e2
    exact e2.symm
  have two : c = 2 → (F 0).2.2 = 1 → (F 1).2.2 = 1 → pR mk 7 f = pR mk 7 (F 0).1 * pR mk 7 (F 1).1 := fun e o0 o1 => by
    subst e
    have e1 : pR mk 7 f = pR mk 7 (F 0).1 ^ (F 0).2.2.toNat * (pR mk 7 (F 1).1 ^ (F 1).2.2.toNat * 1) := hL.2.2
    rw [o0, o1, show ((1 : Int)).toNat = 0 + 1 from rfl, Lean.Grind.Semiring.pow_succ, Lean.Grind.Semiring.pow_zero, Lean.Grind.Semiring.pow_succ, Lean.Grind.Semiring.pow_zero] at e1
    rw [e1]
    grind
  have top : ∀ k, k < c → ∀ y : Int, (F k).2.1 < y → y < 7 → (F k).1 y = 0 := fun k hk y y0 y1 => by
    have o := ok k hk
    have o1 := o.2.1
    have := o.2.2.2.2.1.2.1.2 y.toNat (by omega)
    rwa [co_pR H, if_pos (by omega), Int.toNat_of_nonneg (by omega)] at this
  have o0 := ok 0 (by omega)
  have o01 := o0.2.1
  have o02 := o0.2.2.2.1
  have m0 : (F 0).2.1.toNat * 1 ≤ (F 0).2.1.toNat * (F 0).2.2.toNat := Nat.mul_le_mul_left _ (by omega)
  have m0' : 1 * (F 0).2.2.toNat ≤ (F 0).2.1.toNat * (F 0).2.2.toNat := Nat.mul_le_mul_right _ (by omega)
  refine ⟨⟨c1, by omega⟩, ok, so, by omega, fun d4 => ?_, fun d3 => ?_, fun c2 d2 d2' => ?_⟩
  · -- degree 4: alone
    have cc : c = 1 := by
      refine Classical.byContradiction fun q => ?_
      obtain ⟨x, rfl⟩ : ∃ x, c = x + 2 := ⟨c - 2, by omega⟩
      have h1 := ro_ds (x + 1) (fun k hk => ok k (by omega))
      have h2 : ro F (x + 2) = ro F (x + 1) + (F (x + 1)).2.1 := rfl
      rw [show x + 2 - 1 = x + 1 from by omega] at d4
      omega
    subst cc
    have d4' : (F 0).2.1 = 4 := d4
    have ds' : dsI F 1 = 0 + (F 0).2.1.toNat * (F 0).2.2.toNat := rfl
    have m4 : 4 * (F 0).2.2.toNat = (F 0).2.1.toNat * (F 0).2.2.toNat := by rw [d4']; rfl
    have oo : (F 0).2.2 = 1 := by omega
    have al := alone rfl oo
    have n4 : n = 4 := by omega
    subst n4
    refine ⟨fun j j0 j1 => ?_, ?_⟩
    · show -100 ≤ (F 0).1 j ∧ (F 0).1 j ≤ 100
      rw [al j j0 j1]
      exact fb j j0 j1
    · show (F 0).1 4 = 1
      rw [al 4 (by decide) (by decide)]
      exact fl
  · have cc : c = 1 ∨ c = 2 := by
      refine Classical.byContradiction fun q => ?_
      obtain ⟨x, rfl⟩ : ∃ x, c = x + 3 := ⟨c - 3, by omega⟩
      have h1 := ro_ds (x + 2) (fun k hk => ok k (by omega))
      have h2 : ro F (x + 3) = ro F (x + 2) + (F (x + 2)).2.1 := rfl
      rw [show x + 3 - 1 = x + 2 from by omega] at d3
      omega
    rcases cc with rfl | rfl
    · have d3' : (F 0).2.1 = 3 := d3
      have ds' : dsI F 1 = 0 + (F 0).2.1.toNat * (F 0).2.2.toNat := rfl
      have m3 : 3 * (F 0).2.2.toNat = (F 0).2.1.toNat * (F 0).2.2.toNat := by rw [d3']; rfl
      have oo : (F 0).2.2 = 1 := by omega
      have al := alone rfl oo
      have n3 : n = 3 := by omega
      subst n3
      have l1 : (F 0).1 3 = 1 := by rw [al 3 (by decide) (by decide)]; exact fl
      rcases dis3_bd (f := (F 0).1) (B := 16000) rfl (fun k k0 k1 => by rw [al k k0 (by omega)]; exact bd_le (fb k k0 (by omega)) (by decide)) with q | q
      · exact q
      · exact absurd l1 q
    · have d3' : (F 1).2.1 = 3 := d3
      have o1 := ok 1 (by decide)
      have o11 := o1.2.2.2.1
      have ds' : dsI F 2 = 0 + (F 0).2.1.toNat * (F 0).2.2.toNat + (F 1).2.1.toNat * (F 1).2.2.toNat := rfl
      have m3 : 3 * (F 1).2.2.toNat = (F 1).2.1.toNat * (F 1).2.2.toNat := by rw [d3']; rfl
      have a1 : (F 1).2.2 = 1 := by omega
      have a0 : (F 0).2.2 = 1 := by omega
      have d0 : (F 0).2.1 = 1 := by omega
      have e := two rfl a0 a1
      have n4 : n = 4 := by omega
      subst n4
      have t0 := top 0 (by decide)
      have t1 := top 1 (by decide)
      rw [d0] at t0
      rw [d3'] at t1
      have p0 := o0.2.2.2.2.2
      rw [d0] at p0
      have p1 := o1.2.2.2.2.2
      rw [d3'] at p1
      have lq := lin_q H hc (by decide) (by omega) t0 (by rw [show (4 : Int) - 1 = 3 from by decide]; exact t1) e
      have lt := co_rowt H (n := 4) (d := 1) (by decide) (by decide) t0 (by rw [show (4 : Int) - 1 = 3 from by decide]; exact t1) e
      rw [fl, show (4 : Int) - 1 = 3 from by decide] at lt
      have l1 : (F 1).1 3 = 1 := by
        have h1 : (F 1).1 3 ∣ 1 := ⟨(F 0).1 1, by rw [Int.mul_comm]; exact lt⟩
        have := Int.le_of_dvd (by decide) h1
        omega
      have tb : tbn (4 - 1) = 16000 := by decide
      rw [tb] at lq
      rcases dis3_bd (f := (F 1).1) (B := 16000) rfl (fun k k0 k1 => lq k k0 (by omega)) with q | q
      · exact q
      · exact absurd l1 q
  · have cc : c = 2 := by
      refine Classical.byContradiction fun q => ?_
      obtain ⟨x, rfl⟩ : ∃ x, c = x + 3 := ⟨c - 3, by omega⟩
      have h1 := ro_ds (x + 1) (fun k hk => ok k (by omega))
      have h2 : ro F (x + 3) = ro F (x + 1) + (F (x + 1)).2.1 + (F (x + 2)).2.1 := rfl
      rw [show x + 3 - 1 = x + 2 from by omega] at d2
      rw [show x + 3 - 2 = x + 1 from by omega] at d2'
      omega
    subst cc
    have d1 : (F 1).2.1 = 2 := d2
    have d0 : (F 0).2.1 = 2 := d2'
    have o1 := ok 1 (by decide)
    have o11 := o1.2.2.2.1
    have ds' : dsI F 2 = 0 + (F 0).2.1.toNat * (F 0).2.2.toNat + (F 1).2.1.toNat * (F 1).2.2.toNat := rfl
    have m3 : 2 * (F 1).2.2.toNat = (F 1).2.1.toNat * (F 1).2.2.toNat := by rw [d1]; rfl
    have m4 : 2 * (F 0).2.2.toNat = (F 0).2.1.toNat * (F 0).2.2.toNat := by rw [d0]; rfl
    have a1 : (F 1).2.2 = 1 := by omega
    have a0 : (F 0).2.2 = 1 := by omega
    have e := two rfl a0 a1
    have n4 : n = 4 := by omega
    subst n4
    have t0 := top 0 (by decide)
    have t1 := top 1 (by decide)
    rw [d0] at t0
    rw [d1] at t1
    have p0 := o0.2.2.2.2.2
    rw [d0] at p0
    have p1 := o1.2.2.2.2.2
    rw [d1] at p1
    have i0 := o0.2.2.2.2.1
    have i1 := o1.2.2.2.2.1
    rw [d0] at i0
    rw [d1] at i1
    have lt := co_rowt H (n := 4) (d := 2) (by decide) (by decide) t0 (by rw [show (4 : Int) - 2 = 2 from by decide]; exact t1) e
    rw [fl, show (4 : Int) - 2 = 2 from by decide] at lt
    have l1 : (F 1).1 2 = 1 := by
      have h1 : (F 1).1 2 ∣ 1 := ⟨(F 0).1 2, by rw [Int.mul_comm]; exact lt⟩
      have := Int.le_of_dvd (by decide) h1
      omega
    have l0 : (F 0).1 2 = 1 := by
      have h1 : (F 0).1 2 ∣ 1 := ⟨(F 1).1 2, lt⟩
      have := Int.le_of_dvd (by decide) h1
      omega
    have v0 := ev_mul H e 0
    have v1 := ev_mul H e 1
    have evb := ev_b (f := f) (B := 100) (fun k k0 k1 => fb k k0 k1)
    have bq : ∀ g : Int → Int, g 2 = 1 → (∀ y : Int, 2 < y → y < 7 → g y = 0) → ev7 g 0 ∣ ev7 f 0 → ev7 f 0 ≠ 0 → ev7 g 1 ∣ ev7 f 1 → ev7 f 1 ≠ 0 → (dis2 g).natAbs < 4611686018427387904 := fun g g2 gz h0 n0 h1 n1 => by
      have b0 := Nat.le_of_dvd (by omega) (Int.natAbs_dvd_natAbs.mpr h0)
      have b1 := Nat.le_of_dvd (by omega) (Int.natAbs_dvd_natAbs.mpr h1)
      have x0 := evb.1
      have x1 := evb.2.1
      unfold bd at x0 x1
      have g0e : ev7 g 0 = g 0 := by unfold ev7; omega
      have g1e : ev7 g 1 = g 0 + g 1 + 1 := by unfold ev7; rw [g2, gz 3 (by decide) (by decide), gz 4 (by decide) (by decide), gz 5 (by decide) (by decide), gz 6 (by decide) (by decide)]; omega
      rw [g0e] at b0
      rw [g1e] at b1
      have y0 : (g 0).natAbs ≤ 100 := by omega
      have y1 : (g 1).natAbs ≤ 801 := by omega
      have z1 := nab y1 y1
      unfold dis2
      rw [g2]
      omega
    have r00 := no_root H i0 (by decide) 0
    have r01 := no_root H i0 (by decide) 1
    have r10 := no_root H i1 (by decide) 0
    have r11 := no_root H i1 (by decide) 1
    have nz0 : ev7 f 0 ≠ 0 := by rw [v0]; exact Int.mul_ne_zero r00 r10
    have nz1 : ev7 f 1 ≠ 0 := by rw [v1]; exact Int.mul_ne_zero r01 r11
    exact ⟨bq _ l0 t0 ⟨_, v0⟩ nz0 ⟨_, v1⟩ nz1, bq _ l1 t1 ⟨_, by rw [v0, Int.mul_comm]⟩ nz0 ⟨_, by rw [v1, Int.mul_comm]⟩ nz1, dis2_nz H i0 l0, dis2_nz H i1 l1⟩
/-- kinds and numbers of roots -/
theorem tw_of [Lean.Grind.CommRing R] {co : R → Nat → Int} {mk : Nat → (Nat → Int) → R} {c : Nat} {F : Nat → E3} (h : okL co mk c F) : (1 ≤ (F (c - 1)).2.1 ∧ (F (c - 1)).2.1 ≤ 4) ∧ ((F (c - 1)).2.1 ≠ 2 → tw F c = 0) ∧ ((F (c - 1)).2.1 = 2 → (2 ≤ c ∧ (F (c - 2)).2.1 = 2 → tw F c = 2 ∧ fi F c = 0 ∧ c = 2) ∧ (¬ (2 ≤ c ∧ (F (c - 2)).2.1 = 2) → tw F c = 1)) := by
  obtain ⟨⟨c1, c4⟩, ok, so, r4, _⟩ := h
  have d0 := (ok 0 (by omega)).2.1
  have cc : c = 1 ∨ c = 2 ∨ c = 3 ∨ c = 4 := by omega
  rcases cc with rfl | rfl | rfl | rfl
  · have r4' : 0 + (F 0).2.1 ≤ 4 := r4
    show (1 ≤ (F 0).2.1 ∧ (F 0).2.1 ≤ 4) ∧ ((F 0).2.1 ≠ 2 → (if (F 0).2.1 = 2 then (0 : Int) + 1 else 0) = 0) ∧ ((F 0).2.1 = 2 → (2 ≤ 1 ∧ _ → _ ∧ _ ∧ _) ∧ (¬ (2 ≤ 1 ∧ _) → (if (F 0).2.1 = 2 then (0 : Int) + 1 else 0) = 1))
    refine ⟨by omega, fun q => if_neg q, fun q => ⟨fun w => absurd w.1 (by decide), fun _ => by rw [if_pos q]; rfl⟩⟩
  · have r4' : 0 + (F 0).2.1 + (F 1).2.1 ≤ 4 := r4
    have d1 := (ok 1 (by decide)).2.1
    have s01 := so 0 1 (by decide) (by decide)
    show (1 ≤ (F 1).2.1 ∧ (F 1).2.1 ≤ 4) ∧ ((F 1).2.1 ≠ 2 → (if (F 1).2.1 = 2 then (if (F 0).2.1 = 2 then (0 : Int) + 1 else 0) + 1 else (if (F 0).2.1 = 2 then (0 : Int) + 1 else 0)) = 0) ∧ ((F 1).2.1 = 2 → (2 ≤ 2 ∧ (F 0).2.1 = 2 → (if (F 1).2.1 = 2 then (if (F 0).2.1 = 2 then (0 : Int) + 1 else 0) + 1 else (if (F 0).2.1 = 2 then (0 : Int) + 1 else 0)) = 2 ∧ (if (F 1).2.1 = 2 then (if 0 ≤ (if (F 0).2.1 = 2 then (if (0 : Int) ≤ -1 then (-1 : Int) else ((0 : Nat) : Int)) else -1) then (if (F 0).2.1 = 2 then (if (0 : Int) ≤ -1 then (-1 : Int) else ((0 : Nat) : Int)) else -1) else ((1 : Nat) : Int)) else (if (F 0).2.1 = 2 then (if (0 : Int) ≤ -1 then (-1 : Int) else ((0 : Nat) : Int)) else -1)) = 0 ∧ 2 = 2) ∧ (¬ (2 ≤ 2 ∧ (F 0).2.1 = 2) → (if (F 1).2.1 = 2 then (if (F 0).2.1 = 2 then (0 : Int) + 1 else 0) + 1 else (if (F 0).2.1 = 2 then (0 : Int) + 1 else 0)) = 1))
    generalize (F 0).2.1 = x at *
    generalize (F 1).2.1 = y at *
    refine ⟨by omega, fun q => ?_, fun q => ⟨fun w => ?_, fun w => ?_⟩⟩
    · rw [if_neg q, if_neg (by omega)]
    · have h2 := w.2
      subst h2
      subst q
      exact ⟨by decide, by decide, rfl⟩
    · rw [if_pos q, if_neg (fun z => w ⟨by decide, z⟩)]
      rfl
  · have r4' : 0 + (F 0).2.1 + (F 1).2.1 + (F 2).2.1 ≤ 4 := r4
    have d1 := (ok 1 (by decide)).2.1
    have d2 := (ok 2 (by decide)).2.1
    show (1 ≤ (F 2).2.1 ∧ (F 2).2.1 ≤ 4) ∧ ((F 2).2.1 ≠ 2 → (if (F 2).2.1 = 2 then (if (F 1).2.1 = 2 then (if (F 0).2.1 = 2 then (0 : Int) + 1 else 0) + 1 else (if (F 0).2.1 = 2 then (0 : Int) + 1 else 0)) + 1 else (if (F 1).2.1 = 2 then (if (F 0).2.1 = 2 then (0 : Int) + 1 else 0) + 1 else (if (F 0).2.1 = 2 then (0 : Int) + 1 else 0))) = 0) ∧ ((F 2).2.1 = 2 → (2 ≤ 3 ∧ (F 1).2.1 = 2 → _ ∧ _ ∧ 3 = 2) ∧ (¬ (2 ≤ 3 ∧ (F 1).2.1 = 2) → (if (F 2).2.1 = 2 then (if (F 1).2.1 = 2 then (if (F 0).2.1 = 2 then (0 : Int) + 1 else 0) + 1 else (if (F 0).2.1 = 2 then (0 : Int) + 1 else 0)) + 1 else (if (F 1).2.1 = 2 then (if (F 0).2.1 = 2 then (0 : Int) + 1 else 0) + 1 else (if (F 0).2.1 = 2 then (0 : Int) + 1 else 0))) = 1))
    have so1 := so 0 1 (by decide) (by decide)
    have so2 := so 1 2 (by decide) (by decide)
    refine ⟨by omega, fun q => ?_, fun q => ⟨fun w => absurd w.2 (by omega), fun w => ?_⟩⟩
    · rw [if_neg q, if_neg (by omega), if_neg (by omega)]
    · rw [if_pos q, if_neg (by omega), if_neg (by omega)]
      rfl
  · have r4' : 0 + (F 0).2.1 + (F 1).2.1 + (F 2).2.1 + (F 3).2.1 ≤ 4 := r4
    have d1 := (ok 1 (by decide)).2.1
    have d2 := (ok 2 (by decide)).2.1
    have d3 := (ok 3 (by decide)).2.1
    have e0 : (F 0).2.1 = 1 := by omega
    have e1 : (F 1).2.1 = 1 := by omega
    have e2 : (F 2).2.1 = 1 := by omega
    have e3 : (F 3).2.1 = 1 := by omega
    refine ⟨by show 1 ≤ (F 3).2.1 ∧ (F 3).2.1 ≤ 4; omega, fun q => ?_, fun q => absurd q (by show ¬ (F 3).2.1 = 2; omega)⟩
    simp only [tw]
    rw [if_neg (by omega), if_neg (by omega), if_neg (by omega), if_neg (by omega)]
theorem kd_lt [Lean.Grind.CommRing R] {co : R → Nat → Int} {mk : Nat → (Nat → Int) → R} {c : Nat} {F : Nat → E3} (h : okL co mk c F) : kd c F < 11 ∧ 1 ≤ ro F c ∧ ro F c ≤ 4 ∧ okRt (kd c F) (ro F c).toNat = true := by
  have t := tw_of h
  obtain ⟨⟨c1, c4⟩, ok, so, r4, _⟩ := h
  obtain ⟨x, rfl⟩ : ∃ x, c = x + 1 := ⟨c - 1, by omega⟩
  have rd := ro_ds x (fun k hk => ok k (by omega))
  have r1 : ro F (x + 1) = ro F x + (F x).2.1 := rfl
  rw [show x + 1 - 1 = x from by omega] at t
  have kb := kq_le (F x).1
  have kg := kq_ge (F x).1
  have tab : ∀ i : Nat, i < 11 → ∀ r : Nat, r < 5 → 1 ≤ r → (i = 0 ∨ (i = 1 ∧ 2 ≤ r) ∨ ((i = 4 ∨ i = 5) ∧ 3 ≤ r) ∨ r = 4) → okRt i r = true := fun i hi r hr r1 hc => by
    have e : ∀ r : Nat, r < 5 → ∀ i : Nat, i < 11 → (Nat.ble 1 r && (Nat.beq i 0 || (Nat.beq i 1 && Nat.ble 2 r) || ((Nat.beq i 4 || Nat.beq i 5) && Nat.ble 3 r) || Nat.beq r 4)) = okRt i r := by decide +kernel
    rw [← e r hr i hi]
    simp only [Bool.and_eq_true, Bool.or_eq_true, Nat.ble_eq, Nat.beq_eq]
    omega
  obtain ⟨i, hi⟩ : ∃ i, kd (x + 1) F = i := ⟨_, rfl⟩
  rw [hi]
  have hi2 := hi
  unfold kd at hi2
  rw [show x + 1 - 1 = x from by omega] at hi2
  have key : i < 11 ∧ (i = 0 ∨ (i = 1 ∧ 2 ≤ ro F (x + 1)) ∨ ((i = 4 ∨ i = 5) ∧ 3 ≤ ro F (x + 1)) ∨ ro F (x + 1) = 4) := by
    by_cases q1 : (F x).2.1 = 1
    · rw [if_pos q1] at hi2
      omega
    · rw [if_neg q1] at hi2
      by_cases q2 : (F x).2.1 = 2
      · rw [if_pos q2] at hi2
        by_cases z : 2 ≤ x + 1 ∧ (F (x + 1 - 2)).2.1 = 2
        · have t2 := (t.2.2 q2).1 z
          rw [if_pos z] at hi2
          have x1 : x = 1 := by omega
          subst x1
          have z2 : (F 0).2.1 = 2 := z.2
          have r2 : ro F (1 + 1) = 0 + (F 0).2.1 + (F 1).2.1 := rfl
          split at hi2 <;> omega
        · rw [if_neg z] at hi2
          omega
      · rw [if_neg q2] at hi2
        by_cases q3 : (F x).2.1 = 3
        · rw [if_pos q3] at hi2
          split at hi2 <;> omega
        · rw [if_neg q3] at hi2
          omega
  exact ⟨key.1, by omega, r4, tab i key.1 _ (by omega) (by omega) (by omega)⟩
theorem c_RC_kindOf [Lean.Grind.CommRing R] {co : R → Nat → Int} {mk : Nat → (Nat → Int) → R} (H : PolyR co mk) {m : rz_M} {c : Nat} (ec : m 25 4 = c) (h : okL co mk c (elC m 25)) {K : Int → rz_M → Prop} (hK : K ((249 + kd c (elC m 25) : Nat) : Int) m) : rz_C y_RC_kindOf [rR 25] m K := by
  have P25 : isP 25 := Or.inr (Or.inl rfl)
  have t := tw_of h
  obtain ⟨⟨c1, c4⟩, ok, so, r4, q4, q3, q2⟩ := h
  obtain ⟨x, rfl⟩ : ∃ x, c = x + 1 := ⟨c - 1, by omega⟩
  rw [show x + 1 - 1 = x from by omega] at t q4 q3 q2
  have cp := parts_c P25
  have pr := parts_r P25 x (by omega)
  have pi : isL (25 + 2 + x) 7 := ⟨pr.2.1, by rw [pr.2.2]; decide⟩
  have ex : m (25 + 8) (x : Int) = (elC m 25 x).2.1 := rfl
  have ev : ∀ k j, 0 ≤ j → j < 7 → (elC m 25 k).1 j = m (25 + 2 + k) j := fun k j a b => cutf_in (f := m (25 + 2 + k)) a b
  have okx := ok x (by omega)
  refine T_RC_kindOf_0 _ _ _ ⟨cp.1, ?_⟩
  rw [ec, w32_id (z := ((x + 1 : Nat) : Int) - 1) (by omega) (by omega), show ((x + 1 : Nat) : Int) - 1 = x from by omega, cp.2.1, cp.2.2.1, pr.1, cp.2.2.2.2.2.2.1, cp.2.2.2.2.2.2.2.2.1, ex]
  unfold kd at hK
  rw [show x + 1 - 1 = x from by omega] at hK
  refine bt (by omega) ⟨cp.1, cp.2.2.2.2.2.1, ⟨by omega, by omega⟩, cp.1, cp.2.2.2.2.2.2.2.1, ⟨by omega, by omega⟩, fun z => ?_, fun z => ?_, fun z => ?_, fun z => ?_, trivial⟩
  · have d4 : (elC m 25 x).2.1 = 4 := by omega
    rw [if_neg (by omega), if_neg (by omega), if_neg (by omega)] at hK
    have ir := okx.2.2.2.2.1
    rw [d4] at ir
    have s4 := q4 d4
    have eq : kq (m (25 + 2 + x)) = kq (elC m 25 x).1 := kq_congr (fun j a b => (ev x j a b).symm)
    refine c_RC_kindOfQuartic H pi (fun j a b => by rw [← ev x j a b]; exact s4.1 j a b) ?_ (by rw [← ev x 4 (by decide) (by decide)]; exact s4.2) ?_
    · have : pR mk 7 (m (25 + 2 + x)) = pR mk 7 (elC m 25 x).1 := pR_congr H (fun j a b => (ev x j a (by omega)).symm)
      rw [this]
      exact ir
    · have kl := kq_le (elC m 25 x).1
      rw [eq, show ((rz_NX : Int) + ((kq (elC m 25 x).1 : Nat) : Int)).toNat = 249 + kq (elC m 25 x).1 from nx_nat _]
      exact ⟨isC_K _ (by omega), hK⟩
  · rw [if_pos z] at hK
    exact hK
  · have d2 : (elC m 25 x).2.1 = 2 := by omega
    rw [if_neg (by omega), if_pos d2] at hK
    have fin : ∀ i : Nat, i < 11 → K ((249 + i : Nat) : Int) m → rz_isC ((rz_NX : Int) + i).toNat 8 = true ∧ K (((rz_NX : Int) + i).toNat : Int) m := fun i hi hk => by
      rw [show ((rz_NX : Int) + (i : Int)).toNat = 249 + i from nx_nat _]
      exact ⟨isC_K i hi, hk⟩
    refine T_RC_kindOfQuadratics_0 _ _ _ _ (bb (fun x1 => ?_) (fun x1 => ⟨cp.1, ?_⟩))
    · rw [if_neg (by omega)] at hK
      exact fin 1 (by decide) hK
    · obtain ⟨y, rfl⟩ : ∃ y, x = y + 1 := ⟨x - 1, by omega⟩
      have pry := parts_r P25 y (by omega)
      have piy : isL (25 + 2 + y) 7 := ⟨pry.2.1, by rw [pry.2.2]; decide⟩
      rw [w32_id (z := ((y + 1 : Nat) : Int) - 1) (by omega) (by omega), show ((y + 1 : Nat) : Int) - 1 = y from by omega, cp.2.1, cp.2.2.1, pry.1, pr.1, cp.2.2.2.2.2.2.1, cp.2.2.2.2.2.2.2.2.1]
      rw [show y + 1 + 1 - 2 = y from by omega] at hK q2 t
      have ey : m (25 + 8) (y : Int) = (elC m 25 y).2.1 := rfl
      rw [ey]
      refine ⟨cp.2.2.2.2.2.2.2.1, ⟨by omega, by omega⟩, bb (fun z2 => ?_) (fun z2 => ?_)⟩
      · rw [if_pos ⟨by omega, z2⟩] at hK
        obtain ⟨b1, b2, n1, n2⟩ := q2 (by omega) d2 z2
        have eD : ∀ k, (dis2 (elC m 25 k).1).natAbs < 4611686018427387904 → disC 2 (m (25 + 2 + k)) = dis2 (elC m 25 k).1 := fun k hb => by
          have e : dis2 (m (25 + 2 + k)) = dis2 (elC m 25 k).1 := by
            unfold dis2
            rw [ev k 0 (by decide) (by decide), ev k 1 (by decide) (by decide), ev k 2 (by decide) (by decide)]
          unfold disC
          rw [if_pos rfl, e, w64_id (by omega) (by omega)]
        refine ⟨cp.1, cp.2.2.2.2.2.1, ⟨by omega, by omega⟩, c_RC_discOf piy ⟨cp.1, cp.2.2.2.2.2.1, ⟨by omega, by omega⟩, c_RC_discOf pi ?_⟩⟩
        rw [eD y b1, eD (y + 1) b2]
        refine c_RC_isSame b1 b2 n1 n2 (fun s => b1t ?_) (fun s => b0t ?_)
        · rw [if_pos s] at hK
          exact fin 2 (by decide) hK
        · rw [if_neg s] at hK
          exact fin 3 (by decide) hK
      · rw [if_neg (fun w => z2 w.2)] at hK
        exact fin 1 (by decide) hK
  · have d3 : (elC m 25 x).2.1 = 3 := by omega
    rw [if_neg (by omega), if_neg (by omega), if_pos d3] at hK
    have b3 := q3 d3
    have eD : disC 3 (m (25 + 2 + x)) = dis3 (elC m 25 x).1 := by
      have e : dis3 (m (25 + 2 + x)) = dis3 (elC m 25 x).1 := by
        unfold dis3
        rw [ev x 0 (by decide) (by decide), ev x 1 (by decide) (by decide), ev x 2 (by decide) (by decide), ev x 3 (by decide) (by decide)]
      unfold disC
      rw [if_neg (by decide), if_pos rfl, e, w64_id (by omega) (by omega)]
    refine c_RC_discOf pi ?_
    rw [eD]
    refine c_RC_isSquare (by omega) (fun s => b1t ?_) (fun s => b0t ?_)
    · rw [if_pos s] at hK
      exact hK
    · rw [if_neg s] at hK
      exact hK
theorem up_up {m : rz_M} {a : Nat} {i v w : Int} : rz_up (rz_up m a i v) a i w = rz_up m a i w := by
  funext x y
  unfold rz_up
  by_cases e : x = a ∧ y = i
  · rw [if_pos e, if_pos e]
  · rw [if_neg e, if_neg e, if_neg e]
theorem l_M_kd20 {m : rz_M} {c : Nat} (hc : c ≤ 4) (ec : m 221 9 = c) (ok : ∀ k, k < c → 1 ≤ (elM m k).2.1 ∧ (elM m k).2.1 ≤ 6) {K : Int → rz_M → Prop} (h : rz_E y_M_kindOf 20 [rR 221, rX 0, rI (tw (elM m) c), rI (fi (elM m) c), rI ((c : Int) - 1), rI c] [] (rz_up m 221 34 (ro (elM m) c)) K) : ∀ (r k : Nat) (v4 T f R : Int), c - k = r → k ≤ c → (0 < k → v4 = (k : Int) - 1) → (k = 0 → r ≠ 0) → (0 ≤ T ∧ T ≤ k) → (0 ≤ R ∧ R ≤ 6 * (k : Int)) → (T, f, R) = (tw (elM m) k, fi (elM m) k, ro (elM m) k) → rz_E y_M_kindOf 20 [rR 221, rX 0, rI T, rI f, rI v4, rI k] [] (rz_up m 221 34 R) K
  | 0, k, v4, T, f, R, hr, hk, hv, h0, ht, hro, hE => by
    have e : k = c := by omega
    subst e
    have kz : k ≠ 0 := fun z => absurd rfl (h0 z)
    rw [hv (by omega), (Prod.mk.inj hE).1, (Prod.mk.inj (Prod.mk.inj hE).2).1, (Prod.mk.inj (Prod.mk.inj hE).2).2]
    exact h
  | r + 1, k, v4, T, f, R, hr, hk, hv, h0, ht, hro, hE => by
    have o := ok k (by omega)
    have wr : w32 (R + (elM m k).2.1) = R + (elM m k).2.1 := w32_id (by omega) (by omega)
    have wk : w32 ((k : Int) + 1) = ((k + 1 : Nat) : Int) := by
      clear wr
      rw [w32_id (by omega) (by omega)]
      omega
    have e9 : rz_up m 221 34 R 221 9 = c := by rw [up_nj (by decide)]; exact ec
    have e26 : rz_up m 221 34 R 226 k = (elM m k).2.1 := by rw [up_ne (by decide)]; rfl
    refine T_M_kindOf_20 _ _ _ _ _ _ ?_
    rw [e9, e26, up_eq, up_up, wk, wr]
    clear e9 e26 wk wr
    refine bf (by omega) ⟨⟨by omega, by omega⟩, ⟨by omega, by omega⟩, bb (fun q => ?_) (fun q => ?_)⟩
    · have hE' : (T, f, R + (elM m k).2.1) = (tw (elM m) (k + 1), fi (elM m) (k + 1), ro (elM m) (k + 1)) := by
        have e1 : tw (elM m) (k + 1) = tw (elM m) k := if_neg q
        have e2 : fi (elM m) (k + 1) = fi (elM m) k := if_neg q
        have e3 : ro (elM m) (k + 1) = ro (elM m) k + (elM m k).2.1 := rfl
        rw [e1, e2, e3, (Prod.mk.inj hE).1, (Prod.mk.inj (Prod.mk.inj hE).2).1, (Prod.mk.inj (Prod.mk.inj hE).2).2]
      exact l_M_kd20 hc ec ok h r (k + 1) k T f _ (by omega) (by omega) (fun _ => by omega) (fun z => absurd z (by omega)) (by omega) (by omega) hE'
    · have q' := Classical.not_not.mp q
      have hE' : (T + 1, (if 0 ≤ f then f else (k : Int)), R + (elM m k).2.1) = (tw (elM m) (k + 1), fi (elM m) (k + 1), ro (elM m) (k + 1)) := by
        have e1 : tw (elM m) (k + 1) = tw (elM m) k + 1 := if_pos q'
        have e2 : fi (elM m) (k + 1) = if 0 ≤ fi (elM m) k then fi (elM m) k else k := if_pos q'
        have e3 : ro (elM m) (k + 1) = ro (elM m) k + (elM m k).2.1 := rfl
        rw [e1, e2, e3, (Prod.mk.inj hE).1, (Prod.mk.inj (Prod.mk.inj hE).2).1, (Prod.mk.inj (Prod.mk.inj hE).2).2]
      rw [w32_id (z := T + 1) (by omega) (by omega)]
      have := l_M_kd20 hc ec ok h r (k + 1) k (T + 1) _ _ (by omega) (by omega) (fun _ => by omega) (fun z => absurd z (by omega)) (by omega) (by omega) hE'
      refine bb (fun z => ?_) (fun z => ?_)
      · rw [if_pos z] at this
        exact this
      · rw [if_neg z] at this
        exact this
theorem c_M_kd [Lean.Grind.CommRing R] {co : R → Nat → Int} {mk : Nat → (Nat → Int) → R} (H : PolyR co mk) {m : rz_M} {c : Nat} (ec : m 221 9 = c) (h : okL co mk c (elM m)) {K : Int → rz_M → Prop} (hK : K ((phK (kd c (elM m)) : Nat) : Int) (rz_up m 221 34 (ro (elM m) c))) : rz_E y_M_kindOf 20 [rR 221, rX 0, rI 0, rI (-1), rI (-1), rI 0] [] (rz_up m 221 34 0) K := by
  have t := tw_of h
  have hh := h
  obtain ⟨⟨c1, c4⟩, ok, so, r4, q4, q3, q2⟩ := h
  refine l_M_kd20 c4 ec (fun k hk => ⟨(ok k hk).2.1, (ok k hk).2.2.1⟩) ?_ c 0 (-1) 0 (-1) 0 rfl (Nat.zero_le _) (fun z => absurd z (by decide)) (fun _ => by omega) ⟨Int.le_refl _, Int.le_refl _⟩ ⟨Int.le_refl _, Int.le_refl _⟩ rfl
  obtain ⟨x, rfl⟩ : ∃ x, c = x + 1 := ⟨c - 1, by omega⟩
  rw [show x + 1 - 1 = x from by omega] at t q4 q3 q2
  generalize hM : rz_up m 221 34 (ro (elM m) (x + 1)) = M at hK ⊢
  have e9 : M 221 9 = ((x + 1 : Nat) : Int) := by rw [← hM, up_nj (by decide)]; exact ec
  have e26 : M 226 (((x + 1 : Nat) : Int) - 1) = (elM m x).2.1 := by
    rw [← hM, up_ne (by decide), show ((x + 1 : Nat) : Int) - 1 = x from by omega]
    rfl
  have e25 : ∀ k : Nat, ∀ j : Int, 0 ≤ j → j < 7 → M 225 (7 * (k : Int) + j) = (elM m k).1 j := fun k j a b => by
    rw [elM_at a b, ← hM, up_ne (by decide)]
  unfold kd at hK
  rw [show x + 1 - 1 = x from by omega] at hK
  refine T_M_kindOf_20 _ _ _ _ _ _ ?_
  rw [e9, e26]
  refine bt (Int.le_refl _) (bb (fun t2 => bb (fun t1 => ?_) (fun t1 => ?_)) (fun t2 => ?_))
  · have n2 : (elM m x).2.1 ≠ 2 := fun w => by
      have := t.2.2 w
      rcases Classical.em (2 ≤ x + 1 ∧ (elM m (x + 1 - 2)).2.1 = 2) with z | z
      · have := (this.1 z).1
        omega
      · have := this.2 z
        omega
    have okx := ok x (by omega)
    have i0 : w32 (7 * (((x + 1 : Nat) : Int) - 1)) = 7 * (x : Int) + 0 := by rw [w32_id (by omega) (by omega)]; omega
    have i1 : ∀ j : Int, 0 ≤ j → j < 7 → w32 (7 * (x : Int) + 0 + j) = 7 * (x : Int) + j := fun j a b => by rw [w32_id (by omega) (by omega)]; omega
    rw [i0, i1 1 (by decide) (by decide), i1 2 (by decide) (by decide), i1 3 (by decide) (by decide), e25 x 0 (by decide) (by decide), e25 x 1 (by decide) (by decide), e25 x 2 (by decide) (by decide), e25 x 3 (by decide) (by decide)]
    refine ⟨⟨by omega, by omega⟩, bb (fun d3 => ⟨⟨by omega, by omega⟩, bb (fun d4 => ?_) (fun d4 => ⟨⟨by omega, by omega⟩, ⟨by omega, by omega⟩, ⟨by omega, by omega⟩, ⟨by omega, by omega⟩, ?_⟩)⟩) (fun d3 => ⟨⟨by omega, by omega⟩, ⟨by omega, by omega⟩, ⟨by omega, by omega⟩, ⟨by omega, by omega⟩, ?_⟩)⟩
    · rw [if_pos (by omega)] at hK
      exact hK
    · rw [if_neg (by omega), if_neg n2, if_neg d3] at hK
      have d4' := Classical.not_not.mp d4
      have ir := okx.2.2.2.2.1
      rw [d4'] at ir
      exact c_M_quarticOf H (q4 d4').1 ir (q4 d4').2 hK
    · have d3' := Classical.not_not.mp d3
      rw [if_neg (by omega), if_neg n2, if_pos d3'] at hK
      have b3 := q3 d3'
      refine c_M_three ?_
      have e : (elM m x).1 2 * (elM m x).1 2 * (elM m x).1 1 * (elM m x).1 1 - 4 * (elM m x).1 3 * (elM m x).1 1 * (elM m x).1 1 * (elM m x).1 1 - 4 * (elM m x).1 2 * (elM m x).1 2 * (elM m x).1 2 * (elM m x).1 0 - 27 * (elM m x).1 3 * (elM m x).1 3 * (elM m x).1 0 * (elM m x).1 0 + 18 * (elM m x).1 3 * (elM m x).1 2 * (elM m x).1 1 * (elM m x).1 0 = dis3 (elM m x).1 := rfl
      rw [e, w64_id (by omega) (by omega)]
      refine c_M_isSquare (by omega) (fun s => b1t (T_M_kindOf_177 _ _ ?_)) (fun s => b0t (T_M_kindOf_181 _ _ ?_))
      · rw [if_pos s] at hK
        exact hK
      · rw [if_neg s] at hK
        exact hK
  · have t1' := Classical.not_not.mp t1
    have d2 : (elM m x).2.1 = 2 := Classical.byContradiction fun w => by
      have := t.2.1 w
      omega
    have n : ¬ (2 ≤ x + 1 ∧ (elM m (x + 1 - 2)).2.1 = 2) := fun w => by
      have := ((t.2.2 d2).1 w).1
      omega
    rw [if_neg (by omega), if_pos d2, if_neg n] at hK
    exact hK
  · have t2' := Classical.not_not.mp t2
    have d2 : (elM m x).2.1 = 2 := Classical.byContradiction fun w => by
      have := t.2.1 w
      omega
    have z : 2 ≤ x + 1 ∧ (elM m (x + 1 - 2)).2.1 = 2 := Classical.byContradiction fun w => by
      have := (t.2.2 d2).2 w
      omega
    obtain ⟨_, f0, x2⟩ := (t.2.2 d2).1 z
    have x1 : x = 1 := by omega
    subst x1
    rw [if_neg (by omega), if_pos d2, if_pos z] at hK
    obtain ⟨b1, b2, n1, n2⟩ := q2 (by decide) d2 z.2
    have eT : ∀ (k : Nat) (v : Int) (L : Int → rz_M → Prop), v = k → k < 6 → (dis2 (elM m k).1).natAbs < 4611686018427387904 → L (dis2 (elM m k).1) M → rz_C y_M_twoOf [rR 221, rI v] M L := fun k v L hv hk hb hL => by
      subst hv
      refine T_M_twoOf_0 _ _ _ ?_
      have i0 : w32 (7 * (k : Int)) = 7 * (k : Int) + 0 := by rw [w32_id (by omega) (by omega)]; omega
      have i1 : ∀ j : Int, 0 ≤ j → j < 7 → w32 (7 * (k : Int) + 0 + j) = 7 * (k : Int) + j := fun j a b => by rw [w32_id (by omega) (by omega)]; omega
      rw [i0, i1 1 (by decide) (by decide), i1 2 (by decide) (by decide), e25 k 0 (by decide) (by decide), e25 k 1 (by decide) (by decide), e25 k 2 (by decide) (by decide)]
      simp only [w64_addl, w64_addr, w64_mull, w64_mulr, w64_subl, w64_subr, w64_w64]
      have e : (elM m k).1 1 * (elM m k).1 1 - 4 * (elM m k).1 0 * (elM m k).1 2 = dis2 (elM m k).1 := by unfold dis2; grind
      rw [e, w64_id (by omega) (by omega)]
      exact ⟨⟨by omega, by omega⟩, ⟨by omega, by omega⟩, ⟨by omega, by omega⟩, ⟨by omega, by omega⟩, hL⟩
    rw [f0]
    refine eT 0 _ _ rfl (by decide) b1 (eT 1 _ _ (by decide) (by decide) b2 (c_M_areSq b1 b2 (fun s => b1t ?_) (fun _ _ s => b0t ?_)))
    · have sq : sameQ (dis2 (elM m 0).1) (dis2 (elM m 1).1) := by
        rcases s with w | w | w
        · exact absurd w n1
        · exact absurd w n2
        · exact w
      rw [if_pos sq] at hK
      exact hK
    · rw [if_neg s] at hK
      exact hK
end
