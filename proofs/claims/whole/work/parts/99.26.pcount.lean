/-! both sides alike: count, reals -/
theorem vI_rng {σ : Nat → Int} : ∀ (m i : Nat) (b : Int), 0 ≤ vI σ m i b ∧ vI σ m i b ≤ m
  | 0, _, _ => ⟨Int.le_refl _, Int.le_refl _⟩
  | m + 1, i, b => by
    have h1 := vI_rng (σ := σ) m (i + 1) b
    have h2 := vI_rng (σ := σ) m (i + 1) (σ i)
    show 0 ≤ (if σ i = 0 then vI σ m (i + 1) b else (if σ i = -b then 1 else 0) + vI σ m (i + 1) (σ i)) ∧ (if σ i = 0 then vI σ m (i + 1) b else (if σ i = -b then 1 else 0) + vI σ m (i + 1) (σ i)) ≤ ((m + 1 : Nat) : Int)
    repeat' split
    all_goals omega
section
variable {R : Type}
def rowOf (co : R → Nat → Int) (P : R) : Int → Int := fun y => if 0 ≤ y ∧ y < 7 then co P y.toNat else 0
theorem rowOf_R [Lean.Grind.CommRing R] {co : R → Nat → Int} {mk : Nat → (Nat → Int) → R} (H : PolyR co mk) {P : R} (h : d6 co P) : pR mk 7 (rowOf co P) = P := H.1 _ _ (fun k => by
  rw [co_pR H]
  by_cases q : k < 7
  · rw [if_pos q]
    unfold rowOf
    rw [if_pos ⟨by omega, by omega⟩, Int.toNat_natCast]
  · rw [if_neg q, h k (by omega)])
/-- what counting asks of a list of FACTORS -/
def stL [Lean.Grind.CommRing R] (co : R → Nat → Int) (mk : Nat → (Nat → Int) → R) (F : Nat → E3) (c : Nat) : Prop :=
  (1 ≤ c ∧ c ≤ 6) ∧
  (∀ k, k < c → (1 ≤ (F k).2.1 ∧ (F k).2.1 ≤ 6) ∧ (F k).1 (F k).2.1 ≠ 0 ∧ (∀ j : Int, (F k).2.1 < j → j < 7 → (F k).1 j = 0) ∧ hB (F k).1 (gbd (F k).2.1) ∧ ∀ f' : R, der co f' (pR mk 7 (F k).1) → cop mk (pR mk 7 (F k).1) f') ∧
  (∀ k, k ≤ c → d6 co (PL mk F k)) ∧ (∀ k, k < c → cop mk (PL mk F k) (pR mk 7 (F k).1)) ∧
  (1 ≤ ro F c ∧ ro F c ≤ 6) ∧ tz co (PL mk F c) (ro F c).toNat ∧ hB (rowOf co (PL mk F c)) (gbd (ro F c)) ∧ ∀ f' : R, der co f' (PL mk F c) → cop mk (PL mk F c) f'
theorem st_list [Lean.Grind.CommRing R] {co : R → Nat → Int} {mk : Nat → (Nat → Int) → R} (H : PolyR co mk) {f : Int → Int} {n : Int} (hc : core co mk f n) (n1 : 1 ≤ n) (fb : hB f 100) {c : Nat} {F : Nat → E3} (hL : FacL co mk (pR mk 7 f) ((List.range c).map F)) : stL co mk F c := by
  obtain ⟨ok, hd, ds⟩ := fl_in H hL (core_tz H hc)
  have n6 := hc.1.2
  have rd := ro_ds c ok
  have pt := fun i hi => PL_tz H ok i hi
  have mono : ∀ i, i ≤ c → ro F i ≤ ro F c := fun i hi => by
    have : ∀ r : Nat, i + r ≤ c → ro F i ≤ ro F (i + r) := fun r => by
      induction r with
      | zero => intro _; exact Int.le_refl _
      | succ r ih =>
        intro h
        have := ih (by omega)
        have o := (ok (i + r) (by omega)).2.1
        have e : ro F (i + (r + 1)) = ro F (i + r) + (F (i + r)).2.1 := rfl
        omega
    have := this (c - i) (by omega)
    rwa [show i + (c - i) = c from by omega] at this
  have c1 : 1 ≤ c := by
    refine Classical.byContradiction fun q => ?_
    have : c = 0 := by omega
    subst this
    have : dsI F 0 = 0 := rfl
    omega
  have d6P : ∀ k, k ≤ c → d6 co (PL mk F k) := fun k hk j hj => (pt k hk).1.2 j (by have := mono k hk; omega)
  have tP := (pt c (Nat.le_refl _)).1
  have zP : zd (PL mk F c) (pR mk 7 f) := by rw [hL.2.2]; exact PL_zd H ok c (Nat.le_refl _)
  have rP := rowOf_R H (d6P c (Nat.le_refl _))
  have rv : ∀ j : Int, 0 ≤ j → j < 7 → rowOf co (PL mk F c) j = co (PL mk F c) j.toNat := fun j a b => if_pos ⟨a, b⟩
  refine ⟨⟨c1, by omega⟩, fun k hk => ?_, d6P, fun k hk => cop_sy (PL_cop H ok hd k k (Nat.le_refl _) hk), ⟨by omega, by omega⟩, tP, ?_, fun f' hf' => ?_⟩
  · obtain ⟨x1, x2, x3, x4, x5, x6⟩ := ok k hk
    have tz0 : ∀ j : Int, (F k).2.1 < j → j < 7 → (F k).1 j = 0 := fun j a b => by
      have := x5.2.1.2 j.toNat (by omega)
      rwa [co_pR H, if_pos (by omega), Int.toNat_of_nonneg (by omega)] at this
    exact ⟨⟨x2, x3⟩, by omega, tz0, div_bd H hc fb ⟨by omega, x3⟩ (by omega) tz0 (by rw [hL.2.2]; exact el_zd ok c (Nat.le_refl _) k hk), fun f' hf' => irz_der H x5 hf'⟩
  · refine div_bd H hc fb ⟨by omega, by omega⟩ ?_ (fun k a b => ?_) (by rw [rP]; exact zP)
    · rw [rv _ (by omega) (by omega)]
      exact tP.1
    · rw [rv k (by omega) b]
      exact tP.2 k.toNat (by omega)
  · obtain ⟨P', h1, h2⟩ := PL_der H ok hd c (Nat.le_refl _)
    rw [der_uq H hf' h1]
    exact h2 c1
theorem st_add [Lean.Grind.CommRing R] {co : R → Nat → Int} {mk : Nat → (Nat → Int) → R} (H : PolyR co mk) {F : Nat → E3} {c : Nat} (h : stL co mk F c) : (∀ k, k < c → d6 co (pR mk 7 (F k).1)) ∧ (∀ k, k ≤ c → d6 co (PI (fun k => pR mk 7 (F k).1) k)) ∧ ∀ k, k < c → cop mk (PI (fun k => pR mk 7 (F k).1) k) (pR mk 7 (F k).1) :=
  ⟨fun k _ j hj => by rw [co_pR H, if_neg (by omega)], h.2.2.1, h.2.2.2.1⟩
theorem l_M_mc18 [Lean.Grind.CommRing R] {co : R → Nat → Int} {mk : Nat → (Nat → Int) → R} (H : PolyR co mk) {c : Nat} (hc : c ≤ 6) {m0 : rz_M} (ec : m0 221 9 = c) (ok : ∀ k, k < c → elOK co mk (elM m0 k)) {K : Int → rz_M → Prop}
    (h : ∀ m' : rz_M, (∀ x, x ≠ 223 → m' x = m0 x) → (∀ y : Nat, y < 7 → m' 223 y = w64 (co (PL mk (elM m0) c) y)) → rz_E y_M_makeChain 41 [rR 221, rX 0, rI 6, rX 0] [] m' K) :
    ∀ (r k : Nat) (m : rz_M), c - k = r → k ≤ c → (∀ x, x ≠ 223 → m x = m0 x) → (∀ y : Nat, y < 7 → m 223 y = w64 (co (PL mk (elM m0) k) y)) → rz_E y_M_makeChain 18 [rR 221, rX 0, rI k, rX 0] [] m K := by
  intro r
  induction r with
  | zero =>
    intro k m hr hk hf hv
    have e : k = c := by omega
    subst e
    refine T_M_makeChain_18 _ _ _ (bt ?_ (h m hf hv))
    rw [hf 221 (by decide), ec]
    exact Int.le_refl _
  | succ r ih =>
    intro k m hr hk hf hv
    have okk := ok k (by omega)
    refine T_M_makeChain_18 _ _ _ (bf ?_ ?_)
    · rw [hf 221 (by decide), ec]
      omega
    · refine mt_el H (by omega) (hf 225 (by decide)) (hf 226 (by decide)) okk (by decide) hv (fun m' f' o' v' => ?_)
      rw [w32_id (z := (k : Int) + 1) (by omega) (by omega)]
      refine ih (k + 1) m' (by omega) (by omega) (fun x hx => by rw [f' x hx]; exact hf x hx) (fun y hy => ?_)
      rw [v' y hy, show ((1 : Int)).toNat = 0 + 1 from rfl, Lean.Grind.Semiring.pow_succ, Lean.Grind.Semiring.pow_zero]
      show w64 (co (PL mk (elM m0) k * (1 * pR mk 7 (elM m0 k).1)) y) = w64 (co (PL mk (elM m0) k * pR mk 7 (elM m0 k).1) y)
      rw [show PL mk (elM m0) k * (1 * pR mk 7 (elM m0 k).1) = PL mk (elM m0) k * pR mk 7 (elM m0 k).1 from by grind]
theorem PL_congr [Lean.Grind.CommRing R] {mk : Nat → (Nat → Int) → R} {F G : Nat → E3} : ∀ c : Nat, (∀ k, k < c → F k = G k) → PL mk F c = PL mk G c
  | 0, _ => rfl
  | c + 1, h => by
    show PL mk F c * pR mk 7 (F c).1 = PL mk G c * pR mk 7 (G c).1
    rw [PL_congr c (fun k hk => h k (by omega)), h c (by omega)]
theorem c_M_makeChain [Lean.Grind.CommRing R] {co : R → Nat → Int} {mk : Nat → (Nat → Int) → R} (H : PolyR co mk) {r : Int} (hr : 0 ≤ r ∧ r < 10) {M : rz_M} (hsm : sm (rwM M r)) (hdg : 1 ≤ dg (rwM M r)) {g : Int} {f1 : Int → Int} (g0 : g ≠ 0) (hc : core co mk f1 (dg (rwM M r))) (e : ∀ j : Int, 0 ≤ j → j < 7 → rwM M r j = g * f1 j) {c : Nat} {F : Nat → E3} (hL : FacL co mk (pR mk 7 f1) ((List.range c).map F)) (hs : ((List.range c).map F).Pairwise bef) {K : Int → rz_M → Prop} (h : ∀ (M' : rz_M) (v : Nat → Int → Int) (dd : Nat → Nat) (L : Nat), kpM M M' → M' 221 1 = M 221 1 → chI co mk v dd L → dd (L - 1) = 0 → pR mk 7 (v 0) = PL mk F c → SM M' v dd L → K 0 M') : rz_C y_M_makeChain [rR 221, rI r] M K := by
  refine T_M_makeChain_0 _ _ _ (c_M_findFactors H hr hsm (by omega) (fun g2 f2 m4 g20 e2 c2 fr4 fr41 c10 c9 L2 s2 => c_M_clear ⟨⟨by decide, by decide⟩, ?_⟩))
  obtain ⟨n, en⟩ : ∃ n : Nat, m4 221 9 = n := ⟨(m4 221 9).toNat, by omega⟩
  have l2 : mtl m4 = (List.range n).map (elM m4) := by unfold mtl; rw [en, Int.toNat_natCast]
  rw [l2] at L2 s2
  have uq := core_uq H hc c2 g0 g20 (fun j a b => by rw [← e j a b, ← (e2 j a b).1])
  rw [pR_congr H (fun j a b => uq.2 j a (by omega))] at hL
  have q1 := fac_eq H hL L2 hs s2
  have cn : c = n := by
    have := congrArg List.length q1
    simpa using this
  subst cn
  have el := map_at q1
  have st := st_list H c2 hdg (fun j a b => (e2 j a b).2) L2
  obtain ⟨ok, _, _⟩ := fl_in H L2 (core_tz H c2)
  obtain ⟨s1, s2', s3, s4, s5, s6, s7, s8⟩ := st
  have f0 : ∀ x, x ≠ 223 → rz_up (wr m4 223 13 (fun _ => 0)) 223 0 1 x = m4 x := fun x hx => by rw [up_ne hx, wr_ne hx]
  have eM : ∀ k, elM (rz_up (wr m4 223 13 (fun _ => 0)) 223 0 1) k = elM m4 k := fun k => by
    unfold elM
    rw [f0 225 (by decide), f0 226 (by decide), f0 227 (by decide)]
  have eMf : elM (rz_up (wr m4 223 13 (fun _ => 0)) 223 0 1) = elM m4 := funext eM
  refine l_M_mc18 H (m0 := rz_up (wr m4 223 13 (fun _ => 0)) 223 0 1) s1.2 (by rw [f0 221 (by decide)]; exact en) (fun k hk => by rw [eM]; exact ok k hk) (fun m5 f5 v5 => ?_) c 0 _ rfl (Nat.zero_le _) (fun _ _ => rfl) (fun y hy => ?_)
  · rw [eMf] at v5
    have gl : ∀ e : Nat, e ≤ 6 → (0 : Int) ≤ gbd e ∧ gbd e ≤ 1000000000000 := by decide +kernel
    have gb := gl (ro (elM m4) c).toNat (by omega)
    rw [Int.toNat_of_nonneg (by omega)] at gb
    have val : ∀ j : Int, 0 ≤ j → j < 7 → m5 223 j = rowOf co (PL mk (elM m4) c) j := fun j a b => by
      have h1 := v5 j.toNat (by omega)
      have h2 := s7 j a b
      have h3 : rowOf co (PL mk (elM m4) c) j = co (PL mk (elM m4) c) j.toNat := if_pos ⟨a, b⟩
      rw [Int.toNat_of_nonneg a] at h1
      rw [h3] at h2 ⊢
      unfold bd at h2
      rw [h1, w64_id (by omega) (by omega)]
    have rP := rowOf_R H (s3 c (Nat.le_refl _))
    have nz : rowOf co (PL mk (elM m4) c) ((ro (elM m4) c).toNat : Nat) ≠ 0 := by
      have h3 : rowOf co (PL mk (elM m4) c) ((ro (elM m4) c).toNat : Nat) = co (PL mk (elM m4) c) (((ro (elM m4) c).toNat : Nat) : Int).toNat := if_pos ⟨by omega, by omega⟩
      rw [h3, Int.toNat_natCast]
      exact s6.1
    have zz : ∀ j : Int, ((ro (elM m4) c).toNat : Int) < j → j < 7 → rowOf co (PL mk (elM m4) c) j = 0 := fun j a b => by
      have h3 : rowOf co (PL mk (elM m4) c) j = co (PL mk (elM m4) c) j.toNat := if_pos ⟨by omega, b⟩
      rw [h3]
      exact s6.2 j.toNat (by omega)
    have go := l_M_mc41 (m := m5) (K := K) (d := (ro (elM m4) c).toNat) (by omega) (by rw [val _ (by omega) (by omega)]; exact nz) (fun j a b => by rw [val j (by omega) b]; exact zz j a b) ?_ (6 - (ro (elM m4) c).toNat) (by omega)
    · rw [show (((ro (elM m4) c).toNat + (6 - (ro (elM m4) c).toNat) : Nat) : Int) = 6 from by omega] at go
      exact go
    · refine l_M_mc60 H (m0 := m5) (c := rowOf co (PL mk (elM m4) c)) (d := (ro (elM m4) c).toNat) ⟨by omega, by omega⟩ val nz zz (by rw [Int.toNat_of_nonneg (by omega)]; exact s7) (fun f' hf' => by rw [rP] at hf' ⊢; exact s8 f' hf') (fun m6 v dd L fM hC h0 hv0 hS => h m6 v dd L ⟨fun x hx => ?_, ?_, ?_⟩ ?_ hC h0 ?_ hS) 7 0 m5 rfl (Nat.zero_le _) (frQ_rf _ _) (fun j hj => by omega)
      · rw [fM.1 x (by omega) (by omega) (by omega) (by omega), f5 x (by omega), f0 x (by omega)]
        exact fr4 x (by omega)
      · rw [fM.2 17 (by decide), f5 221 (by decide), f0 221 (by decide)]
        exact fr41 17 (by decide) (by decide) (by decide)
      · rw [fM.2 18 (by decide), f5 221 (by decide), f0 221 (by decide)]
        exact fr41 18 (by decide) (by decide) (by decide)
      · rw [fM.2 1 (by decide), f5 221 (by decide), f0 221 (by decide)]
        exact fr41 1 (by decide) (by decide) (by decide)
      · rw [hv0, rP]
        exact (PL_congr c el).symm
  · show _ = w64 (co (1 : R) y)
    rw [H.2.2.2.1]
    by_cases q : y = 0
    · rw [if_pos q, q, show ((0 : Nat) : Int) = 0 from rfl, up_eq]
      decide +kernel
    · rw [if_neg q, up_nj (by omega), wr_in (by omega) (by omega)]
      decide +kernel
theorem sV_chI [Lean.Grind.CommRing R] {co : R → Nat → Int} {mk : Nat → (Nat → Int) → R} (H : PolyR co mk) {v : Nat → Int → Int} {dd : Nat → Nat} {L : Nat} (h : chI co mk v dd L) (x : Int) : sV co (fun i => pR mk 7 (v i)) (L - 1) x = vI (fun j => (ev7 (v j) x).sign) L 0 0 := by
  have h2 := h.1
  unfold sV
  rw [show L - 1 + 1 = L from by omega]
  exact vI_congr _ _ _ (fun j _ _ => by show (hh 6 (co (pR mk 7 (v j))) x 1).sign = _; rw [co_ev H])
theorem sF_chI [Lean.Grind.CommRing R] {co : R → Nat → Int} {mk : Nat → (Nat → Int) → R} (H : PolyR co mk) {v : Nat → Int → Int} {dd : Nat → Nat} {L : Nat} (h : chI co mk v dd L) (below : Bool) : sF co (fun i => pR mk 7 (v i)) dd (L - 1) below = vI (sfv v dd below) L 0 0 := by
  have h2 := h.1
  unfold sF
  rw [show L - 1 + 1 = L from by omega]
  refine vI_congr _ _ _ (fun j _ hj => ?_)
  have := (h.2.1 j (by omega)).1
  unfold sfv
  rw [co_pR H, if_pos (show dd j < 7 by omega)]
theorem ch_props [Lean.Grind.CommRing R] {co : R → Nat → Int} {mk : Nat → (Nat → Int) → R} (H : PolyR co mk) {v : Nat → Int → Int} {dd : Nat → Nat} {L : Nat} (h : chI co mk v dd L) : L ≤ 7 ∧ (∀ i, i < L → dd i ≤ 6 ∧ (∀ j : Int, (dd i : Int) < j → j < 7 → v i j = 0) ∧ ∀ j : Int, 0 ≤ j → j < 7 → bd (v i j) LIM) ∧ (∀ i, i < L → dd i ≤ 6 ∧ v i (dd i) ≠ 0) ∧ ∀ i, i ≤ L - 1 → dd i ≤ 6 ∧ tz co (pR mk 7 (v i)) (dd i) := by
  have h2 := h.1
  have hv := h.2.1
  refine ⟨by have := (hv (L - 1) (by omega)).1; omega, fun i hi => ?_, fun i hi => ?_, fun i hi => ?_⟩
  · have := hv i hi
    exact ⟨by omega, this.2.2.1, this.2.2.2⟩
  · have := hv i hi
    exact ⟨by omega, this.2.1⟩
  · have := hv i (by omega)
    refine ⟨by omega, ?_⟩
    have t := row_tz H (g := v i) (d := dd i) ⟨by omega, by omega⟩ this.2.1 this.2.2.1
    rwa [Int.toNat_natCast] at t
theorem SB_kp {m0 m : rz_M} {v : Nat → Int → Int} {dd : Nat → Nat} {L : Nat} (hs : SB m0 v dd L) (f : fr67 m0 m) : SB m v dd L := ⟨by rw [f 64 (by omega)]; exact hs.1, fun i hi => ⟨by rw [f 66 (by omega)]; exact (hs.2 i hi).1, fun j hj => BV_fr ((hs.2 i hi).2 j hj) (f _ (by omega)) (f _ (by omega))⟩⟩
theorem l_RC_bk [Lean.Grind.CommRing R] {co : R → Nat → Int} {mk : Nat → (Nat → Int) → R} (H : PolyR co mk) {m0 m : rz_M} {c : Nat} (st : stL co mk (elC m0 25) c) (hf : fr64 m0 m) {k : Nat} (hk : k < c) {K : Int → rz_M → Prop} (hK : ∀ (m' : rz_M) (v : Nat → Int → Int) (dd : Nat → Nat) (L : Nat), fr64 m0 m' → chI co mk v dd L → dd (L - 1) = 0 → pR mk 7 (v 0) = pR mk 7 (elC m0 25 k).1 → SB m' v dd L → K 0 m') : rz_C y_SC_build [rR 64, rR (rz_R 26 k), rI (m 33 k)] m K := by
  have P25 : isP 25 := Or.inr (Or.inl rfl)
  have c6 := st.1.2
  obtain ⟨x1, x2, x3, x4, x5⟩ := st.2.1 k hk
  have pr := parts_r P25 k (by omega)
  have er : rz_R 26 (k : Int) = 25 + 2 + k := pr.1
  have ed : m 33 (k : Int) = ((elC m0 25 k).2.1.toNat : Nat) := by
    rw [hf 33 (by omega), Int.toNat_of_nonneg (by omega)]
    rfl
  have erow : m (25 + 2 + k) = m0 (25 + 2 + k) := hf _ (by omega)
  have ev : ∀ j : Int, 0 ≤ j → j < 7 → (elC m0 25 k).1 j = m (25 + 2 + k) j := fun j a b => by rw [erow]; exact cutf_in (f := m0 (25 + 2 + k)) a b
  have eR : pR mk 7 (m (25 + 2 + k)) = pR mk 7 (elC m0 25 k).1 := pR_congr H (fun j a b => (ev j a (by omega)).symm)
  rw [er, ed]
  refine c_SC_build H ⟨pr.2.1, by rw [pr.2.2]; decide⟩ (by omega) ⟨by omega, by omega⟩ ?_ (fun j a b => ?_) (fun j a b => ?_) (fun f' hf' => ?_) (fun m' v dd L f' hC h0 hv0 hS => hK m' v dd L (fun x hx => by rw [f' x hx]; exact hf x hx) hC h0 (by rw [hv0, eR]) hS)
  · rw [Int.toNat_of_nonneg (by omega), ← ev _ (by omega) (by omega)]
    exact x2
  · rw [← ev j (by omega) b]
    exact x3 j (by omega) b
  · rw [← ev j a b, Int.toNat_of_nonneg (by omega)]
    exact x4 j a b
  · rw [eR] at hf' ⊢
    exact x5 f' hf'
theorem sum_ext {R' : Type} {s : Nat → R'} {x : R'} {k : Nat} {φ : Nat → R' → Int} : sumN (fun i => φ i (if i = k then x else s i)) (k + 1) = sumN (fun i => φ i (s i)) k + φ k x := by
  show sumN _ k + φ k (if k = k then x else s k) = _
  rw [if_pos rfl, sumN_congr k (fun i hi => by rw [if_neg (by omega)])]
theorem l_RC_cnt72 [Lean.Grind.CommRing R] {co : R → Nat → Int} {mk : Nat → (Nat → Int) → R} (H : PolyR co mk) {m0 : rz_M} {c : Nat} (st : stL co mk (elC m0 25) c) (ec : m0 25 4 = c) {a b : Int} (ha : bd a 1000) (hb : bd b 1000) {K : Int → rz_M → Prop} (hK : ∀ (m' : rz_M) (s : Nat → Nat → R) (kk : Nat → Nat), fr64 m0 m' → (∀ i, i < c → isCh co mk (s i) (kk i) ∧ s i 0 = pR mk 7 (elC m0 25 i).1) → K (sumN (fun i => sV co (s i) (kk i) a - sV co (s i) (kk i) b) c) m') : ∀ (r k : Nat) (t : Int) (m : rz_M) (s : Nat → (Nat → R) × Nat), c - k = r → k ≤ c → fr64 m0 m → (-7 * (k : Int) ≤ t ∧ t ≤ 7 * (k : Int)) → (∀ i, i < k → isCh co mk (s i).1 (s i).2 ∧ (s i).1 0 = pR mk 7 (elC m0 25 i).1) → t = sumN (fun i => sV co (s i).1 (s i).2 a - sV co (s i).1 (s i).2 b) k → rz_E y_RC_count 72 [rR 0, rX 0, rI a, rI b, rI t, rI k] [] m K := by
  have c6 := st.1.2
  intro r
  induction r with
  | zero =>
    intro k t m s hr hk hf ht hs he
    have e : k = c := by omega
    subst e
    refine T_RC_count_72 _ _ _ _ _ _ (bt ?_ ?_)
    · rw [hf 25 (by omega), ec]
      exact Int.le_refl _
    · rw [he]
      exact hK m (fun i => (s i).1) (fun i => (s i).2) hf hs
  | succ r ih =>
    intro k t m s hr hk hf ht hs he
    refine T_RC_count_72 _ _ _ _ _ _ (bf ?_ ⟨⟨by omega, by omega⟩, ⟨by omega, by omega⟩, l_RC_bk H st hf (by omega) (fun m1 v dd L f1 hC h0 hv0 hS => ?_)⟩)
    · rw [hf 25 (by omega), ec]
      omega
    · have cp := ch_props H hC
      refine c_SC_varAt cp.1 hS cp.2.1 ha (fun m2 f2 => c_SC_varAt cp.1 (SB_kp hS f2) cp.2.1 hb (fun m3 f3 => ?_))
      have ra := vI_rng (σ := fun j => (ev7 (v j) a).sign) L 0 0
      have rb := vI_rng (σ := fun j => (ev7 (v j) b).sign) L 0 0
      rw [w32_id (z := (k : Int) + 1) (by omega) (by omega), w32_id (z := vI (fun j => (ev7 (v j) a).sign) L 0 0 - vI (fun j => (ev7 (v j) b).sign) L 0 0) (by omega) (by omega), w32_id (z := t + (vI (fun j => (ev7 (v j) a).sign) L 0 0 - vI (fun j => (ev7 (v j) b).sign) L 0 0)) (by omega) (by omega)]
      refine ih (k + 1) _ m3 (fun i => if i = k then (fun j => pR mk 7 (v j), L - 1) else s i) (by omega) (by omega) (fun x hx => by rw [f3 x (by omega), f2 x (by omega)]; exact f1 x hx) (by omega) (fun i hi => ?_) ?_
      · by_cases q : i = k
        · subst q
          rw [if_pos rfl]
          exact ⟨ch_end H hC h0, hv0⟩
        · rw [if_neg q]
          exact hs i (by omega)
      · have := sum_ext (s := s) (x := ((fun j => pR mk 7 (v j)), L - 1)) (k := k) (φ := fun _ y => sV co y.1 y.2 a - sV co y.1 y.2 b)
        rw [this, ← he]
        show _ = t + (sV co (fun j => pR mk 7 (v j)) (L - 1) a - sV co (fun j => pR mk 7 (v j)) (L - 1) b)
        rw [sV_chI H hC, sV_chI H hC]
theorem l_RC_rea45 [Lean.Grind.CommRing R] {co : R → Nat → Int} {mk : Nat → (Nat → Int) → R} (H : PolyR co mk) {m0 : rz_M} {c : Nat} (st : stL co mk (elC m0 25) c) (ec : m0 25 4 = c) {K : Int → rz_M → Prop} (hK : ∀ (m' : rz_M) (s : Nat → Nat → R) (kk : Nat → Nat) (ds : Nat → Nat → Nat), fr64 m0 m' → (∀ i, i < c → isCh co mk (s i) (kk i) ∧ s i 0 = pR mk 7 (elC m0 25 i).1) → (∀ i, i < c → ∀ j, j ≤ kk i → ds i j ≤ 6 ∧ tz co (s i j) (ds i j)) → K (sumN (fun i => sF co (s i) (ds i) (kk i) true - sF co (s i) (ds i) (kk i) false) c) m') : ∀ (r k : Nat) (t : Int) (m : rz_M) (s : Nat → (Nat → R) × Nat × (Nat → Nat)), c - k = r → k ≤ c → fr64 m0 m → (-7 * (k : Int) ≤ t ∧ t ≤ 7 * (k : Int)) → (∀ i, i < k → isCh co mk (s i).1 (s i).2.1 ∧ (s i).1 0 = pR mk 7 (elC m0 25 i).1) → (∀ i, i < k → ∀ j, j ≤ (s i).2.1 → (s i).2.2 j ≤ 6 ∧ tz co ((s i).1 j) ((s i).2.2 j)) → t = sumN (fun i => sF co (s i).1 (s i).2.2 (s i).2.1 true - sF co (s i).1 (s i).2.2 (s i).2.1 false) k → rz_E y_RC_reals 45 [rR 0, rX 0, rI t, rI k] [] m K := by
  have c6 := st.1.2
  intro r
  induction r with
  | zero =>
    intro k t m s hr hk hf ht hs hd he
    have e : k = c := by omega
    subst e
    refine T_RC_reals_45 _ _ _ _ (bt ?_ ?_)
    · rw [hf 25 (by omega), ec]
      exact Int.le_refl _
    · rw [he]
      exact hK m (fun i => (s i).1) (fun i => (s i).2.1) (fun i => (s i).2.2) hf hs hd
  | succ r ih =>
    intro k t m s hr hk hf ht hs hd he
    refine T_RC_reals_45 _ _ _ _ (bf ?_ ⟨⟨by omega, by omega⟩, ⟨by omega, by omega⟩, l_RC_bk H st hf (by omega) (fun m1 v dd L f1 hC h0 hv0 hS => ?_)⟩)
    · rw [hf 25 (by omega), ec]
      omega
    · have cp := ch_props H hC
      refine c_SC_varFar cp.1 hS cp.2.2.1 true (c_SC_varFar cp.1 hS cp.2.2.1 false ?_)
      have ra := vI_rng (σ := sfv v dd true) L 0 0
      have rb := vI_rng (σ := sfv v dd false) L 0 0
      rw [w32_id (z := (k : Int) + 1) (by omega) (by omega), w32_id (z := vI (sfv v dd true) L 0 0 - vI (sfv v dd false) L 0 0) (by omega) (by omega), w32_id (z := t + (vI (sfv v dd true) L 0 0 - vI (sfv v dd false) L 0 0)) (by omega) (by omega)]
      refine ih (k + 1) _ m1 (fun i => if i = k then (fun j => pR mk 7 (v j), L - 1, dd) else s i) (by omega) (by omega) f1 (by omega) (fun i hi => ?_) (fun i hi => ?_) ?_
      · by_cases q : i = k
        · subst q
          rw [if_pos rfl]
          exact ⟨ch_end H hC h0, hv0⟩
        · rw [if_neg q]
          exact hs i (by omega)
      · by_cases q : i = k
        · subst q
          rw [if_pos rfl]
          exact cp.2.2.2
        · rw [if_neg q]
          exact hd i (by omega)
      · have := sum_ext (s := s) (x := ((fun j => pR mk 7 (v j)), L - 1, dd)) (k := k) (φ := fun _ y => sF co y.1 y.2.2 y.2.1 true - sF co y.1 y.2.2 y.2.1 false)
        rw [this, ← he]
        show _ = t + (sF co (fun j => pR mk 7 (v j)) dd (L - 1) true - sF co (fun j => pR mk 7 (v j)) dd (L - 1) false)
        rw [sF_chI H hC, sF_chI H hC]
/-- the class's way to the counting -/
theorem c_RC_toCnt [Lean.Grind.CommRing R] {co : R → Nat → Int} {mk : Nat → (Nat → Int) → R} (H : PolyR co mk) {a : Int} (hr : 0 ≤ a ∧ a < 10) {m : rz_M} (hI : Inv m) (hd : 1 ≤ dg (m (rz_R 1 a))) (hs : sm (m (rz_R 1 a))) {K : Int → rz_M → Prop}
    (h : ∀ (m3 : rz_M) (c : Nat), kpC m m3 → m3 25 4 = c → stL co mk (elC m3 25) c → (∀ (M : rz_M) (L : Int → rz_M → Prop), M 222 = m 222 → (∀ (M' : rz_M) (v : Nat → Int → Int) (dd : Nat → Nat) (L' : Nat), kpM M M' → M' 221 1 = M 221 1 → chI co mk v dd L' → dd (L' - 1) = 0 → pR mk 7 (v 0) = PL mk (elC m3 25) c → SM M' v dd L' → L 0 M') → rz_C y_M_makeChain [rR 221, rI a] M L) → K 0 m3) :
    rz_C y_Sp_splitInto [rR 55, rR (rz_R 1 a), rR 25] m K := by
  have eR : rz_R 1 a = 2 + a.toNat := rfl
  have P25 : isP 25 := Or.inr (Or.inl rfl)
  refine c_Sp_splitInto H P25 (isL_row hr) (by omega) hs (by omega) (fun g1 f1 m3 g10 e1 c1 fr c5 c4 L1 s1 => ?_)
  obtain ⟨c, ec⟩ : ∃ c : Nat, m3 25 4 = c := ⟨(m3 25 4).toNat, by omega⟩
  have l1 : ptl m3 25 = (List.range c).map (elC m3 25) := by unfold ptl; rw [ec, Int.toNat_natCast]
  rw [l1] at L1 s1
  refine h m3 c (fun i hi => fr i (by omega) (by omega) (by omega)) ec (st_list H c1 hd (fun j x y => (e1 j x y).2) L1) (fun M L hM hL => ?_)
  have eW : rwM M a = rwM m a := by unfold rwM; rw [hM]
  exact c_M_makeChain H hr (by rw [eW]; exact (sm_eq hI hr).mp hs) (by rw [eW, ← dg_eq hI hr]; exact hd) g10 (by rw [eW, ← dg_eq hI hr]; exact c1) (fun j x y => by rw [eW, ← (e1 j x y).1]; exact (row_eq hI hr ⟨x, y⟩).symm) L1 s1 hL
theorem p_count_R [Lean.Grind.CommRing R] {co : R → Nat → Int} {mk : Nat → (Nat → Int) → R} (H : PolyR co mk) (r a b : Int) (m : rz_M) (hI : Inv m) : pairOK y_RC_count y_M_count [rI r, rI a, rI b] m := by
  have sc0 : kpM m (rz_up m 221 0 0) := ⟨fun i hi => up_ne (by omega), up_nj (by decide), up_nj (by decide)⟩
  have bad0 : ∀ z : Int, z = z ∧ Inv (rz_up m 221 0 0) ∧ rz_up m 221 0 0 400 = m 400 := fun z => ⟨rfl, fin_same hI (fun _ _ => rfl) sc0 (up_nj (by decide))⟩
  have rwT : ∀ M : rz_M, M 222 = m 222 → rwM (rz_up M 221 0 0) r = rwM m r := fun M h => by unfold rwM; rw [up_ne (by decide), h]
  have bad1 : ¬ ((0 ≤ r ∧ r < 10) ∧ (-1000 ≤ a ∧ a ≤ 1000) ∧ (-1000 ≤ b ∧ b ≤ 1000) ∧ a < b) → rz_C y_M_count (rR 221 :: [rI r, rI a, rI b]) m (fun r2 m2 => -1 = r2 ∧ Inv m2 ∧ m2 400 = m 400) := fun hn =>
    T_M_count_0 _ _ _ _ _ (c_M_isRow (fun q1 q2 => b1t (c_M_in (fun p1 p2 => b1t (c_M_in (fun s1 s2 => b1t (bf (fun w => hn ⟨⟨q1, q2⟩, ⟨p1, p2⟩, ⟨s1, s2⟩, w⟩) (bad0 _))) (fun _ => b0t (bad0 _)))) (fun _ => b0t (bad0 _)))) (fun _ => b0t (bad0 _)))
  have bad2 : (0 ≤ r ∧ r < 10) → (-1000 ≤ a ∧ a ≤ 1000) → (-1000 ≤ b ∧ b ≤ 1000) → a < b → ¬ (1 ≤ dg (m (rz_R 1 r)) ∧ sm (m (rz_R 1 r))) → rz_C y_M_count (rR 221 :: [rI r, rI a, rI b]) m (fun r2 m2 => -2 = r2 ∧ Inv m2 ∧ m2 400 = m 400) := fun hr ha hb hab hn =>
    T_M_count_0 _ _ _ _ _ (c_M_isRow (fun _ _ => b1t (c_M_in (fun _ _ => b1t (c_M_in (fun _ _ => b1t (bt hab (c_M_isSmall hr (fun d s => absurd ⟨by rw [dg_eq hI hr]; rwa [rwT m rfl] at d, (sm_eq hI hr).mpr (by rwa [rwT m rfl] at s)⟩ hn) (fun _ => b0n (bad0 _))))) (fun q => absurd hb q))) (fun q => absurd ha q))) (fun q => absurd hr q))
  refine T_RC_count_0 _ _ _ _ _ (c_RC_isRow (fun q1 q2 => b1t (c_RC_isWithin (by decide) (fun p1 p2 => b1t (c_RC_isWithin (by decide) (fun s1 s2 => b1t (bb (fun hab => ⟨⟨q1, q2⟩, ?_⟩) (fun hab => bad1 (fun w => hab w.2.2.2)))) (fun q => b0t (bad1 (fun w => q w.2.2.1))))) (fun q => b0t (bad1 (fun w => q w.2.1))))) (fun q => b0t (bad1 (fun w => q w.1))))
  have hr : 0 ≤ r ∧ r < 10 := ⟨q1, q2⟩
  have ha : bd a 1000 := ⟨p1, p2⟩
  have hb : bd b 1000 := ⟨s1, s2⟩
  refine c_RC_isSmall (isL_row hr) (fun d s => b1n ⟨hr, ?_⟩) (fun n => b0n (bad2 hr ⟨p1, p2⟩ ⟨s1, s2⟩ hab n))
  refine c_RC_toCnt H hr hI d s (fun m3 c kc ec st mkc => ?_)
  refine l_RC_cnt72 H st ec ha hb (fun m4 sq kk f4 hsq => ?_) c 0 0 m3 (fun _ => (fun _ => 0, 0)) rfl (Nat.zero_le _) (fun _ _ => rfl) ⟨by decide, by decide⟩ (fun i hi => by omega) rfl
  have kc4 : kpC m m4 := fun i hi => by rw [f4 i (by omega)]; exact kc i hi
  have e222 : m4 222 = m 222 := kc4 222 (by omega)
  refine T_M_count_0 _ _ _ _ _ (c_M_isRow (fun _ _ => b1t (c_M_in (fun _ _ => b1t (c_M_in (fun _ _ => b1t (bt hab (c_M_isSmall hr (fun _ _ => b1n (mkc _ _ (by rw [up_ne (by decide)]; exact e222) (fun M' v dd L' k' o' hC h0 hv0 hS => ?_))) (fun n => absurd ?_ n)))) (fun q => absurd ⟨s1, s2⟩ q))) (fun q => absurd ⟨p1, p2⟩ q))) (fun q => absurd hr q))
  · have cp := ch_props H hC
    refine c_M_changesAt cp.1 hS cp.2.1 ha (fun M2 f2 => c_M_changesAt cp.1 (SM_kp cp.1 hS f2) cp.2.1 hb (fun M3 f3 => ⟨?_, ?_⟩))
    · have ra := vI_rng (σ := fun j => (ev7 (v j) a).sign) L' 0 0
      have rb := vI_rng (σ := fun j => (ev7 (v j) b).sign) L' 0 0
      rw [w32_id (by omega) (by omega)]
      obtain ⟨a1, a2, a3⟩ := st_add H st
      have := sturm_add H (a := a) (b := b) (by omega) a1 a2 a3 (ch_end H hC h0) hv0 hsq
      rw [sV_chI H hC, sV_chI H hC] at this
      exact this.symm
    · refine fin_same hI kc4 (M2 := M3) ⟨fun x hx => ?_, ?_, ?_⟩ ?_
      · rw [f3.1 x (by omega) (by omega), f2.1 x (by omega) (by omega), k'.1 x hx, up_ne (by omega)]
      · rw [f3.1 221 (by decide) (by decide), f2.1 221 (by decide) (by decide), k'.2.1, up_nj (by decide)]
      · rw [f3.1 221 (by decide) (by decide), f2.1 221 (by decide) (by decide), k'.2.2, up_nj (by decide)]
      · rw [f3.1 221 (by decide) (by decide), f2.1 221 (by decide) (by decide), o', up_nj (by decide)]
  · rw [rwT m4 e222]
    exact ⟨by rw [← dg_eq hI hr]; exact d, (sm_eq hI hr).mp s⟩
theorem p_reals_R [Lean.Grind.CommRing R] {co : R → Nat → Int} {mk : Nat → (Nat → Int) → R} (H : PolyR co mk) (r : Int) (m : rz_M) (hI : Inv m) : pairOK y_RC_reals y_M_reals [rI r] m := by
  have sc0 : kpM m (rz_up m 221 0 0) := ⟨fun i hi => up_ne (by omega), up_nj (by decide), up_nj (by decide)⟩
  have bad0 : ∀ z : Int, z = z ∧ Inv (rz_up m 221 0 0) ∧ rz_up m 221 0 0 400 = m 400 := fun z => ⟨rfl, fin_same hI (fun _ _ => rfl) sc0 (up_nj (by decide))⟩
  have rwT : ∀ M : rz_M, M 222 = m 222 → rwM (rz_up M 221 0 0) r = rwM m r := fun M h => by unfold rwM; rw [up_ne (by decide), h]
  have bad1 : ¬ (0 ≤ r ∧ r < 10) → rz_C y_M_reals (rR 221 :: [rI r]) m (fun r2 m2 => -1 = r2 ∧ Inv m2 ∧ m2 400 = m 400) := fun hn =>
    T_M_reals_0 _ _ _ (c_M_isRow (fun q1 q2 => absurd ⟨q1, q2⟩ hn) (fun _ => b0n (bad0 _)))
  have bad2 : (0 ≤ r ∧ r < 10) → ¬ (1 ≤ dg (m (rz_R 1 r)) ∧ sm (m (rz_R 1 r))) → rz_C y_M_reals (rR 221 :: [rI r]) m (fun r2 m2 => -2 = r2 ∧ Inv m2 ∧ m2 400 = m 400) := fun hr hn =>
    T_M_reals_0 _ _ _ (c_M_isRow (fun _ _ => b1n (c_M_isSmall hr (fun d s => absurd ⟨by rw [dg_eq hI hr]; rwa [rwT m rfl] at d, (sm_eq hI hr).mpr (by rwa [rwT m rfl] at s)⟩ hn) (fun _ => b0n (bad0 _)))) (fun q => absurd hr q))
  refine T_RC_reals_0 _ _ _ (c_RC_isRow (fun q1 q2 => b1n ⟨⟨q1, q2⟩, ?_⟩) (fun q => b0n (bad1 q)))
  have hr : 0 ≤ r ∧ r < 10 := ⟨q1, q2⟩
  refine c_RC_isSmall (isL_row hr) (fun d s => b1n ⟨hr, ?_⟩) (fun n => b0n (bad2 hr n))
  refine c_RC_toCnt H hr hI d s (fun m3 c kc ec st mkc => ?_)
  refine l_RC_rea45 H st ec (fun m4 sq kk ds f4 hsq hds => ?_) c 0 0 m3 (fun _ => (fun _ => 0, 0, fun _ => 0)) rfl (Nat.zero_le _) (fun _ _ => rfl) ⟨by decide, by decide⟩ (fun i hi => by omega) (fun i hi => by omega) rfl
  have kc4 : kpC m m4 := fun i hi => by rw [f4 i (by omega)]; exact kc i hi
  have e222 : m4 222 = m 222 := kc4 222 (by omega)
  refine T_M_reals_0 _ _ _ (c_M_isRow (fun _ _ => b1n (c_M_isSmall hr (fun _ _ => b1n (mkc _ _ (by rw [up_ne (by decide)]; exact e222) (fun M' v dd L' k' o' hC h0 hv0 hS => ?_))) (fun n => absurd ?_ n))) (fun q => absurd hr q))
  · have cp := ch_props H hC
    refine c_M_changesFar cp.1 hS cp.2.2.1 true (c_M_changesFar cp.1 hS cp.2.2.1 false ⟨?_, ?_⟩)
    · have ra := vI_rng (σ := sfv v dd true) L' 0 0
      have rb := vI_rng (σ := sfv v dd false) L' 0 0
      rw [w32_id (by omega) (by omega)]
      obtain ⟨a1, a2, a3⟩ := st_add H st
      have := sturm_far H a1 a2 a3 (ch_end H hC h0) hv0 cp.2.2.2 hsq hds
      rw [sF_chI H hC, sF_chI H hC] at this
      exact this.symm
    · refine fin_same hI kc4 (M2 := M') ⟨fun x hx => ?_, ?_, ?_⟩ ?_
      · rw [k'.1 x hx, up_ne (by omega)]
      · rw [k'.2.1, up_nj (by decide)]
      · rw [k'.2.2, up_nj (by decide)]
      · rw [o', up_nj (by decide)]
  · rw [rwT m4 e222]
    exact ⟨by rw [← dg_eq hI hr]; exact d, (sm_eq hI hr).mp s⟩
end
theorem p_count (r a b : Int) (m : rz_M) (hI : Inv m) : pairOK y_RC_count y_M_count [rI r, rI a, rI b] m := @p_count_R PZ rgPZ pzco pzK PZ_ok r a b m hI
theorem p_reals (r : Int) (m : rz_M) (hI : Inv m) : pairOK y_RC_reals y_M_reals [rI r] m := @p_reals_R PZ rgPZ pzco pzK PZ_ok r m hI
