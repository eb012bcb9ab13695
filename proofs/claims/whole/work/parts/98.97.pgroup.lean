/-! both sides alike: group, changes -/
theorem fin_same {m M1 M2 : rz_M} (hI : Inv m) (h1 : kpC m M1) (h2 : kpM M1 M2) (h3 : M2 221 1 = M1 221 1) : Inv M2 ∧ M2 400 = m 400 := by
  have q : ∀ i : Nat, (i < 12 ∨ (14 ≤ i ∧ i ≤ 23) ∨ i = 222 ∨ (231 ≤ i ∧ i ≤ 233) ∨ 249 ≤ i) → M2 i = m i := fun i b => by rw [h2.1 i (by omega), h1 i (by omega)]
  refine ⟨Inv_ref hI (z := m 0 10) ⟨fun i hi => q i (by omega), ?_, ?_⟩ (fun i a b => q i (by omega)) (q 222 (by omega)) (by rw [q 0 (by omega)]) ?_, q 400 (by omega)⟩
  · rw [h2.2.1, h1 221 (by omega)]
  · rw [h2.2.2, h1 221 (by omega)]
  · rw [h3, h1 221 (by omega)]
    exact hI.2.1.symm
theorem l_Pa_roots {m : rz_M} {c : Nat} (hc : c ≤ 4) (ec : m 25 4 = c) (ok : ∀ k, k < c → 0 ≤ (elC m 25 k).2.1 ∧ (elC m 25 k).2.1 ≤ 6) {K : Int → rz_M → Prop} (h : K (ro (elC m 25) c) m) : ∀ (r k : Nat) (R : Int), c - k = r → k ≤ c → (0 ≤ R ∧ R ≤ 6 * (k : Int)) → (R, (0 : Nat)) = (ro (elC m 25) k, (0 : Nat)) → rz_E y_Parts_rootsInAll 4 [rR 25, rI R, rI k] [] m K
  | 0, k, R, hr, hk, hro, hE => by
    have e : k = c := by omega
    subst e
    rw [(Prod.mk.inj hE).1]
    refine T_Parts_rootsInAll_4 _ _ _ _ _ ⟨by decide +kernel, bt ?_ h⟩
    rw [ec]
    exact Int.le_refl _
  | r + 1, k, R, hr, hk, hro, hE => by
    have o := ok k (by omega)
    have cp := parts_c (P := 25) (Or.inr (Or.inl rfl))
    have e8 : m (25 + 8) (k : Int) = (elC m 25 k).2.1 := rfl
    refine T_Parts_rootsInAll_4 _ _ _ _ _ ⟨cp.1, ?_⟩
    rw [ec, cp.2.2.1, cp.2.2.2.2.2.2.2.2.1, e8, w32_id (z := R + (elC m 25 k).2.1) (by omega) (by omega), w32_id (z := (k : Int) + 1) (by omega) (by omega)]
    refine bf (by omega) ⟨cp.1, cp.2.2.2.2.2.2.2.1, ⟨by omega, by omega⟩, ?_⟩
    refine l_Pa_roots hc ec ok h r (k + 1) _ (by omega) (by omega) (by omega) ?_
    rw [(Prod.mk.inj hE).1]
    rfl
theorem c_Pa_roots {m : rz_M} {c : Nat} (hc : c ≤ 4) (ec : m 25 4 = c) (ok : ∀ k, k < c → 0 ≤ (elC m 25 k).2.1 ∧ (elC m 25 k).2.1 ≤ 6) {K : Int → rz_M → Prop} (h : K (ro (elC m 25) c) m) : rz_C y_Parts_rootsInAll [rR 25] m K :=
  T_Parts_rootsInAll_0 _ _ _ (l_Pa_roots hc ec ok h c 0 0 rfl (Nat.zero_le _) ⟨Int.le_refl _, Int.le_refl _⟩ rfl)
theorem ro_congr {F G : Nat → E3} : ∀ c : Nat, (∀ k, k < c → F k = G k) → ro F c = ro G c
  | 0, _ => rfl
  | c + 1, h => by
    show ro F c + _ = ro G c + _
    rw [ro_congr c (fun k hk => h k (by omega)), h c (by omega)]
theorem kd_congr {F G : Nat → E3} {c : Nat} (c1 : 1 ≤ c) (h : ∀ k, k < c → F k = G k) : kd c F = kd c G := by
  unfold kd
  rw [h (c - 1) (by omega), h (c - 2) (by omega)]
/-- a row that has a group -/
def plq (f : Int → Int) : Prop := 1 ≤ dg f ∧ dg f ≤ 4 ∧ sm f ∧ f (dg f) = 1
theorem c_M_isGrouped {r : Int} (hr : 0 ≤ r ∧ r < 10) {m : rz_M} {K : Int → rz_M → Prop} (h1 : plq (rwM m r) → K 1 m) (h0 : ¬ plq (rwM m r) → K 0 m) : rz_C y_M_isGrouped [rR 221, rI r] m K :=
  T_M_isGrouped_0 _ _ _ (c_M_isPlain hr (fun d s l => b1t (c_M_degreeOf hr (bb (fun q => h0 (fun w => by have := w.2.1; omega)) (fun q => h1 ⟨d, by omega, s, l⟩)))) (fun q => b0t (h0 (fun w => q ⟨w.1, w.2.2.1, w.2.2.2⟩))))
theorem plq_eq {m : rz_M} (hI : Inv m) {r : Int} (hr : 0 ≤ r ∧ r < 10) : plq (m (rz_R 1 r)) ↔ plq (rwM m r) := by
  have e := dg_eq hI hr
  have s := sm_eq hI hr
  have rr := dg_rng (m (rz_R 1 r))
  unfold plq
  rw [← e, ← s]
  constructor
  · rintro ⟨a, b, c, d⟩
    refine ⟨a, b, c, ?_⟩
    rw [← d]
    exact (row_eq hI hr ⟨by omega, by omega⟩).symm
  · rintro ⟨a, b, c, d⟩
    refine ⟨a, b, c, ?_⟩
    rw [← d]
    exact row_eq hI hr ⟨by omega, by omega⟩
section
variable {R : Type}
/-- of a plain row: the primitive row is the row -/
theorem plq_core [Lean.Grind.CommRing R] {co : R → Nat → Int} {mk : Nat → (Nat → Int) → R} {f f1 : Int → Int} {g : Int} (hp : plq f) (hc : core co mk f1 (dg f)) (e : ∀ j : Int, 0 ≤ j → j < 7 → f j = g * f1 j ∧ bd (f1 j) 100) : f1 (dg f) = 1 := by
  have rr := dg_rng f
  have h := (e (dg f) (by have := hp.1; omega) (by omega)).1
  rw [hp.2.2.2] at h
  have d : f1 (dg f) ∣ 1 := ⟨g, by rw [h, Int.mul_comm]⟩
  have := Int.le_of_dvd (by decide) d
  have := hc.2.1
  omega
theorem c_M_kindOf [Lean.Grind.CommRing R] {co : R → Nat → Int} {mk : Nat → (Nat → Int) → R} (H : PolyR co mk) {r : Int} (hr : 0 ≤ r ∧ r < 10) {M : rz_M} (hp : plq (rwM M r)) {g : Int} {f1 : Int → Int} (g0 : g ≠ 0) (hc : core co mk f1 (dg (rwM M r))) (e : ∀ j : Int, 0 ≤ j → j < 7 → rwM M r j = g * f1 j) {c : Nat} {F : Nat → E3} (hL : FacL co mk (pR mk 7 f1) ((List.range c).map F)) (hs : ((List.range c).map F).Pairwise bef) {K : Int → rz_M → Prop} (h : ∀ M' : rz_M, kpM M M' → M' 221 1 = M 221 1 → M' 221 34 = ro F c → K ((phK (kd c F) : Nat) : Int) M') : rz_C y_M_kindOf [rR 221, rI r] M K := by
  refine T_M_kindOf_0 _ _ _ (c_M_findFactors H hr hp.2.2.1 (by have := hp.1; omega) (fun g2 f2 m4 g20 e2 c2 fr4 fr41 c10 c9 L2 s2 => ?_))
  obtain ⟨n, en⟩ : ∃ n : Nat, m4 221 9 = n := ⟨(m4 221 9).toNat, by omega⟩
  have l2 : mtl m4 = (List.range n).map (elM m4) := by unfold mtl; rw [en, Int.toNat_natCast]
  rw [l2] at L2 s2
  have ok := ok_list H c2 ⟨hp.1, hp.2.1⟩ (plq_core hp c2 e2) (fun j a b => (e2 j a b).2) L2 s2
  have uq := core_uq H hc c2 g0 g20 (fun j a b => by rw [← e j a b, ← (e2 j a b).1])
  rw [pR_congr H (fun j a b => uq.2 j a (by omega))] at hL
  have q1 := fac_eq H hL L2 hs s2
  have cn : c = n := by
    have := congrArg List.length q1
    simpa using this
  subst cn
  have el := map_at q1
  have c1 := ok.1.1
  refine c_M_kd H en ok ?_
  rw [← kd_congr c1 el, ← ro_congr c el]
  refine h _ ⟨fun i hi => ?_, ?_, ?_⟩ ?_ up_eq
  · rw [up_ne (by omega)]; exact fr4 i (by omega)
  · rw [up_nj (by decide)]; exact fr41 17 (by decide) (by decide) (by decide)
  · rw [up_nj (by decide)]; exact fr41 18 (by decide) (by decide) (by decide)
  · rw [up_nj (by decide)]; exact fr41 1 (by decide) (by decide) (by decide)
/-- the class's way to a kind -/
theorem c_RC_toKind [Lean.Grind.CommRing R] {co : R → Nat → Int} {mk : Nat → (Nat → Int) → R} (H : PolyR co mk) {a : Int} (hr : 0 ≤ a ∧ a < 10) {m : rz_M} (hI : Inv m) (hp : plq (m (rz_R 1 a))) {K : Int → rz_M → Prop}
    (h : ∀ (m3 : rz_M) (c i : Nat), kpC m m3 → i < 11 → (1 ≤ c ∧ c ≤ 4) → m3 25 4 = c → i = kd c (elC m3 25) → okL co mk c (elC m3 25) → (∀ (M : rz_M) (L : Int → rz_M → Prop), M 222 = m 222 → (∀ M' : rz_M, kpM M M' → M' 221 1 = M 221 1 → M' 221 34 = ro (elC m3 25) c → L ((phK i : Nat) : Int) M') → rz_C y_M_kindOf [rR 221, rI a] M L) → K ((249 + i : Nat) : Int) m3) :
    rz_C y_Sp_splitInto [rR 55, rR (rz_R 1 a), rR 25] m (fun _ m3 => rz_C y_RC_kindOf [rR 25] m3 K) := by
  have eR : rz_R 1 a = 2 + a.toNat := rfl
  have P25 : isP 25 := Or.inr (Or.inl rfl)
  refine c_Sp_splitInto H P25 (isL_row hr) (by omega) hp.2.2.1 (by have := hp.1; omega) (fun g1 f1 m3 g10 e1 c1 fr c5 c4 L1 s1 => ?_)
  obtain ⟨c, ec⟩ : ∃ c : Nat, m3 25 4 = c := ⟨(m3 25 4).toNat, by omega⟩
  have l1 : ptl m3 25 = (List.range c).map (elC m3 25) := by unfold ptl; rw [ec, Int.toNat_natCast]
  rw [l1] at L1 s1
  have ok := ok_list H c1 ⟨hp.1, hp.2.1⟩ (plq_core hp c1 e1) (fun j a b => (e1 j a b).2) L1 s1
  have kl := kd_lt ok
  refine c_RC_kindOf H ec ok (h m3 c _ (fun i hi => fr i (by omega) (by omega) (by omega)) kl.1 ok.1 ec rfl ok (fun M L hM hL => ?_))
  have eW : rwM M a = rwM m a := by unfold rwM; rw [hM]
  refine c_M_kindOf H hr (by rw [eW]; exact (plq_eq hI hr).mp hp) g10 (by rw [eW, ← dg_eq hI hr]; exact c1) (fun j x y => by rw [eW, ← (e1 j x y).1]; exact (row_eq hI hr ⟨x, y⟩).symm) L1 s1 hL
theorem p_group_R [Lean.Grind.CommRing R] {co : R → Nat → Int} {mk : Nat → (Nat → Int) → R} (H : PolyR co mk) (a b : Int) (m : rz_M) (hI : Inv m) : pairOK y_RC_group y_M_group [rI a, rI b] m := by
  have sc0 : kpM m (rz_up m 221 0 0) := ⟨fun i hi => up_ne (by omega), up_nj (by decide), up_nj (by decide)⟩
  have bad0 : ∀ z : Int, z = z ∧ Inv (rz_up m 221 0 0) ∧ rz_up m 221 0 0 400 = m 400 := fun z => ⟨rfl, fin_same hI (fun _ _ => rfl) sc0 (up_nj (by decide))⟩
  have rwT : ∀ M : rz_M, M 222 = m 222 → rwM (rz_up M 221 0 0) a = rwM m a := fun M h => by unfold rwM; rw [up_ne (by decide), h]
  have bad1 : ¬ ((0 ≤ a ∧ a < 10) ∧ 0 ≤ b ∧ b ≤ 4) → rz_C y_M_group (rR 221 :: [rI a, rI b]) m (fun r2 m2 => -1 = r2 ∧ Inv m2 ∧ m2 400 = m 400) := fun hn =>
    T_M_group_0 _ _ _ _ (c_M_isRow (fun q1 q2 => b1t (c_M_in (fun p1 p2 => absurd ⟨⟨q1, q2⟩, p1, p2⟩ hn) (fun _ => b0n (bad0 _)))) (fun _ => b0t (bad0 _)))
  have bad2 : (0 ≤ a ∧ a < 10) → (0 ≤ b ∧ b ≤ 4) → ¬ plq (m (rz_R 1 a)) → rz_C y_M_group (rR 221 :: [rI a, rI b]) m (fun r2 m2 => -2 = r2 ∧ Inv m2 ∧ m2 400 = m 400) := fun hr hb hn =>
    T_M_group_0 _ _ _ _ (c_M_isRow (fun _ _ => b1t (c_M_in (fun _ _ => b1n (c_M_isGrouped hr (fun p => absurd ((plq_eq hI hr).mpr (by rw [rwT m rfl] at p; exact p)) hn) (fun _ => b0n (bad0 _)))) (fun q => absurd hb q))) (fun q => absurd hr q))
  refine T_RC_group_0 _ _ _ _ (c_RC_isRow (fun q1 q2 => b1t (bb (fun z => bad1 (by omega)) (fun z => bb (fun z2 => ⟨⟨q1, q2⟩, ?_⟩) (fun z2 => bad1 (by omega))))) (fun q => b0t (bad1 (fun w => q w.1))))
  have hr : 0 ≤ a ∧ a < 10 := ⟨q1, q2⟩
  have hb : 0 ≤ b ∧ b ≤ 4 := ⟨by omega, z2⟩
  refine c_RC_hasGroup (isL_row hr) (fun p1 p2 p3 p4 => b1n ⟨hr, ?_⟩) (fun n => b0n (bad2 hr hb n))
  refine c_RC_toKind H hr hI ⟨p1, p2, p3, p4⟩ (fun m3 c i kc hi hc ec ei ok mk' => ?_)
  have kl := kd_lt ok
  rw [← ei] at kl
  have e222 : m3 222 = m 222 := kc 222 (by omega)
  -- the reference, given what comes out
  have ref : ∀ z : Int, (∀ M' : rz_M, kpM m3 M' → M' 221 1 = m3 221 1 → M' 221 34 = ro (elC m3 25) c → rz_C y_M_orderOf [rI ((phK i : Nat) : Int)] M' (fun r5 m5 => ((b < 0 ∨ 3 < b → z = m5 221 34 ∧ Inv m5 ∧ m5 400 = m 400) ∧ ((b = 0 → z = r5 ∧ Inv m5 ∧ m5 400 = m 400) ∧ ((b = 0 + 1 → rz_C y_M_fieldsOf [rI ((phK i : Nat) : Int)] m5 (fun r8 m8 => z = r8 ∧ Inv m8 ∧ m8 400 = m 400)) ∧ ((b = 0 + 1 + 1 → ((3 : Int) ≠ 0 ∧ ((((Int.tmod r5 3) ≠ 0) → z = 1 ∧ Inv m5 ∧ m5 400 = m 400) ∧ (¬ ((Int.tmod r5 3) ≠ 0) → z = 0 ∧ Inv m5 ∧ m5 400 = m 400)))) ∧ ((b = 0 + 1 + 1 + 1 → rz_C y_M_manyOf [rI ((phK i : Nat) : Int), rI 0] m5 (fun r6 m6 => (((r6 ≠ 0) → z = 0 ∧ Inv m6 ∧ m6 400 = m 400) ∧ (¬ (r6 ≠ 0) → rz_C y_M_manyOf [rI ((phK i : Nat) : Int), rI 3] m6 (fun r7 m7 => (((r7 ≠ 0) → z = 0 ∧ Inv m7 ∧ m7 400 = m 400) ∧ (¬ (r7 ≠ 0) → z = 1 ∧ Inv m7 ∧ m7 400 = m 400))))))) ∧ True))))))) → rz_C y_M_group (rR 221 :: [rI a, rI b]) m3 (fun r2 m2 => z = r2 ∧ Inv m2 ∧ m2 400 = m 400) := fun z hz => by
    refine T_M_group_0 _ _ _ _ (c_M_isRow (fun _ _ => b1t (c_M_in (fun _ _ => b1n (c_M_isGrouped hr (fun _ => b1n (mk' _ _ (by rw [up_ne (by decide)]; exact e222) (fun M' k' o' r' => hz M' ⟨fun x hx => by rw [k'.1 x hx, up_ne (by omega)], by rw [k'.2.1, up_nj (by decide)], by rw [k'.2.2, up_nj (by decide)]⟩ (by rw [o', up_nj (by decide)]) r'))) (fun n => absurd ?_ n))) (fun q => absurd hb q))) (fun q => absurd hr q))
    rw [rwT m3 e222]
    exact (plq_eq hI hr).mp ⟨p1, p2, p3, p4⟩
  have fin : ∀ M' : rz_M, kpM m3 M' → M' 221 1 = m3 221 1 → Inv M' ∧ M' 400 = m 400 := fun M' k' o' => fin_same hI kc k' o'
  obtain ⟨o, eo, ho⟩ := ordK i hi
  have o3 : Int.tmod (o : Int) 3 = ((o % 3 : Nat) : Int) := by rw [Int.tmod_eq_emod_of_nonneg (by omega)]; omega
  rw [Int.toNat_natCast]
  refine ⟨fun z => ?_, fun z => ⟨isC_K i hi, c_Kd_size hi ?_⟩, fun z => ⟨isC_K i hi, ?_⟩, fun z => ⟨isC_K i hi, c_Kd_size hi ?_⟩, fun z => ⟨isC_K i hi, c_Kd_isEven hi ?_⟩, trivial⟩
  · refine c_Pa_roots (by omega) ec (fun k hk => ⟨by have := (ok.2.1 k hk).2.1; omega, (ok.2.1 k hk).2.2.1⟩) (ref _ (fun M' k' o' r' => c_M_orderOf hi ⟨fun _ => ⟨r'.symm, fin M' k' o'⟩, fun w => by omega, fun w => by omega, fun w => by omega, fun w => by omega, trivial⟩))
  · exact ref _ (fun M' k' o' r' => c_M_orderOf hi ⟨fun w => by omega, fun _ => ⟨rfl, fin M' k' o'⟩, fun w => by omega, fun w => by omega, fun w => by omega, trivial⟩)
  · refine ref _ (fun M' k' o' r' => c_M_orderOf hi ⟨fun w => by omega, fun w => by omega, fun _ => c_M_fieldsOf hi ⟨?_, fin M' k' o'⟩, fun w => by omega, fun w => by omega, trivial⟩)
    show rz_kv (249 + i - 249) 0 = rz_kv i 0
    rw [Nat.add_sub_cancel_left]
  · rw [eo]
    refine c_J_bitCount ho ?_
    by_cases w3 : o % 3 = 0
    · rw [if_pos w3]
      refine bt (by decide) (T_RC_group_113 _ _ (ref _ (fun M' k' o' r' => c_M_orderOf hi ⟨fun w => by omega, fun w => by omega, fun w => by omega, fun _ => ⟨by decide, ?_⟩, fun w => by omega, trivial⟩)))
      rw [eo, o3, w3]
      exact bf (by decide) ⟨rfl, fin M' k' o'⟩
    · rw [if_neg w3]
      refine bf (by decide) (T_RC_group_109 _ _ (ref _ (fun M' k' o' r' => c_M_orderOf hi ⟨fun w => by omega, fun w => by omega, fun w => by omega, fun _ => ⟨by decide, ?_⟩, fun w => by omega, trivial⟩)))
      rw [eo, o3]
      exact bt (by omega) ⟨rfl, fin M' k' o'⟩
  · have go : ∀ z0 : Int, z0 = (if rz_kv i 1 = 0 ∧ rz_kv i 4 = 0 then 1 else 0) → rz_C y_M_group (rR 221 :: [rI a, rI b]) m3 (fun r2 m2 => z0 = r2 ∧ Inv m2 ∧ m2 400 = m 400) := fun z0 hz => ref _ (fun M' k' o' r' => c_M_orderOf hi ⟨fun w => by omega, fun w => by omega, fun w => by omega, fun w => by omega, fun _ => c_M_manyOf (w := 0) hi (by decide) (bb (fun w => ⟨by rw [hz, if_neg (fun v => w v.1)], fin M' k' o'⟩) (fun w => c_M_manyOf (w := 3) hi (by decide) (bb (fun w2 => ⟨by rw [hz, if_neg (fun v => w2 v.2)], fin M' k' o'⟩) (fun w2 => ⟨by rw [hz, if_pos ⟨Classical.not_not.mp w, Classical.not_not.mp w2⟩], fin M' k' o'⟩)))), trivial⟩)
    by_cases q : rz_kv i 1 = 0 ∧ rz_kv i 4 = 0
    · rw [if_pos q]
      exact bf (by decide) (go 1 (by rw [if_pos q]))
    · rw [if_neg q]
      exact bt rfl (go 0 (by rw [if_neg q]))
theorem p_changes_R [Lean.Grind.CommRing R] {co : R → Nat → Int} {mk : Nat → (Nat → Int) → R} (H : PolyR co mk) (a b : Int) (m : rz_M) (hI : Inv m) : pairOK y_RC_changes y_M_changes [rI a, rI b] m := by
  have sc0 : kpM m (rz_up m 221 0 0) := ⟨fun i hi => up_ne (by omega), up_nj (by decide), up_nj (by decide)⟩
  have bad0 : ∀ z : Int, z = z ∧ Inv (rz_up m 221 0 0) ∧ rz_up m 221 0 0 400 = m 400 := fun z => ⟨rfl, fin_same hI (fun _ _ => rfl) sc0 (up_nj (by decide))⟩
  have rwT : ∀ M : rz_M, M 222 = m 222 → rwM (rz_up M 221 0 0) a = rwM m a := fun M h => by unfold rwM; rw [up_ne (by decide), h]
  have bad1 : ¬ (0 ≤ a ∧ a < 10) → rz_C y_M_changes (rR 221 :: [rI a, rI b]) m (fun r2 m2 => -1 = r2 ∧ Inv m2 ∧ m2 400 = m 400) := fun hn =>
    T_M_changes_0 _ _ _ _ (c_M_isRow (fun q1 q2 => absurd ⟨q1, q2⟩ hn) (fun _ => b0n (bad0 _)))
  have bad2 : (0 ≤ a ∧ a < 10) → ¬ plq (m (rz_R 1 a)) → rz_C y_M_changes (rR 221 :: [rI a, rI b]) m (fun r2 m2 => -2 = r2 ∧ Inv m2 ∧ m2 400 = m 400) := fun hr hn =>
    T_M_changes_0 _ _ _ _ (c_M_isRow (fun _ _ => b1n (c_M_isGrouped hr (fun p => absurd ((plq_eq hI hr).mpr (by rw [rwT m rfl] at p; exact p)) hn) (fun _ => b0n (bad0 _)))) (fun q => absurd hr q))
  refine T_RC_changes_0 _ _ _ _ (c_RC_isRow (fun q1 q2 => b1n ⟨⟨q1, q2⟩, ?_⟩) (fun q => b0n (bad1 q)))
  have hr : 0 ≤ a ∧ a < 10 := ⟨q1, q2⟩
  refine c_RC_hasGroup (isL_row hr) (fun p1 p2 p3 p4 => b1n ⟨hr, ?_⟩) (fun n => b0n (bad2 hr n))
  refine c_RC_toKind H hr hI ⟨p1, p2, p3, p4⟩ (fun m3 c i kc hi hc ec ei ok mk' => ?_)
  have kl := kd_lt ok
  rw [← ei] at kl
  have e222 : m3 222 = m 222 := kc 222 (by omega)
  refine c_Pa_roots (by omega) ec (fun k hk => ⟨by have := (ok.2.1 k hk).2.1; omega, (ok.2.1 k hk).2.2.1⟩) ?_
  obtain ⟨r, er⟩ : ∃ r : Nat, ro (elC m3 25) c = r := ⟨(ro (elC m3 25) c).toNat, by omega⟩
  rw [er] at mk' kl
  rw [Int.toNat_natCast] at kl
  rw [er, Int.toNat_natCast]
  refine ⟨isC_K i hi, c_Kd_sizeOfType hi (by omega) ?_⟩
  rw [ch_eq hi kl.2.2.2 b]
  refine T_M_changes_0 _ _ _ _ (c_M_isRow (fun _ _ => b1n (c_M_isGrouped hr (fun _ => b1n (mk' _ _ (by rw [up_ne (by decide)]; exact e222) (fun M' k' o' r' => ?_))) (fun n => absurd ?_ n))) (fun q => absurd hr q))
  · have fin : Inv M' ∧ M' 400 = m 400 := fin_same hI kc ⟨fun x hx => by rw [k'.1 x hx, up_ne (by omega)], by rw [k'.2.1, up_nj (by decide)], by rw [k'.2.2, up_nj (by decide)]⟩ (by rw [o', up_nj (by decide)])
    exact l_M_ch37 (r := r) hi (by omega) r' ⟨rfl, fin⟩ r 0 rfl (Nat.zero_le _)
  · rw [rwT m3 e222]
    exact (plq_eq hI hr).mp ⟨p1, p2, p3, p4⟩
end
theorem p_group (a b : Int) (m : rz_M) (hI : Inv m) : pairOK y_RC_group y_M_group [rI a, rI b] m := @p_group_R PZ rgPZ pzco pzK PZ_ok a b m hI
theorem p_changes (a b : Int) (m : rz_M) (hI : Inv m) : pairOK y_RC_changes y_M_changes [rI a, rI b] m := @p_changes_R PZ rgPZ pzco pzK PZ_ok a b m hI
