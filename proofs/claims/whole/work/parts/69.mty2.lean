/-! the reference tells the type -/
section
variable {R : Type}
/-- what holds while the reference looks for types: only its scratch is written -/
def scM (m0 m : rz_M) : Prop := (∀ i : Nat, i < 221 ∨ (222 ≤ i ∧ i ≤ 238) ∨ 245 < i → m i = m0 i) ∧ ∀ y : Int, y ≠ 25 → y ≠ 27 → m 221 y = m0 221 y
theorem scM_of {m0 m m' : rz_M} (h : scM m0 m) (h1 : ∀ i : Nat, i < 240 ∨ 245 < i → m' i = m i) : scM m0 m' := ⟨fun i hi => by rw [h1 i (by omega)]; exact h.1 i hi, fun y a b => by rw [h1 221 (by omega)]; exact h.2 y a b⟩
theorem l_M_db163 {d k : Nat} (hd : 1 ≤ d ∧ d ≤ 6) (hdk : d * k ≤ 6) {n : Int} {m : rz_M} {K : Int → rz_M → Prop} : ∀ (r : Nat) (L : List Nat) (f : Nat), r ≤ k → lsum L + d * r ≤ 6 → f + d * r ≤ 6 → (∀ t ∈ L, 1 ≤ t ∧ t ≤ 6) → rz_E y_M_degreesBy 48 [rR 221, rI n, rI (num (List.replicate r d ++ L)), rI ((f + d * r : Nat) : Int), rI ((d + 1 : Nat) : Int), rX 0, rX 0, rX 0] [] m K → rz_E y_M_degreesBy 163 [rR 221, rI n, rI (num L), rI (f : Int), rI (d : Int), rX 0, rI ((d * k : Nat) : Int), rI ((k - r : Nat) : Int)] [] m K
  | 0, L, f, hr, hs, hf, ht, h => by
    have e : Int.tdiv ((d * k : Nat) : Int) (d : Int) = (k : Int) := by
      rw [Int.natCast_mul, Int.mul_comm]
      exact Int.mul_tdiv_cancel _ (by omega)
    have kb : k ≤ d * k := Nat.le_mul_of_pos_left k (by omega)
    refine T_M_degreesBy_163 _ _ _ _ _ _ _ _ ⟨by omega, bt ?_ ?_⟩
    · rw [e, w32_id (by omega) (by omega), Nat.sub_zero]
      exact Int.le_refl _
    · rw [w32_id (by omega) (by omega)]
      rw [Nat.mul_zero, Nat.add_zero] at h
      exact h
  | r + 1, L, f, hr, hs, hf, ht, h => by
    have e : Int.tdiv ((d * k : Nat) : Int) (d : Int) = (k : Int) := by
      rw [Int.natCast_mul, Int.mul_comm]
      exact Int.mul_tdiv_cancel _ (by omega)
    have kb : k ≤ d * k := Nat.le_mul_of_pos_left k (by omega)
    have e2 : d * (r + 1) = d * r + d := by rw [Nat.mul_add, Nat.mul_one]
    obtain ⟨n1, n2⟩ := num_b L ht
    have pb : ((10 ^ lsum L : Nat) : Int) ≤ 1000000 := by
      have : 10 ^ lsum L ≤ 10 ^ 6 := Nat.pow_le_pow_right (by decide) (by omega)
      have e6 : 10 ^ 6 = 1000000 := by decide
      omega
    refine T_M_degreesBy_163 _ _ _ _ _ _ _ _ ⟨by omega, bf ?_ ?_⟩
    · rw [e, w32_id (by omega) (by omega)]
      omega
    · rw [w32_id (z := 10 * num L) (by omega) (by omega), w32_id (z := 10 * num L + (d : Int)) (by omega) (by omega), w32_id (z := (f : Int) + d) (by omega) (by omega), w32_id (z := ((k - (r + 1) : Nat) : Int) + 1) (by omega) (by omega), show ((k - (r + 1) : Nat) : Int) + 1 = ((k - r : Nat) : Int) from by omega, show (f : Int) + d = ((f + d : Nat) : Int) from by omega, show 10 * num L + (d : Int) = num (d :: L) from by show _ = num L * 10 + (d : Int); omega]
      refine l_M_db163 hd hdk r (d :: L) (f + d) (by omega) (by show d + lsum L + d * r ≤ 6; omega) (by omega) (fun t hx => ?_) ?_
      · rcases List.mem_cons.mp hx with q | q
        · omega
        · exact ht t q
      · have e3 : List.replicate r d ++ d :: L = List.replicate (r + 1) d ++ L := by
          rw [List.replicate_succ', List.append_assoc]
          rfl
        rw [e3, show f + d + d * r = f + d * (r + 1) from by omega]
        exact h
theorem l_M_db70 {n z f d : Int} {m : rz_M} {K : Int → rz_M → Prop} (h : rz_E y_M_degreesBy 70 [rR 221, rI n, rI z, rI f, rI d, rI 7, rX 0, rX 0] [] (wr (wr m 245 7 (m 239)) 243 7 (m 240)) K) : ∀ (r : Nat) (j : Int), 7 - j = r → 0 ≤ j → rz_E y_M_degreesBy 70 [rR 221, rI n, rI z, rI f, rI d, rI j, rX 0, rX 0] [] (wr (wr m 245 j (m 239)) 243 j (m 240)) K
  | 0, j, hr, hj => by
    have e : j = 7 := by omega
    subst e
    exact h
  | r + 1, j, hr, hj => by
    refine T_M_degreesBy_70 _ _ _ _ _ _ _ (bf (by omega) ⟨⟨hj, by omega⟩, ⟨hj, by omega⟩, ⟨hj, by omega⟩, ⟨hj, by omega⟩, ?_⟩)
    have e1 : wr (wr m 245 j (m 239)) 243 j (m 240) 239 = m 239 := by rw [wr_ne (by decide), wr_ne (by decide)]
    have e2 : wr (wr m 245 j (m 239)) 243 j (m 240) 240 = m 240 := by rw [wr_ne (by decide), wr_ne (by decide)]
    rw [e1, e2, w32_id (by omega) (by omega)]
    have sw : rz_up (rz_up (wr (wr m 245 j (m 239)) 243 j (m 240)) 245 j (m 239 j)) 243 j (m 240 j) = wr (wr m 245 (j + 1) (m 239)) 243 (j + 1) (m 240) := by
      rw [← wr_succ (m := wr m 245 (j + 1) (m 239)) hj (show m 240 j = m 240 j from rfl), ← wr_succ (m := m) hj (show m 239 j = m 239 j from rfl)]
      congr 1
      funext x y
      unfold rz_up wr
      by_cases q : x = 245 ∧ y = j
      · rw [if_pos q, if_neg (by omega)]
        exact (if_pos q).symm
      · rw [if_neg q]
        by_cases z : x = 243 ∧ 0 ≤ y ∧ y < j
        · rw [if_pos z, if_pos z]
        · rw [if_neg z, if_neg z]
          exact (if_neg q).symm
    rw [sw]
    exact l_M_db70 h r (j + 1) (by omega) (by omega)
theorem l_M_db48 [Lean.Grind.CommRing R] {co : R → Nat → Int} {mk : Nat → (Nat → Int) → R} (H : PolyR co mk) {P : Nat} (hP : okP P) {D : Nat} (hD : 2 ≤ D ∧ D ≤ 6) {m0 : rz_M} {M : R} (hM : M = pR mk 7 (m0 239)) (hm : m0 221 25 = P) (hmd : m0 221 27 = D) (hw : mdOK (m0 239) P D) {c : R} {l : List (R × Nat)} (hc : tpp co P c 0) (hir : ∀ x ∈ l, irp co P x.1 x.2) (hpw : l.Pairwise (fun x y => ¬ jd co P x.1 y.1 ∧ ¬ jd co P y.1 x.1)) (hl : dvp co P (M - c * prd l)) (hls : sumd l = D) {K : Int → rz_M → Prop} (h : ∀ m' : rz_M, (∀ i : Nat, i < 240 ∨ 245 < i → m' i = m0 i) → K (tyG (fun e => cn e l) 6 0) m') : ∀ (r d : Nat) (L : List Nat) (m : rz_M), d + r = 7 → 1 ≤ d → (∀ i : Nat, i < 240 ∨ 245 < i → m i = m0 i) → stOK (m 240) P D → jd co P M (mo mk 1 1 ^ (P ^ (d - 1)) - pR mk 7 (m 240)) → L.Perm (low d l) → tyG (fun e => cn e l) r (num L) = tyG (fun e => cn e l) 6 0 → rz_E y_M_degreesBy 48 [rR 221, rI D, rI (num L), rI (lsum L), rI d, rX 0, rX 0, rX 0] [] m K := by
  have p2 := hP.1.1
  have p3 := hP.2
  have h1 : ∀ x ∈ l, 1 ≤ x.2 := fun x hx => (hir x hx).1
  have h6 : ∀ x ∈ l, x.2 ≤ D := fun x hx => by rw [← hls]; exact sumd_mem l x hx
  intro r
  induction r with
  | zero =>
    intro d L m hdr hd hfr hs hj hL hT
    have hT' : num L = tyG (fun e => cn e l) 6 0 := hT
    refine T_M_degreesBy_48 _ _ _ _ _ _ (bt (by omega) ?_)
    rw [hT']
    exact h m hfr
  | succ r ih =>
    intro d L m hdr hd hfr hs hj hL hT
    have e6r : 6 - r = d := by omega
    have ls := lsum_perm hL
    have lb := low_sum d l
    have ht : ∀ t ∈ L, 1 ≤ t ∧ t ≤ 6 := fun t hx => by
      obtain ⟨a, x, b, e⟩ := low_mem d l t (hL.mem_iff.mp hx)
      have := h1 x b
      have := h6 x b
      omega
    have done : (∀ e, d ≤ e → cn e l = 0) → K (num L) m := fun q => by
      rw [tyG_0 (r + 1) (num L) (fun e a b => q e (by omega)) (by omega)] at hT
      rw [hT]
      exact h m hfr
    refine T_M_degreesBy_48 _ _ _ _ _ _ (bb (fun q => done (fun e he => cn_no l (fun x hx => by have := h6 x hx; omega))) (fun q => bb (fun q2 => done (low_full d l h1 (by omega))) (fun q2 => ?_)))
    have e221 := hfr 221 (by omega)
    have e239 := hfr 239 (by omega)
    refine c_M_toPrime H hP hD (by rw [e221]; exact hm) (by rw [e221]; exact hmd) (by rw [e239]; exact hw) hs (fun m1 f1 s1 j1 => ?_)
    rw [e239, ← hM] at j1
    have fr1 : ∀ i : Nat, i < 240 ∨ 245 < i → m1 i = m0 i := fun i hi => by rw [f1 i (by omega) (by omega) (by omega) (by omega)]; exact hfr i hi
    have jx : jd co P M (mo mk 1 1 ^ (P ^ d) - pR mk 7 (m1 240)) := by
      have := jd_pw H hj P
      rw [← rpow_mul, ← Nat.pow_succ, show (d - 1).succ = d from by omega] at this
      exact jd_tr H this j1
    have go := l_M_db70 (n := (D : Int)) (z := num L) (f := (lsum L : Nat)) (d := (d : Int)) (m := m1) (K := K) ?_ 7 0 (by decide) (by decide)
    · rwa [wr_0, wr_0] at go
    · have i243 : isL 243 7 := ⟨by decide +kernel, by decide +kernel⟩
      have i245 : isL 245 7 := ⟨by decide +kernel, by decide +kernel⟩
      have v1 : wr (wr m1 245 7 (m1 239)) 243 7 (m1 240) 243 1 = m1 240 1 := wr_in (by decide) (by decide)
      have ep : wr (wr m1 245 7 (m1 239)) 243 7 (m1 240) 221 25 = P := by rw [wr_ne (by decide), wr_ne (by decide), fr1 221 (by omega)]; exact hm
      have r1 := s1.1 1 (by decide) (by decide)
      refine T_M_degreesBy_70 _ _ _ _ _ _ _ (bt (by decide) ⟨⟨by decide, by decide⟩, ?_⟩)
      rw [v1, ep, w64_id (z := m1 240 1 + P) (by omega) (by omega), w64_id (z := m1 240 1 + P - 1) (by omega) (by omega), wr_up (by decide) (by decide), Int.tmod_eq_emod_of_nonneg (by omega)]
      refine ⟨by omega, ⟨by decide, by decide⟩, ?_⟩
      have e245 : ∀ y : Int, 0 ≤ y → y < 7 → wr (wr m1 245 7 (m1 239)) 243 7 (upf (m1 240) 1 ((m1 240 1 + P - 1) % P)) 245 y = m0 239 y := fun y y0 y1 => by rw [wr_ne (by decide), wr_in y0 y1, fr1 239 (by omega)]
      have e243 : ∀ y : Int, 0 ≤ y → y < 7 → wr (wr m1 245 7 (m1 239)) 243 7 (upf (m1 240) 1 ((m1 240 1 + P - 1) % P)) 243 y = if y = 1 then (m1 240 1 + P - 1) % P else m1 240 y := fun y y0 y1 => by
        rw [wr_in y0 y1]
        rfl
      have d245 : dg (wr (wr m1 245 7 (m1 239)) 243 7 (upf (m1 240) 1 ((m1 240 1 + P - 1) % P)) 245) = (D : Int) := dg_of ⟨by omega, by omega⟩ (by rw [e245 _ (by omega) (by omega)]; exact hw.2.1) (fun y y0 y1 => by rw [e245 y (by omega) y1]; exact hw.2.2 y y0 y1)
      refine c_M_commonBy H hP (a := 245) (b := 243) i245 i243 (by decide) (by decide) (by decide) (by rw [wr_ne (by decide), wr_ne (by decide), fr1 221 (by omega)]; exact hm) (fun y y0 y1 => by rw [e245 y y0 y1]; exact hw.1 y y0 y1) (fun y y0 y1 => by
        rw [e243 y y0 y1]
        split
        · exact emod_rng (by omega)
        · exact s1.1 y y0 y1) (by rw [d245]; omega) (fun m2 f2 r2 d2 hg => ?_)
      have gg : gcdp co P (pR mk 7 (m2 245)) M (pR mk 7 (m1 240) - mo mk 1 1) := gcdp_cg H hg (by rw [show ∀ a : R, a - a = 0 from fun a => by grind]; exact dvp_zero H) (by rw [hM]; exact dvp_pR H (fun y y0 y1 => by rw [e245 y y0 (by omega)]; exact ⟨0, by omega⟩)) (fun k => by
        rw [co_sub H, co_sub H, co_pR H, co_pR H, co_mo H]
        by_cases w : k < 7
        · rw [if_pos w, if_pos w, e243 _ (by omega) (by omega)]
          by_cases z : k = 1
          · subst z
            rw [if_pos rfl, if_pos (show ((1 : Nat) : Int) = 1 from rfl)]
            have c1 := emod_dvd (m1 240 1 + P - 1) P
            have c2 := Int.dvd_sub (Int.dvd_refl (P : Int)) c1
            show (P : Int) ∣ (m1 240 1 + P - 1) % P - (m1 240 1 - 1)
            rwa [show (P : Int) - (m1 240 1 + P - 1 - (m1 240 1 + P - 1) % P) = (m1 240 1 + P - 1) % P - (m1 240 1 - 1) from by omega] at c2
          · rw [if_neg z, if_neg (by omega)]
            exact ⟨0, by omega⟩
        · rw [if_neg w, if_neg w, if_neg (by omega)]
          exact ⟨0, by omega⟩)
      have tG := dg_tpp H r2 d2
      obtain ⟨l1, l2, c', hq, b1, b2, b3, b4, _, _, _, _, _⟩ := part_step H hP.1 hc hir hpw hl jx gg tG
      have hb : bs d (l.map (fun x => x.2)) = sumd l1 := bs_parts b1 b2 b3
      rw [dv_split hd] at hb
      have hbl : bs d L = bs d (low d l) := bs_perm d hL
      have rr := dg_rng (m2 245)
      have sd1 : sumd l1 ≤ D := by
        have := sumd_perm b1
        rw [sumd_app] at this
        omega
      have fr2 : ∀ i : Nat, i < 240 ∨ 245 < i → m2 i = m0 i := fun i hi => by rw [f2 i (by omega) (by omega), wr_ne (by omega), wr_ne (by omega)]; exact fr1 i hi
      refine c_M_before (by omega) ht (by omega) (by omega) ?_
      have ek : w32 (dg (m2 245) - ((bs d L : Nat) : Int)) = ((d * cn d l : Nat) : Int) := by
        rw [w32_id (by omega) (by omega)]
        omega
      rw [ek]
      have st := low_step d l
      have sl := lsum_perm st
      have lrep : ∀ (k : Nat) (L : List Nat), lsum (List.replicate k d ++ L) = d * k + lsum L := by
        intro k
        induction k with
        | zero => intro L; show lsum L = d * 0 + lsum L; omega
        | succ k ihk =>
          intro L
          show d + lsum (List.replicate k d ++ L) = _
          rw [ihk L, Nat.mul_add]
          omega
      rw [lrep] at sl
      have lb2 := low_sum (d + 1) l
      have e163 := l_M_db163 (d := d) (k := cn d l) ⟨hd, by omega⟩ (by omega) (n := (D : Int)) (m := m2) (K := K) (cn d l) L (lsum L) (Nat.le_refl _) (by omega) (by omega) ht ?_
      · rw [Nat.sub_self] at e163
        exact e163
      · have hp : (List.replicate (cn d l) d ++ L).Perm (low (d + 1) l) := (hL.append_left _).trans st.symm
        have es : lsum L + d * cn d l = lsum (List.replicate (cn d l) d ++ L) := by rw [lrep]; omega
        rw [es]
        have e240 : m2 240 = m1 240 := by rw [f2 240 (by decide) (by decide), wr_ne (by decide), wr_ne (by decide)]
        refine ih (d + 1) _ m2 (by omega) (by omega) fr2 (by rw [e240]; exact s1) (by rw [e240, show d + 1 - 1 = d from by omega]; exact jx) hp ?_
        rw [← rep_num, ← hT]
        show _ = tyG (fun e => cn e l) r (rep ((6 - r : Nat) : Int) (cn (6 - r) l) (num L))
        rw [e6r]
theorem l_M_db7 {D : Int} {m : rz_M} {K : Int → rz_M → Prop} (h : rz_E y_M_degreesBy 7 [rR 221, rI D, rI 0, rI 0, rI 7, rX 0, rX 0, rX 0] [] (wr m 240 7 (fun y => if y = 1 then 1 else 0)) K) : ∀ (r : Nat) (j : Int), 7 - j = r → 0 ≤ j → rz_E y_M_degreesBy 7 [rR 221, rI D, rI 0, rI 0, rI j, rX 0, rX 0, rX 0] [] (wr m 240 j (fun y => if y = 1 then 1 else 0)) K
  | 0, j, hr, hj => by
    have e : j = 7 := by omega
    subst e
    exact h
  | r + 1, j, hr, hj => by
    refine T_M_degreesBy_7 _ _ _ _ _ _ (bf (by omega) ?_)
    rw [w32_id (by omega) (by omega)]
    refine bb (fun q => ⟨⟨hj, by omega⟩, ?_⟩) (fun q => ⟨⟨hj, by omega⟩, ?_⟩)
    · rw [wr_succ hj (by rw [if_neg q])]
      exact l_M_db7 h r (j + 1) (by omega) (by omega)
    · rw [wr_succ hj (by rw [if_pos (Classical.not_not.mp q)])]
      exact l_M_db7 h r (j + 1) (by omega) (by omega)
theorem c_M_degreesBy [Lean.Grind.CommRing R] {co : R → Nat → Int} {mk : Nat → (Nat → Int) → R} (H : PolyR co mk) {P : Nat} (hP : okP P) {D : Nat} (hD : 1 ≤ D ∧ D ≤ 6) {m : rz_M} (hm : m 221 25 = P) (hmd : m 221 27 = D) (hw : mdOK (m 239) P D) {c : R} {l : List (R × Nat)} (hc : tpp co P c 0) (hir : ∀ x ∈ l, irp co P x.1 x.2) (hpw : l.Pairwise (fun x y => ¬ jd co P x.1 y.1 ∧ ¬ jd co P y.1 x.1)) (hl : dvp co P (pR mk 7 (m 239) - c * prd l)) (hls : sumd l = D) {K : Int → rz_M → Prop} (h : ∀ m' : rz_M, (∀ i : Nat, i < 240 ∨ 245 < i → m' i = m i) → K (tyG (fun e => cn e l) 6 0) m') : rz_C y_M_degreesBy [rR 221, rI D] m K := by
  have p2 := hP.1.1
  refine T_M_degreesBy_0 _ _ _ ?_
  have l7 := l_M_db7 (D := (D : Int)) (m := m) (K := K) ?_ 7 0 (by decide) (by decide)
  · rwa [wr_0] at l7
  · have e240 : ∀ y : Int, 0 ≤ y → y < 7 → wr m 240 7 (fun y => if y = 1 then 1 else 0) 240 y = if y = 1 then 1 else 0 := fun y y0 y1 => wr_in y0 y1
    have fr : ∀ i : Nat, i < 240 ∨ 245 < i → wr m 240 7 (fun y => if y = 1 then 1 else 0) i = m i := fun i hi => wr_ne (by omega)
    refine T_M_degreesBy_7 _ _ _ _ _ _ (bt (by decide) (bb (fun q => ?_) (fun q => ?_)))
    · have go := l_M_db48 H hP (D := D) ⟨by omega, hD.2⟩ (m0 := m) rfl hm hmd hw hc hir hpw hl hls (K := K) h 6 1 [] (wr m 240 7 (fun y => if y = 1 then 1 else 0)) (by decide) (by decide) fr ⟨fun y y0 y1 => by rw [e240 y y0 y1]; split <;> omega, fun y y0 y1 => by rw [e240 y (by omega) y1, if_neg (by omega)]⟩ ?_ ?_ rfl
      · exact go
      · have ex : pR mk 7 (wr m 240 7 (fun y => if y = 1 then 1 else 0) 240) = mo mk 1 1 := pR_x1 H (by rw [e240 1 (by decide) (by decide), if_pos rfl]) (fun y y0 y1 y2 => by rw [e240 y y0 y1, if_neg y2])
        rw [ex, Nat.sub_self, Nat.pow_zero, Lean.Grind.Semiring.pow_one]
        exact jd_rf H _ _
      · have : low 1 l = [] := by
          have : ∀ l : List (R × Nat), (∀ x ∈ l, 1 ≤ x.2) → low 1 l = [] := by
            intro l
            induction l with
            | nil => intro _; rfl
            | cons x l ih =>
              intro hh
              show (if x.2 < 1 then x.2 :: low 1 l else low 1 l) = []
              have := hh x (by simp)
              rw [if_neg (by omega), ih (fun y hy => hh y (by simp [hy]))]
          exact this l (fun x hx => (hir x hx).1)
        rw [this]
    · have hD1 : D = 1 := by omega
      have hT : tyG (fun e => cn e l) 6 0 = 1 := by
        cases l with
        | nil =>
          have : (0 : Nat) = D := hls
          omega
        | cons x l =>
          have a1 := (hir x (by simp)).1
          have a2 : x.2 + sumd l = D := hls
          have hx : x.2 = 1 := by omega
          have hl0 : l = [] := by
            cases l with
            | nil => rfl
            | cons y l =>
              have b1 := (hir y (by simp)).1
              have b2 : sumd (y :: l) = y.2 + sumd l := rfl
              omega
          subst hl0
          rw [tyG_1 (D := 1) 6 0 (by decide) (by decide) (by decide) ?_ (fun e _ _ e1 => ?_)]
          · rfl
          · show (if x.2 = 1 then 1 else 0) + 0 = 1
            rw [if_pos hx]
          · show (if x.2 = e then 1 else 0) + 0 = 0
            rw [if_neg (by omega)]
      have := h _ fr
      rwa [hT] at this
theorem tmod2 {P c : Int} (hP : 0 < P) : Int.tmod (Int.tmod c P + P) P = c % P := by
  have e := Int.mul_tdiv_add_tmod c P
  have l2 := Int.lt_tmod_of_pos c hP
  rw [Int.tmod_eq_emod_of_nonneg (by omega)]
  have : c % P = (Int.tmod c P + P + P * (Int.tdiv c P - 1)) % P := by
    congr 1
    rw [Int.mul_sub]
    omega
  rw [this, Int.add_mul_emod_self_left]
theorem l_M_ty15 {P : Nat} (hP : okP P) {r n : Int} (hr : 0 ≤ r ∧ r < 10) {m : rz_M} (hm : m 221 25 = P) {K : Int → rz_M → Prop} (h : rz_E y_M_typeBy 15 [rR 221, rI r, rX 0, rI n, rI 7] [] (wr m 239 7 (fmP P (rwM m r))) K) : ∀ (d : Nat) (j : Int), 7 - j = d → 0 ≤ j → rz_E y_M_typeBy 15 [rR 221, rI r, rX 0, rI n, rI j] [] (wr m 239 j (fmP P (rwM m r))) K
  | 0, j, hd, hj => by
    have e : j = 7 := by omega
    subst e
    exact h
  | d + 1, j, hd, hj => by
    have p2 := hP.1.1
    have p3 := hP.2
    refine T_M_typeBy_15 _ _ _ _ _ (bf (by omega) ?_)
    rw [w32_id (z := 7 * r) (by omega) (by omega), w32_id (z := 7 * r + j) (by omega) (by omega), w32_id (z := j + 1) (by omega) (by omega), wr_ne (x := 221) (by decide), hm, wr_ne (x := 222) (by decide)]
    have l1 := Int.tmod_lt_of_pos (m 222 (7 * r + j)) (show (0 : Int) < P by omega)
    have l2 := Int.lt_tmod_of_pos (m 222 (7 * r + j)) (show (0 : Int) < P by omega)
    rw [w64_id (by omega) (by omega), tmod2 (by omega), wr_succ hj (show m 222 (7 * r + j) % P = fmP P (rwM m r) j from rfl)]
    exact ⟨⟨by omega, by omega⟩, by omega, by omega, ⟨hj, by omega⟩, l_M_ty15 hP hr hm h d (j + 1) (by omega) (by omega)⟩
def drP (P : Int) (f : Int → Int) : Int → Int := fun y => if y < 6 then f (y + 1) * (y + 1) % P else 0
theorem l_M_ty83 {P : Nat} (hP : okP P) {n : Int} {m : rz_M} (hm : m 221 25 = P) (hw : rng (m 239) 7 P) {K : Int → rz_M → Prop} (h : rz_E y_M_typeBy 83 [rR 221, rX 0, rX 0, rI n, rI 7] [] (wr (wr m 245 7 (m 239)) 243 7 (drP P (m 239))) K) : ∀ (d : Nat) (j : Int), 7 - j = d → 0 ≤ j → rz_E y_M_typeBy 83 [rR 221, rX 0, rX 0, rI n, rI j] [] (wr (wr m 245 j (m 239)) 243 j (drP P (m 239))) K
  | 0, j, hd, hj => by
    have e : j = 7 := by omega
    subst e
    exact h
  | d + 1, j, hd, hj => by
    have p2 := hP.1.1
    have p3 := hP.2
    have e1 : wr (wr m 245 j (m 239)) 243 j (drP P (m 239)) 239 = m 239 := by rw [wr_ne (by decide), wr_ne (by decide)]
    have e2 : wr (wr m 245 j (m 239)) 243 j (drP P (m 239)) 221 = m 221 := by rw [wr_ne (by decide), wr_ne (by decide)]
    have sw : ∀ v : Int, v = drP P (m 239) j → rz_up (rz_up (wr (wr m 245 j (m 239)) 243 j (drP P (m 239))) 245 j (m 239 j)) 243 j v = wr (wr m 245 (j + 1) (m 239)) 243 (j + 1) (drP P (m 239)) := by
      intro v hv
      rw [← wr_succ (m := wr m 245 (j + 1) (m 239)) hj hv, ← wr_succ (m := m) hj (show m 239 j = m 239 j from rfl)]
      congr 1
      funext x y
      unfold rz_up wr
      by_cases q : x = 245 ∧ y = j
      · rw [if_pos q, if_neg (by omega)]
        exact (if_pos q).symm
      · rw [if_neg q]
        by_cases z : x = 243 ∧ 0 ≤ y ∧ y < j
        · rw [if_pos z, if_pos z]
        · rw [if_neg z, if_neg z]
          exact (if_neg q).symm
    refine T_M_typeBy_83 _ _ _ _ (bf (by omega) ⟨⟨hj, by omega⟩, ⟨hj, by omega⟩, ?_⟩)
    rw [e1, w32_id (z := j + 1) (by omega) (by omega)]
    refine bb (fun q => ⟨⟨hj, by omega⟩, T_M_typeBy_145 _ _ _ _ ?_⟩) (fun q => ⟨⟨by omega, by omega⟩, ?_, ⟨hj, by omega⟩, T_M_typeBy_145 _ _ _ _ ?_⟩)
    · rw [sw 0 (by unfold drP; rw [if_neg (by omega)])]
      exact l_M_ty83 hP hm hw h d (j + 1) (by omega) (by omega)
    · rw [e2, hm]; omega
    · have r1 := hw (j + 1) (by omega) (by omega)
      have b1 : m 239 (j + 1) * (j + 1) ≤ m 239 (j + 1) * 7 := Int.mul_le_mul_of_nonneg_left (by omega) r1.1
      have b0 : 0 ≤ m 239 (j + 1) * (j + 1) := Int.mul_nonneg r1.1 (by omega)
      rw [e2, hm, w64_id (by omega) (by omega), sw _ (by unfold drP; rw [if_pos (by omega), Int.tmod_eq_emod_of_nonneg b0])]
      exact l_M_ty83 hP hm hw h d (j + 1) (by omega) (by omega)
theorem c_M_typeBy [Lean.Grind.CommRing R] {co : R → Nat → Int} {mk : Nat → (Nat → Int) → R} (H : PolyR co mk) {P : Nat} (hP : okP P) {r : Int} (hr : 0 ≤ r ∧ r < 10) {m : rz_M} (hd : 1 ≤ dg (rwM m r)) {z : Int} (hz : TyS co mk P (rwM m r) z) {K : Int → rz_M → Prop} (h : ∀ m' : rz_M, scM m m' → K z m') : rz_C y_M_typeBy [rR 221, rI r, rI P] m K := by
  have p2 := hP.1.1
  have p3 := hP.2
  have rd := dg_rng (rwM m r)
  have erw : rwM (rz_up m 221 25 P) r = rwM m r := by unfold rwM; rw [up_ne (by decide)]
  refine T_M_typeBy_0 _ _ _ _ (c_M_degreeOf hr ?_)
  rw [erw]
  have go := l_M_ty15 (m := rz_up m 221 25 P) hP hr (n := dg (rwM m r)) up_eq (K := K) ?_ 7 0 (by decide) (by decide)
  · rwa [wr_0] at go
  · rw [erw]
    generalize hA : rwM m r = A at hz hd rd ⊢
    have e239 : ∀ y : Int, 0 ≤ y → y < 7 → wr (rz_up m 221 25 P) 239 7 (fmP P A) 239 y = A y % P := fun y y0 y1 => wr_in y0 y1
    have sc1 : scM m (wr (rz_up m 221 25 P) 239 7 (fmP P A)) := ⟨fun i hi => by rw [wr_ne (by omega), up_ne (by omega)], fun y a b => by rw [wr_ne (by decide), up_nj a]⟩
    have c239 : dvp co P (pR mk 7 (wr (rz_up m 221 25 P) 239 7 (fmP P A) 239) - pR mk 7 A) := dvp_pR H (fun y y0 y1 => by
      rw [e239 y y0 (by omega)]
      have := Int.dvd_neg.mpr (emod_dvd (A y) P)
      rwa [show -(A y - A y % P) = A y % P - A y from by omega] at this)
    refine T_M_typeBy_15 _ _ _ _ _ (bt (by decide) ⟨⟨by omega, by omega⟩, ?_⟩)
    rw [e239 _ (by omega) (by omega)]
    rcases hz with ⟨z1, z2⟩ | ⟨z1, Df, G, e, iD, gG, tG, hcase⟩
    · refine bf (fun q => q (Int.emod_eq_zero_of_dvd z1)) ?_
      have := h _ sc1
      rwa [z2] at this
    · refine bt (fun q => z1 (Int.dvd_of_emod_eq_zero q)) ?_
      -- the one at hand
      generalize hM1 : rz_up (wr (rz_up m 221 25 P) 239 7 (fmP P A)) 221 27 (dg A) = M1
      have eM239 : M1 239 = wr (rz_up m 221 25 P) 239 7 (fmP P A) 239 := by rw [← hM1]; exact up_ne (by decide)
      have eMp : M1 221 25 = P := by rw [← hM1, up_nj (by decide), wr_ne (by decide)]; exact up_eq
      have eMd : M1 221 27 = dg A := by rw [← hM1]; exact up_eq
      have scM1 : scM m M1 := ⟨fun i hi => by rw [← hM1, up_ne (by omega)]; exact sc1.1 i hi, fun y a b => by rw [← hM1, up_nj b]; exact sc1.2 y a b⟩
      have r239 : rng (M1 239) 7 P := fun y y0 y1 => by rw [eM239, e239 y y0 y1]; exact emod_rng (by omega)
      have wM : mdOK (M1 239) P (dg A) := ⟨r239, by rw [eM239, e239 _ (by omega) (by omega)]; exact fun q => z1 (Int.dvd_of_emod_eq_zero q), fun y y0 y1 => by rw [eM239, e239 y (by omega) y1, dgk_top A 7 y y0 (by omega), Int.zero_emod]⟩
      have g2 := l_M_ty83 (n := dg A) hP eMp r239 (K := K) ?_ 7 0 (by decide) (by decide)
      · rwa [wr_0, wr_0] at g2
      · have i243 : isL 243 7 := ⟨by decide +kernel, by decide +kernel⟩
        have i245 : isL 245 7 := ⟨by decide +kernel, by decide +kernel⟩
        have e245 : ∀ y : Int, 0 ≤ y → y < 7 → wr (wr M1 245 7 (M1 239)) 243 7 (drP P (M1 239)) 245 y = M1 239 y := fun y y0 y1 => by rw [wr_ne (by decide), wr_in y0 y1]
        have e243 : ∀ y : Int, 0 ≤ y → y < 7 → wr (wr M1 245 7 (M1 239)) 243 7 (drP P (M1 239)) 243 y = drP P (M1 239) y := fun y y0 y1 => wr_in y0 y1
        have d245 : dg (wr (wr M1 245 7 (M1 239)) 243 7 (drP P (M1 239)) 245) = dg A := dg_of ⟨by omega, by omega⟩ (by rw [e245 _ (by omega) (by omega)]; exact wM.2.1) (fun y y0 y1 => by rw [e245 y (by omega) y1]; exact wM.2.2 y y0 y1)
        refine T_M_typeBy_83 _ _ _ _ (bt (by decide) (c_M_commonBy H hP (a := 245) (b := 243) i245 i243 (by decide) (by decide) (by decide) (by rw [wr_ne (by decide), wr_ne (by decide)]; exact eMp) (fun y y0 y1 => by rw [e245 y y0 y1]; exact r239 y y0 y1) (fun y y0 y1 => by
          rw [e243 y y0 y1]
          unfold drP
          split
          · exact emod_rng (by omega)
          · exact ⟨Int.le_refl _, by omega⟩) (by rw [d245]; omega) (fun m2 f2 r2 d2 hg => ?_)))
        have fr2 : ∀ i : Nat, i < 240 ∨ 245 < i → m2 i = M1 i := fun i hi => by rw [f2 i (by omega) (by omega), wr_ne (by omega), wr_ne (by omega)]
        have sc2 : scM m m2 := scM_of scM1 fr2
        have c1 : dvp co P (pR mk 7 (M1 239) - pR mk 7 A) := by rw [eM239]; exact c239
        have iD2 : isD co P (pR mk 7 (drP P (M1 239))) (pR mk 7 (M1 239)) := fun k => by
          rw [co_pR H, co_pR H]
          by_cases w : k < 7
          · rw [if_pos w]
            unfold drP
            by_cases w2 : (k : Int) < 6
            · rw [if_pos w2, if_pos (by omega), show ((k + 1 : Nat) : Int) = (k : Int) + 1 from by omega]
              have := Int.dvd_neg.mpr (emod_dvd (M1 239 ((k : Int) + 1) * ((k : Int) + 1)) P)
              rwa [show -(M1 239 ((k : Int) + 1) * ((k : Int) + 1) - M1 239 ((k : Int) + 1) * ((k : Int) + 1) % P) = M1 239 ((k : Int) + 1) * ((k : Int) + 1) % P - ((k : Int) + 1) * M1 239 ((k : Int) + 1) from by rw [Int.mul_comm ((k : Int) + 1)]; omega] at this
            · rw [if_neg w2, if_neg (by omega), Int.mul_zero]
              exact ⟨0, by omega⟩
          · rw [if_neg w, if_neg (by omega), Int.mul_zero]
            exact ⟨0, by omega⟩
        have cD := isD_cg H iD2 iD c1
        have gA : gcdp co P (pR mk 7 (m2 245)) (pR mk 7 A) Df := gcdp_cg H hg (by rw [show ∀ a : R, a - a = 0 from fun a => by grind]; exact dvp_zero H) (by
          rw [pR_congr H (f := wr (wr M1 245 7 (M1 239)) 243 7 (drP P (M1 239)) 245) (g := M1 239) (fun y y0 y1 => e245 y y0 (by omega))]
          exact c1) (by
          rw [pR_congr H (f := wr (wr M1 245 7 (M1 239)) 243 7 (drP P (M1 239)) 243) (g := drP P (M1 239)) (fun y y0 y1 => e243 y y0 (by omega))]
          exact cD)
        have ee := gcdp_top H hP.1 gG gA tG (dg_tpp H r2 d2)
        rcases hcase with ⟨e0, z2⟩ | ⟨e0, c, l, hc, hir, hpw, hl, hls, z2⟩
        · refine bf (by omega) ?_
          have := h m2 sc2
          rwa [z2] at this
        · refine bt (by omega) ?_
          have em239 : m2 239 = M1 239 := fr2 239 (by omega)
          have em221 : m2 221 = M1 221 := fr2 221 (by omega)
          have eD : dg A = (((dg A).toNat : Nat) : Int) := by omega
          rw [eD]
          refine c_M_degreesBy H hP (D := (dg A).toNat) ⟨by omega, by omega⟩ (by rw [em221]; exact eMp) (by rw [em221, eMd]; exact eD) (by rw [em239, ← eD]; exact wM) hc hir hpw (by
            rw [em239]
            have := dvp_add H c1 hl
            rwa [show ∀ W A C : R, W - A + (A - C) = W - C from fun W A C => by grind] at this) hls (fun m' f' => ?_)
          have := h m' (scM_of sc2 f')
          rwa [z2] at this
end
