/-! the reference: a trial is taken out as often as it is there -/
def elM (m : rz_M) (k : Nat) : E3 := (cutf (fun y => m 225 (7 * (k : Int) + y)), m 226 k, m 227 k)
def mtl (m : rz_M) : List E3 := (List.range (m 221 9).toNat).map (elM m)
theorem elM_of {m : rz_M} {k : Nat} {f : Int → Int} {d e : Int} (h1 : ∀ y : Int, 0 ≤ y → y < 7 → m 225 (7 * (k : Int) + y) = f y) (h2 : m 226 k = d) (h3 : m 227 k = e) : elM m k = (cutf f, d, e) := by
  unfold elM
  rw [h2, h3]
  congr 1
  exact canon_ext (cutf_canon _) (cutf_canon _) (fun y y0 y1 => by rw [cutf_in y0 y1, cutf_in y0 y1]; exact h1 y y0 y1)
theorem mtl_eq {m m' : rz_M} (h : m' 221 9 = m 221 9) (h1 : m' 225 = m 225) (h2 : m' 226 = m 226) (h3 : m' 227 = m 227) : mtl m' = mtl m := by
  unfold mtl
  rw [h]
  refine List.map_congr_left (fun k _ => ?_)
  unfold elM
  rw [h1, h2, h3]
theorem l_M_to52 {d c e : Int} (hd : 1 ≤ d ∧ d ≤ 6) (hc : 0 ≤ c ∧ c ≤ 5) {m0 : rz_M} (ec : m0 221 9 = c) {g : Int → Int} (hg0 : ∀ y : Int, 0 ≤ y → y ≤ d → m0 228 y = g y) (hgz : ∀ k : Int, d < k → k < 7 → g k = 0) {G : Int} (hg : ∀ y : Int, 0 ≤ y → y ≤ d → bd (g y) G) (hG : G ≤ 1000000000) {K : Int → rz_M → Prop} (h : ∀ m' : rz_M, (∀ i, i ≠ 225 → m' i = m0 i) → (∀ y : Int, 0 ≤ y → y < 7 → m' 225 (7 * c + y) = g y) → (∀ y : Int, y < 7 * c → m' 225 y = m0 225 y) → K 1 (rz_up (rz_up (rz_up m' 226 c d) 227 c e) 221 9 (c + 1))) : ∀ (r : Nat) (k : Int) (m : rz_M), 7 - k = r → 0 ≤ k → (∀ i, i ≠ 225 → m i = m0 i) → (∀ y : Int, 0 ≤ y → y < k → m 225 (7 * c + y) = g y) → (∀ y : Int, y < 7 * c → m 225 y = m0 225 y) → rz_E y_M_takesOut 52 [rR 221, rI d, rI e, rL 1, rX 1, rI k] [] m K
  | 0, k, m, hr, k0, hf, h1, h2 => by
    refine T_M_takesOut_52 _ _ _ _ _ _ (bt (by omega) ?_)
    rw [hf 221 (by decide), ec, w32_id (by omega) (by omega)]
    exact ⟨⟨hc.1, by omega⟩, ⟨hc.1, by omega⟩, bt (by decide) (h m hf (fun y y0 y1 => h1 y y0 (by omega)) h2)⟩
  | r + 1, k, m, hr, k0, hf, h1, h2 => by
    refine T_M_takesOut_52 _ _ _ _ _ _ (bf (by omega) ?_)
    rw [hf 221 (by decide), hf 228 (by decide), ec, w32_id (z := 7 * c) (by omega) (by omega), w32_id (z := 7 * c + k) (by omega) (by omega), w32_id (z := k + 1) (by omega) (by omega)]
    refine bb (fun q => ⟨⟨by omega, by omega⟩, ?_⟩) (fun q => ⟨⟨k0, by omega⟩, ⟨by omega, by omega⟩, ?_⟩)
    · refine l_M_to52 hd hc ec hg0 hgz hg hG h r (k + 1) _ (by omega) (by omega) (fun i hi => by rw [up_ne hi]; exact hf i hi) (fun y y0 y1 => ?_) (fun y hy => by rw [up_nj (by omega)]; exact h2 y hy)
      by_cases w : y = k
      · rw [w, up_eq]; exact (hgz k q (by omega)).symm
      · rw [up_nj (by omega)]; exact h1 y y0 (by omega)
    · rw [hg0 k k0 (by omega)]
      have b := hg k k0 (by omega)
      unfold bd at b
      rw [w64_id (z := 1 * g k) (by omega) (by omega), Int.one_mul]
      refine l_M_to52 hd hc ec hg0 hgz hg hG h r (k + 1) _ (by omega) (by omega) (fun i hi => by rw [up_ne hi]; exact hf i hi) (fun y y0 y1 => ?_) (fun y hy => by rw [up_nj (by omega)]; exact h2 y hy)
      by_cases w : y = k
      · rw [w, up_eq]
      · rw [up_nj (by omega)]; exact h1 y y0 (by omega)
section
variable {R : Type}
/-- the state of the reference while factors are taken out -/
def mI [Lean.Grind.CommRing R] (co : R → Nat → Int) (mk : Nat → (Nat → Int) → R) (m0 m : rz_M) (A : R) (n : Int) : Prop :=
  (∀ i : Nat, (i < 221 ∨ i = 222 ∨ i = 223 ∨ 230 < i) → m i = m0 i) ∧ (∀ y : Int, y ≠ 5 → y ≠ 9 → m 221 y = m0 221 y) ∧ m 221 5 = n ∧ core co mk (m 224) n ∧ (0 ≤ m 221 9 ∧ m 221 9 + n ≤ 6) ∧ A = pR mk 7 (m 224) * prodL mk (mtl m) ∧ (∀ x ∈ mtl m, elOK co mk x ∧ ¬ zd (pR mk 7 x.1) (pR mk 7 (m 224))) ∧ (mtl m).Pairwise (fun x y => x.1 ≠ y.1)
theorem c_M_takesOut [Lean.Grind.CommRing R] {co : R → Nat → Int} {mk : Nat → (Nat → Int) → R} (H : PolyR co mk) {m0 m : rz_M} {A : R} {n d : Int} (hI : mI co mk m0 m A n) {g : Int → Int} (hg0 : ∀ y : Int, 0 ≤ y → y ≤ d → m 228 y = g y) (hg : gOK mk (m 224) g d) {G : Int} (hG : 0 ≤ G ∧ G ≤ 1000000000) (hgb : ∀ y : Int, 0 ≤ y → y ≤ d → bd (g y) G) (hGW : ∀ nn : Int, d ≤ nn → nn ≤ n → tbn nn * (1 + G) ^ (nn - d + 1).toNat ≤ 4000000000000000000) (hir : zd (pR mk 7 g) (pR mk 7 (m 224)) → irz co (pR mk 7 g) d.toNat) {K : Int → rz_M → Prop}
    (h : ∀ (r : Int) (m' : rz_M) (n' : Int), mI co mk m0 m' A n' → m' 228 = m 228 → zd (pR mk 7 (m' 224)) (pR mk 7 (m 224)) → ¬ zd (pR mk 7 g) (pR mk 7 (m' 224)) → (g 0 = 0 → hB (m 224) 100 → hB (m' 224) 100) → (r = 0 ∧ n' = n ∧ pR mk 7 (m' 224) = pR mk 7 (m 224) ∨ r = 1 ∧ n' ≤ n - d) → K r m') : rz_C y_M_takesOut [rR 221, rI d] m K := by
  obtain ⟨I1, I2, I3, I5, I6, I7, I8, I9⟩ := hI
  obtain ⟨⟨d1, d6⟩, gd, gz, gl, g0⟩ := hg
  have n0n := I5.1
  have tg := row_tz H (g := g) (d := d) ⟨by omega, by omega⟩ (by omega) gz
  -- the end, when nothing more goes
  have fin : ∀ (r : Nat) (M : rz_M) (nn : Int), r ≤ 6 → (∀ i : Nat, i ≠ 221 → i ≠ 224 → i ≠ 229 → i ≠ 230 → M i = m i) → (∀ y : Int, y ≠ 5 → M 221 y = m 221 y) → M 221 5 = nn → nn = n - d * r → core co mk (M 224) nn → pR mk 7 (m 224) = pR mk 7 g ^ r * pR mk 7 (M 224) → (g 0 = 0 → hB (m 224) 100 → hB (M 224) 100) → ¬ zd (pR mk 7 g) (pR mk 7 (M 224)) → rz_E y_M_takesOut 24 [rR 221, rI d, rI r, rX 0, rX 0, rX 0] [] M K := by
    intro r M nn hr6 hf hf1 h5 hnn hcM eM hz nd
    have zdM : zd (pR mk 7 (M 224)) (pR mk 7 (m 224)) := ⟨pR mk 7 g ^ r, by rw [eM]; grind⟩
    have e9 : M 221 9 = m 221 9 := hf1 9 (by decide)
    have eP : mtl M = mtl m := mtl_eq e9 (hf 225 (by decide) (by decide) (by decide) (by decide)) (hf 226 (by decide) (by decide) (by decide) (by decide)) (hf 227 (by decide) (by decide) (by decide) (by decide))
    by_cases r0 : r = 0
    · subst r0
      have enn : nn = n := by rw [hnn]; show n - d * 0 = n; omega
      have e56 : pR mk 7 (M 224) = pR mk 7 (m 224) := by rw [eM, Lean.Grind.Semiring.pow_zero]; grind
      refine T_M_takesOut_24 _ _ _ _ (bf (by decide) (h 0 M n ⟨fun i hi => by rw [hf i (by omega) (by omega) (by omega) (by omega)]; exact I1 i hi, fun y y5 y9 => by rw [hf1 y y5]; exact I2 y y5 y9, by rw [h5, enn], by rw [← enn]; exact hcM, by rw [e9]; exact I6, ?_, ?_, ?_⟩ (hf 228 (by decide) (by decide) (by decide) (by decide)) zdM nd hz (Or.inl ⟨rfl, rfl, e56⟩)))
      · rw [eP, e56]; exact I7
      · rw [eP, e56]; exact I8
      · rw [eP]; exact I9
    · have zg : zd (pR mk 7 g) (pR mk 7 (m 224)) := by
        obtain ⟨t, rfl⟩ : ∃ t, r = t + 1 := ⟨r - 1, by omega⟩
        exact ⟨pR mk 7 g ^ t * pR mk 7 (M 224), by rw [eM, Lean.Grind.Semiring.pow_succ]; grind⟩
      have irr := hir zg
      have n06 := hcM.1
      have drp : d * 1 ≤ d * r := Int.mul_le_mul_of_nonneg_left (by omega) (by omega)
      have r1d : 1 * (r : Int) ≤ d * r := Int.mul_le_mul_of_nonneg_right d1 (by omega)
      have c59 : pR mk 7 (cutf g) = pR mk 7 g := pR_congr H (fun k a b => cutf_in a (by omega))
      obtain ⟨c, hc⟩ : ∃ c : Nat, m 221 9 = c := ⟨(m 221 9).toNat, by omega⟩
      have e228 : M 228 = m 228 := hf 228 (by decide) (by decide) (by decide) (by decide)
      refine T_M_takesOut_24 _ _ _ _ (bt (by omega) ⟨⟨by omega, by omega⟩, ?_⟩)
      rw [e228, hg0 d (by omega) (Int.le_refl _)]
      refine bt (by omega) (l_M_to52 (c := c) (g := g) (m0 := M) ⟨d1, d6⟩ ⟨by omega, by omega⟩ (by rw [e9]; exact hc) (fun y y0 y1 => by rw [e228]; exact hg0 y y0 y1) gz hgb hG.2 (fun M2 f2 v2 o2 => ?_) 7 0 M (by decide) (by decide) (fun _ _ => rfl) (fun y y0 y1 => by omega) (fun _ _ => rfl))
      generalize hM : rz_up (rz_up (rz_up M2 226 c d) 227 c r) 221 9 ((c : Int) + 1) = m'
      have q9 : m' 221 9 = ((c + 1 : Nat) : Int) := by rw [← hM, up_eq]; omega
      have q221 : ∀ y : Int, y ≠ 9 → m' 221 y = M 221 y := fun y hy => by rw [← hM, up_nj hy, up_ne (by decide), up_ne (by decide), f2 221 (by decide)]
      have q225 : m' 225 = M2 225 := by rw [← hM, up_ne (by decide), up_ne (by decide), up_ne (by decide)]
      have q226 : ∀ y : Int, m' 226 y = if y = c then d else m 226 y := fun y => by
        rw [← hM, up_ne (by decide), up_ne (by decide)]
        by_cases w : y = c
        · rw [w, up_eq, if_pos rfl]
        · rw [up_nj w, if_neg w, f2 226 (by decide), hf 226 (by decide) (by decide) (by decide) (by decide)]
      have q227 : ∀ y : Int, m' 227 y = if y = c then (r : Int) else m 227 y := fun y => by
        rw [← hM, up_ne (by decide)]
        by_cases w : y = c
        · rw [w, up_eq, if_pos rfl]
        · rw [up_nj w, if_neg w, up_ne (by decide), f2 227 (by decide), hf 227 (by decide) (by decide) (by decide) (by decide)]
      have qo : ∀ i : Nat, i ≠ 221 → i ≠ 225 → i ≠ 226 → i ≠ 227 → m' i = M i := fun i a b c d => by rw [← hM, up_ne a, up_ne d, up_ne c, f2 i b]
      have e56 : m' 224 = M 224 := qo 224 (by decide) (by decide) (by decide) (by decide)
      have ek : ∀ k : Nat, k < c → elM m' k = elM m k := fun k hk => by
        refine elM_of (fun y y0 y1 => ?_) ?_ ?_
        · rw [q225, o2 _ (by omega), hf 225 (by decide) (by decide) (by decide) (by decide)]
        · rw [q226, if_neg (by omega)]
        · rw [q227, if_neg (by omega)]
      have ec : elM m' c = (cutf g, d, (r : Int)) := elM_of (fun y y0 y1 => by rw [q225]; exact v2 y y0 y1) (by rw [q226, if_pos rfl]) (by rw [q227, if_pos rfl])
      have el : mtl m' = mtl m ++ [(cutf g, d, (r : Int))] := by
        unfold mtl
        rw [q9, hc, Int.toNat_natCast, Int.toNat_natCast, List.range_succ, List.map_append, List.map_cons, List.map_nil, ec]
        congr 1
        exact List.map_congr_left (fun k hk => ek k (List.mem_range.mp hk))
      have okx : elOK co mk ((cutf g, d, (r : Int)) : E3) := ⟨cutf_canon _, d1, d6, by show (1 : Int) ≤ r; omega, by show irz co (pR mk 7 (cutf g)) d.toNat; rw [c59]; exact irr, by show 0 < cutf g d; rw [cutf_in (by omega) (by omega)]; exact gd⟩
      refine h 1 m' nn ⟨fun i hi => by rw [qo i (by omega) (by omega) (by omega) (by omega), hf i (by omega) (by omega) (by omega) (by omega)]; exact I1 i hi, fun y y5 y9 => by rw [q221 y y9, hf1 y y5]; exact I2 y y5 y9, by rw [q221 5 (by decide)]; exact h5, by rw [e56]; exact hcM, ⟨by omega, by omega⟩, ?_, ?_, ?_⟩ ?_ (by rw [e56]; exact zdM) (by rw [e56]; exact nd) (by rw [e56]; exact hz) (Or.inr ⟨rfl, by omega⟩)
      · rw [el, prodL_app, e56, I7, eM]
        show _ = _ * (_ * (pR mk 7 (cutf g) ^ ((r : Int)).toNat * 1))
        rw [c59, Int.toNat_natCast]
        grind
      · intro x hx
        rw [el] at hx
        rw [e56]
        rcases List.mem_append.mp hx with q | q
        · exact ⟨(I8 x q).1, fun z => (I8 x q).2 (zd_tr z zdM)⟩
        · rw [List.mem_singleton.mp q]
          exact ⟨okx, by show ¬ zd (pR mk 7 (cutf g)) _; rw [c59]; exact nd⟩
      · rw [el]
        refine List.pairwise_append.mpr ⟨I9, List.pairwise_singleton _ _, fun x hx y hy e => (I8 x hx).2 ?_⟩
        rw [List.mem_singleton.mp hy] at e
        rw [e]
        show zd (pR mk 7 (cutf g)) _
        rw [c59]
        exact zg
      · rw [qo 228 (by decide) (by decide) (by decide) (by decide)]; exact e228
  have loop : ∀ (t r : Nat) (M : rz_M) (nn : Int), 6 - r = t → r ≤ 6 → (∀ i : Nat, i ≠ 221 → i ≠ 224 → i ≠ 229 → i ≠ 230 → M i = m i) → (∀ y : Int, y ≠ 5 → M 221 y = m 221 y) → M 221 5 = nn → nn = n - d * r → core co mk (M 224) nn → pR mk 7 (m 224) = pR mk 7 g ^ r * pR mk 7 (M 224) → (g 0 = 0 → hB (m 224) 100 → hB (M 224) 100) → rz_E y_M_takesOut 2 [rR 221, rI d, rI r, rX 0, rX 0, rX 0] [] M K := by
    intro t
    have small : ∀ (M : rz_M) (nn : Int), core co mk (M 224) nn → nn < d → ¬ zd (pR mk 7 g) (pR mk 7 (M 224)) := fun M nn hcM hlt z => by
      obtain ⟨q, eq⟩ := z
      obtain ⟨i, j, hi, _, hij⟩ := zd_deg H (core_tz H hcM) eq
      have := tz_uniq hi tg
      have := hcM.1
      omega
    induction t with
    | zero =>
      intro r M nn ht hr hf hf1 h5 hnn hcM eM hz
      have er : r = 6 := by omega
      subst er
      have n06 := hcM.1
      have n6 := I5.1.2
      have d66 : 6 ≤ d * ((6 : Nat) : Int) := by omega
      exact T_M_takesOut_2 _ _ _ _ (bt (by omega) (fin 6 M nn (by decide) hf hf1 h5 hnn hcM eM hz (small M nn hcM (by omega))))
    | succ t ih =>
      intro r M nn ht hr hf hf1 h5 hnn hcM eM hz
      have e228 : M 228 = m 228 := hf 228 (by decide) (by decide) (by decide) (by decide)
      have zdM : zd (pR mk 7 (M 224)) (pR mk 7 (m 224)) := ⟨pR mk 7 g ^ r, by rw [eM]; grind⟩
      have gM : gOK mk (M 224) g d := by
        refine ⟨⟨d1, d6⟩, gd, gz, ?_, ?_⟩
        · rcases gl with q | q
          · exact Or.inl q
          · exact Or.inr (nolin_dv q zdM)
        · rcases g0 with q | ⟨q1, q2, q3⟩
          · exact Or.inl q
          · by_cases w : g 0 = 0
            · exact Or.inr ⟨q1, q2, hz w q3⟩
            · exact Or.inl w
      have n06 := hcM.1
      have dr0 : 0 ≤ d * (r : Int) := Int.mul_nonneg (by omega) (by omega)
      refine T_M_takesOut_2 _ _ _ _ (bb (fun q => fin r M nn hr hf hf1 h5 hnn hcM eM hz (small M nn hcM (by omega))) (fun q => ?_))
      rw [h5] at q
      refine c_M_divides H ⟨d1, d6⟩ n06 h5 hcM.2.2.1 (by have := hcM.2.1; omega) (g := g) (fun y y0 y1 => by rw [e228]; exact hg0 y y0 y1) (by omega) gz hG.1 hgb hcM.2.2.2.1 (hGW nn (by omega) (by omega)) (fun m' f1 f2 e5 e1 z1 hdn => b1t ?_) (fun nd m' f1 => b0t ?_)
      · obtain ⟨cq, sq⟩ := q_row H hcM gM hdn z1 e1
        rw [w32_id (by omega) (by omega), show (r : Int) + 1 = ((r + 1 : Nat) : Int) from by omega]
        refine ih (r + 1) m' (nn - d) (by omega) (by omega) (fun i i1 i2 i3 i4 => by rw [f1 i i1 i2 i3 i4]; exact hf i i1 i2 i3 i4) (fun y hy => by rw [f2 y hy]; exact hf1 y hy) e5 ?_ cq ?_ (fun w0 w1 => sq w0)
        · rw [hnn, show ((r + 1 : Nat) : Int) = (r : Int) + 1 from by omega, Int.mul_add, Int.mul_one]
          omega
        · rw [eM, e1, Lean.Grind.Semiring.pow_succ]
          grind
      · have e56 : m' 224 = M 224 := f1 224 (by decide) (by decide)
        have e221 : m' 221 = M 221 := f1 221 (by decide) (by decide)
        exact fin r m' nn hr (fun i i1 i2 i3 i4 => by rw [f1 i i3 i4]; exact hf i i1 i2 i3 i4) (fun y hy => by rw [e221]; exact hf1 y hy) (by rw [e221]; exact h5) hnn (by rw [e56]; exact hcM) (by rw [e56]; exact eM) (by rw [e56]; exact hz) (by rw [e56]; exact nd)
  exact T_M_takesOut_0 _ _ _ (loop 6 0 m n (by decide) (by decide) (fun _ _ _ _ _ => rfl) (fun _ _ => rfl) I3 (by show n = n - d * 0; omega) I5 (by rw [Lean.Grind.Semiring.pow_zero]; grind) (fun _ q => q))
end
