/-! PrimeView: products and powers by a prime and by one that ends with 1 -/
def bd (x A : Int) : Prop := -A ≤ x ∧ x ≤ A
theorem apI_ex {L : Int} {f g acc : Int → Int} {i M S : Int} (hS : ∀ y : Int, 0 ≤ y → y < L → bd (acc y) S) (hL : S + M < 9000000000000000000) : ∀ n : Nat, (∀ j : Int, 0 ≤ j → j < n → bd (f i * g j) M) → 0 ≤ i → ∀ y : Int, 0 ≤ y → y < L → apI L f g i n acc y = acc y + (if i ≤ y ∧ y < i + n then f i * g (y - i) else 0)
  | 0, _, _, y, h0, h1 => by
    rw [if_neg (by omega)]
    show acc y = acc y + 0
    omega
  | n + 1, hM, hi, y, h0, h1 => by
    have ih := apI_ex hS hL n (fun j a b => hM j a (by omega)) hi
    show (if i + n < L then upf (apI L f g i n acc) (i + n) (w64 (apI L f g i n acc (i + n) + w64 (f i * g n))) else apI L f g i n acc) y = _
    by_cases q : i + n < L
    · rw [if_pos q]
      unfold upf
      by_cases z : y = i + n
      · rw [if_pos z, if_pos ⟨by omega, by omega⟩, z]
        have e := ih (i + n) (by omega) q
        rw [if_neg (by omega), Int.add_zero] at e
        have b1 := hM n (by omega) (by omega)
        have b2 := hS (i + n) (by omega) q
        unfold bd at b1 b2
        rw [e, w64_id (z := f i * g n) (by omega) (by omega), w64_id (by omega) (by omega), show i + (n : Int) - i = n from by omega]
      · rw [if_neg z, ih y h0 h1]
        by_cases w : i ≤ y ∧ y < i + n
        · rw [if_pos w, if_pos ⟨w.1, by omega⟩]
        · rw [if_neg w, if_neg (by omega)]
    · rw [if_neg q, ih y h0 h1]
      by_cases w : i ≤ y ∧ y < i + n
      · rw [if_pos w, if_pos ⟨w.1, by omega⟩]
      · rw [if_neg w, if_neg (by omega)]
section
variable {R : Type}
theorem pR_succ [Lean.Grind.CommRing R] {co : R → Nat → Int} {mk : Nat → (Nat → Int) → R} (H : PolyR co mk) (n : Nat) (f : Int → Int) : pR mk (n + 1) f = pR mk n f + mo mk n (f n) := H.1 _ _ (fun k => by
  rw [H.2.1, co_pR H, co_pR H, co_mo H]
  by_cases q : k < n
  · rw [if_pos (by omega), if_pos q, if_neg (by omega), Int.add_zero]
  · rw [if_neg q]
    by_cases z : k = n
    · rw [if_pos (by omega), if_pos z, z, Int.zero_add]
    · rw [if_neg (by omega), if_neg z]
      rfl)
theorem pR_0 [Lean.Grind.CommRing R] {co : R → Nat → Int} {mk : Nat → (Nat → Int) → R} (H : PolyR co mk) (f : Int → Int) : pR mk 0 f = 0 := H.1 _ _ (fun k => by
  rw [co_pR H, co_zero H, if_neg (by omega)])
/-- beyond the numbers that are there nothing counts -/
theorem pR_ext [Lean.Grind.CommRing R] {co : R → Nat → Int} {mk : Nat → (Nat → Int) → R} (H : PolyR co mk) {n l : Nat} (h : n ≤ l) {f g : Int → Int} (e : ∀ k : Int, 0 ≤ k → k < n → f k = g k) (hz : ∀ k : Int, n ≤ k → k < l → g k = 0) : pR mk n f = pR mk l g := H.1 _ _ (fun k => by
  rw [co_pR H, co_pR H]
  by_cases q : k < n
  · rw [if_pos q, if_pos (by omega), e k (by omega) (by omega)]
  · rw [if_neg q]
    split
    · exact (hz k (by omega) (by omega)).symm
    · rfl)
theorem apO_ex [Lean.Grind.CommRing R] {co : R → Nat → Int} {mk : Nat → (Nat → Int) → R} (H : PolyR co mk) {L nb : Nat} {f g : Int → Int} {M : Int} (hM0 : 0 ≤ M) (hM1 : M < 100000000000000000) : ∀ n : Nat, n ≤ 13 → n + nb ≤ L + 1 → (∀ i j : Int, 0 ≤ i → i < n → 0 ≤ j → j < nb → bd (f i * g j) M) → (∀ y : Int, 0 ≤ y → y < L → bd (apO L f g nb n (fun _ => 0) y) (n * M)) ∧ pR mk L (apO L f g nb n (fun _ => 0)) = pR mk n f * pR mk nb g
  | 0, _, _, _ => ⟨fun y _ _ => by
      show bd 0 _
      exact ⟨by omega, by omega⟩, by
      rw [pR_0 H, show (0 : R) * pR mk nb g = 0 from by grind]
      exact H.1 _ _ (fun k => by
        rw [co_pR H, co_zero H]
        split <;> rfl)⟩
  | n + 1, hn, hnb, hM => by
    obtain ⟨i1, i2⟩ := apO_ex H (L := L) (nb := nb) (f := f) (g := g) hM0 hM1 n (by omega) (by omega) (fun i j a b => hM i j a (by omega))
    have hb : (n : Int) * M ≤ 13 * M := Int.mul_le_mul_of_nonneg_right (by omega) hM0
    have e := apI_ex (L := L) (f := f) (g := g) (i := (n : Int)) (S := n * M) (M := M) i1 (by omega) nb (fun j a b => hM n j (by omega) (by omega) a b) (by omega)
    refine ⟨fun y y0 y1 => ?_, ?_⟩
    · show bd (apI L f g n nb (apO L f g nb n (fun _ => 0)) y) _
      rw [e y y0 y1]
      have b1 := i1 y y0 y1
      have e2 : ((n + 1 : Nat) : Int) * M = n * M + M := by
        rw [show ((n + 1 : Nat) : Int) = (n : Int) + 1 from by omega, Int.add_mul, Int.one_mul]
      split
      · next q =>
        have b2 := hM n (y - n) (by omega) (by omega) (by omega) (by omega)
        unfold bd at b1 b2 ⊢
        omega
      · unfold bd at b1 ⊢
        omega
    · rw [pR_succ H, show (pR mk n f + mo mk n (f n)) * pR mk nb g = pR mk n f * pR mk nb g + mo mk n (f n) * pR mk nb g from by grind, ← i2]
      refine H.1 _ _ (fun k => ?_)
      rw [H.2.1, co_pR H, co_pR H, co_momul H, co_pR H]
      by_cases q : k < L
      · rw [if_pos q, if_pos q]
        show apI L f g n nb (apO L f g nb n (fun _ => 0)) k = _
        rw [e k (by omega) (by omega)]
        congr 1
        by_cases z : n ≤ k
        · rw [if_pos z]
          by_cases w : k - n < nb
          · rw [if_pos ⟨by omega, by omega⟩, if_pos w, show ((k - n : Nat) : Int) = (k : Int) - n from by omega]
          · rw [if_neg (by omega), if_neg w, Int.mul_zero]
        · rw [if_neg z, if_neg (by omega)]
      · rw [if_neg q, if_neg q, if_pos (by omega), if_neg (by omega), Int.mul_zero]
        rfl
/-! ideals that need not be prime -/
theorem jd_pw [Lean.Grind.CommRing R] {co : R → Nat → Int} {mk : Nat → (Nat → Int) → R} (H : PolyR co mk) {p : Int} {q a b : R} (h : jd co p q (a - b)) : ∀ n : Nat, jd co p q (a ^ n - b ^ n)
  | 0 => by
    rw [show a ^ 0 - b ^ 0 = (0 : R) from by grind]
    exact jd_dvp H (dvp_zero H)
  | n + 1 => by
    rw [show a ^ (n + 1) - b ^ (n + 1) = a * (a ^ n - b ^ n) + b ^ n * (a - b) from by grind]
    exact jd_add H (jd_mul H _ (jd_pw H h n)) (jd_mul H _ h)
theorem jd_tr [Lean.Grind.CommRing R] {co : R → Nat → Int} {mk : Nat → (Nat → Int) → R} (H : PolyR co mk) {p : Int} {q a b c : R} (h : jd co p q (a - b)) (h2 : jd co p q (b - c)) : jd co p q (a - c) := by
  rw [show a - c = (a - b) + (b - c) from by grind]
  exact jd_add H h h2
theorem jd_sy [Lean.Grind.CommRing R] {co : R → Nat → Int} {mk : Nat → (Nat → Int) → R} (H : PolyR co mk) {p : Int} {q a b : R} (h : jd co p q (a - b)) : jd co p q (b - a) := by
  rw [show b - a = -(a - b) from by grind]
  exact jd_neg H h
theorem jd_hpl [Lean.Grind.CommRing R] {co : R → Nat → Int} {mk : Nat → (Nat → Int) → R} (H : PolyR co mk) {p : Int} {q t s : R} (h : jd co p q (t - s)) : ∀ (n : Nat) (f : Nat → Int), jd co p q (hpl mk t n f - hpl mk s n f)
  | 0, f => by
    show jd co p q ((0 : R) - 0)
    rw [show (0 : R) - 0 = 0 from by grind]
    exact jd_dvp H (dvp_zero H)
  | n + 1, f => by
    have ih := jd_hpl H h n (fun k => f (k + 1))
    show jd co p q (mo mk 0 (f 0) + t * hpl mk t n (fun k => f (k + 1)) - (mo mk 0 (f 0) + s * hpl mk s n (fun k => f (k + 1))))
    rw [show ∀ a u v : R, a + t * u - (a + s * v) = t * (u - v) + v * (t - s) from fun a u v => by grind]
    exact jd_add H (jd_mul H _ ih) (jd_mul H _ h)
theorem jd_rf [Lean.Grind.CommRing R] {co : R → Nat → Int} {mk : Nat → (Nat → Int) → R} (H : PolyR co mk) {p : Int} (q a : R) : jd co p q (a - a) := by
  rw [show a - a = 0 from by grind]
  exact jd_dvp H (dvp_zero H)
theorem jd_mm [Lean.Grind.CommRing R] {co : R → Nat → Int} {mk : Nat → (Nat → Int) → R} (H : PolyR co mk) {p : Int} {q a b c d : R} (h : jd co p q (a - b)) (h2 : jd co p q (c - d)) : jd co p q (a * c - b * d) := by
  rw [show a * c - b * d = a * (c - d) + d * (a - b) from by grind]
  exact jd_add H (jd_mul H _ h2) (jd_mul H _ h)
/-! the methods -/
/-- the whole one: rests, of degree D, ends with 1 -/
def whOK (f : Int → Int) (P D : Int) : Prop := rng f 7 P ∧ f D = 1 ∧ ∀ k : Int, D < k → k < 7 → f k = 0
/-- a rest by it -/
def stOK (f : Int → Int) (P D : Int) : Prop := rng f 7 P ∧ ∀ k : Int, D ≤ k → k < 7 → f k = 0
theorem emod_rng {P v : Int} (h : 0 < P) : 0 ≤ v % P ∧ v % P < P := ⟨Int.emod_nonneg _ (by omega), Int.emod_lt_of_pos _ h⟩
def fmP (P : Int) (f : Int → Int) : Int → Int := fun y => f y % P
theorem l_PV_ms27 {P : Nat} (hP : okP P) {D : Int} {m : rz_M} (hm : m 47 7 = P) {f : Int → Int} {K : Int → rz_M → Prop} (h : rz_C y_PV_reduce [rR 47, rR 54, rR 48, rI D] (wr m 54 13 (fmP P f)) (fun r1 m1 => rz_C y_RC_copy [rR 54, rR 49] m1 (fun r2 m2 => K 0 m2))) : ∀ (n : Nat) (j : Int), 13 - j = n → 0 ≤ j → rz_E y_PV_multiplyStep 27 [rR 47, rX 0, rI D, rI j] [] (wr m 54 13 (fun y => if y < j then f y % P else f y)) K
  | 0, j, hn, hj => by
    have e : j = 13 := by omega
    subst e
    refine T_PV_multiplyStep_27 _ _ _ _ (bt (by decide) ?_)
    have : wr m 54 13 (fun y => if y < 13 then f y % P else f y) = wr m 54 13 (fmP P f) := wr_congr (fun y y0 y1 => if_pos y1)
    rw [this]
    exact h
  | n + 1, j, hn, hj => by
    refine T_PV_multiplyStep_27 _ _ _ _ (bf (by omega) ⟨⟨hj, by omega⟩, c_PV_byP hP (by rw [wr_ne (by decide)]; exact hm) ⟨⟨hj, by omega⟩, ?_⟩⟩)
    rw [wr_in hj (by omega), if_neg (by omega), w32_id (by omega) (by omega), wr_up hj (by omega)]
    have e : upf (fun y => if y < j then f y % P else f y) j (f j % P) = fun y => if y < j + 1 then f y % P else f y := by
      funext y
      unfold upf
      by_cases q : y = j
      · subst q
        rw [if_pos rfl, if_pos (by omega)]
      · rw [if_neg q]
        dsimp only
        by_cases z : y < j
        · rw [if_pos z, if_pos (by omega)]
        · rw [if_neg z, if_neg (by omega)]
    rw [e]
    exact l_PV_ms27 hP hm h n (j + 1) (by omega) (by omega)
theorem c_PV_mulStep [Lean.Grind.CommRing R] {co : R → Nat → Int} {mk : Nat → (Nat → Int) → R} (H : PolyR co mk) {P : Nat} (hP : okP P) {b : Nat} (hb : b = 49 ∨ b = 50) {D : Int} (hD : 1 ≤ D ∧ D ≤ 6) {m : rz_M} (hm : m 47 7 = P) (hw : whOK (m 48) P D) (h1 : stOK (m 49) P D) (h2 : stOK (m b) P D) {K : Int → rz_M → Prop}
    (h : ∀ m' : rz_M, (∀ i, i ≠ 49 → i ≠ 54 → m' i = m i) → stOK (m' 49) P D → jd co P (pR mk 7 (m 48)) (pR mk 7 (m 49) * pR mk 7 (m b) - pR mk 7 (m' 49)) → K 0 m') : rz_C y_PV_multiplyStep [rR 47, rR b, rI D] m K := by
  have p2 := hP.1.1
  have p3 := hP.2
  have k54 : rz_isK 54 1 = true := by decide +kernel
  have l54 : rz_len 54 = 13 := by decide +kernel
  have k48 : isL 48 7 := ⟨by decide +kernel, by decide +kernel⟩
  have k49 : ∀ n : Int, n ≤ 7 → isL 49 n := fun n hn => ⟨by decide +kernel, by rw [show rz_len 49 = 7 from by decide +kernel]; exact hn⟩
  have kb : ∀ n : Int, n ≤ 7 → isL b n := fun n hn => by
    rcases hb with e | e <;> subst e
    · exact k49 n hn
    · exact ⟨by decide +kernel, by rw [show rz_len 50 = 7 from by decide +kernel]; exact hn⟩
  obtain ⟨DN, rfl⟩ : ∃ n : Nat, D = n := ⟨D.toNat, by omega⟩
  refine T_PV_multiplyStep_0 _ _ _ _ (c_RC_clear k54 l54 (by decide) ?_)
  rw [w32_id (by omega) (by omega)]
  refine c_RC_addProduct k54 l54 (by decide) (k49 _ (by omega)) (kb _ (by omega)) (by decide) (by omega) (by omega) ?_
  rw [wr_ne (x := 49) (by decide), wr_ne (x := b) (by omega), show ((DN : Int) - 1 + 1).toNat = DN from by omega]
  have acc : wr (wr m 54 13 (fun _ => 0)) 54 13 (apO 13 (m 49) (m b) DN DN (wr m 54 13 (fun _ => 0) 54)) = wr m 54 13 (apO 13 (m 49) (m b) DN DN (wr m 54 13 (fun _ => 0) 54)) := wr_wr
  rw [acc]
  -- the sums begin with noughts
  have z : ∀ (acc acc' : Int → Int), (∀ y : Int, 0 ≤ y → y < 13 → acc y = acc' y) → ∀ n : Nat, ∀ y : Int, 0 ≤ y → y < 13 → apO 13 (m 49) (m b) DN n acc y = apO 13 (m 49) (m b) DN n acc' y := by
    intro acc acc' ha n
    induction n with
    | zero => exact ha
    | succ n ih =>
      have inn : ∀ k : Nat, ∀ y : Int, 0 ≤ y → y < 13 → apI 13 (m 49) (m b) n k (apO 13 (m 49) (m b) DN n acc) y = apI 13 (m 49) (m b) n k (apO 13 (m 49) (m b) DN n acc') y := by
        intro k
        induction k with
        | zero => exact ih
        | succ k ihk =>
          intro y y0 y1
          show (if (n : Int) + k < 13 then upf _ _ _ else _) y = (if (n : Int) + k < 13 then upf _ _ _ else _) y
          by_cases q : (n : Int) + k < 13
          · rw [if_pos q, if_pos q]
            unfold upf
            rw [ihk _ (by omega) q, ihk y y0 y1]
          · rw [if_neg q, if_neg q]
            exact ihk y y0 y1
      exact inn DN
  have z2 : wr m 54 13 (apO 13 (m 49) (m b) DN DN (wr m 54 13 (fun _ => 0) 54)) = wr m 54 13 (apO 13 (m 49) (m b) DN DN (fun _ => 0)) := wr_congr (fun y y0 y1 => z _ _ (fun k k0 k1 => wr_in k0 k1) DN y y0 y1)
  rw [z2]
  obtain ⟨_, px⟩ := apO_ex H (mk := mk) (L := 13) (nb := DN) (f := m 49) (g := m b) (M := 1000000) (by decide) (by decide) DN (by omega) (by omega) (fun i j a b' c d => by
    have := mul_lt_k (P := P) (by omega) (h1.1 i a (by omega)) (h2.1 j c (by omega))
    unfold bd
    omega)
  generalize hF : apO 13 (m 49) (m b) DN DN (fun _ => 0) = F at px ⊢
  have l27 := l_PV_ms27 (D := (DN : Int)) hP hm (f := F) (K := K) ?_ 13 0 (by decide) (by decide)
  · have e0 : wr m 54 13 (fun y => if y < 0 then F y % P else F y) = wr m 54 13 F := wr_congr (fun y y0 y1 => if_neg (by omega))
    rwa [e0] at l27
  · have w48 : wr m 54 13 (fmP P F) 48 = m 48 := wr_ne (by decide)
    have w54 : ∀ k : Int, 0 ≤ k → k < 13 → wr m 54 13 (fmP P F) 54 k = F k % P := fun k k0 k1 => wr_in k0 k1
    refine c_PV_reduce H hP (N := 13) k54 l54 (by decide) k48 (by decide) (by decide) ⟨by omega, by omega⟩ (by rw [wr_ne (by decide)]; exact hm) (fun k k0 k1 => by rw [w54 k k0 k1]; exact emod_rng (by omega)) (by rw [w48]; exact hw.1) (by rw [w48]; exact hw.2.1) (by rw [w48]; exact hw.2.2) (fun g hg hz hs => ?_)
    rw [show ((13 : Nat) : Int) = 13 from rfl] at hg hz ⊢
    rw [w48] at hs
    have k49' : isL 49 7 := k49 7 (by decide)
    refine c_RC_copy ⟨k54, by rw [l54]; decide⟩ k49' ?_
    have e49 : ∀ k : Int, 0 ≤ k → k < 7 → wr (wr (wr m 54 13 (fmP P F)) 54 13 g) 49 7 (wr (wr m 54 13 (fmP P F)) 54 13 g 54) 49 k = g k := fun k k0 k1 => by
      rw [wr_in k0 k1, wr_in k0 (by omega)]
    refine h _ (fun i i1 i2 => ?_) ⟨fun k k0 k1 => ?_, fun k k0 k1 => ?_⟩ ?_
    · show wr _ 49 7 _ i = _
      rw [wr_ne i1, wr_ne i2, wr_ne i2]
    · show 0 ≤ wr _ 49 7 _ 49 k ∧ _
      rw [e49 k k0 k1]
      exact hg k k0 (by omega)
    · show wr _ 49 7 _ 49 k = 0
      rw [e49 k (by omega) k1]
      exact hz k k0 (by omega)
    · obtain ⟨s, hs⟩ := hs
      have e1 : pR mk 7 (wr (wr (wr m 54 13 (fmP P F)) 54 13 g) 49 7 (wr (wr m 54 13 (fmP P F)) 54 13 g 54) 49) = pR mk 13 g := pR_ext H (by decide) (fun k k0 k1 => e49 k k0 k1) (fun k k0 k1 => hz k (by omega) k1)
      have e2 : pR mk 7 (m 49) = pR mk DN (m 49) := (pR_ext H (n := DN) (l := 7) (by omega) (fun _ _ _ => rfl) (fun k k0 k1 => h1.2 k k0 k1)).symm
      have e3 : pR mk 7 (m b) = pR mk DN (m b) := (pR_ext H (n := DN) (l := 7) (by omega) (fun _ _ _ => rfl) (fun k k0 k1 => h2.2 k k0 k1)).symm
      show jd co P _ (_ - pR mk 7 (wr _ 49 7 _ 49))
      rw [e1, e2, e3, ← px]
      refine ⟨s, ?_⟩
      have c1 : dvp co P (pR mk 13 F - pR mk 13 (wr m 54 13 (fmP P F) 54)) := dvp_pR H (fun k k0 k1 => by
        rw [w54 k k0 k1]
        exact emod_dvd _ _)
      have := dvp_add H c1 hs
      rwa [show ∀ A B W g : R, A - B + (B - (s * W + g)) = A - g - W * s from fun A B W g => by grind] at this
/-- times x -/
theorem l_PV_msx14 {P : Nat} (hP : okP P) {D t : Int} (hD : D ≤ 6) {m : rz_M} (hm : m 47 7 = P) (hw : rng (m 48) 7 P) (h1 : rng (m 49) 7 P) (ht : 0 ≤ t ∧ t < P) {K : Int → rz_M → Prop} (h : K 0 (wr m 49 7 (fun y => if y < D then (if y = 0 then (-t) * m 48 0 else m 49 (y - 1) - t * m 48 y) % P else m 49 y))) : ∀ (n : Nat) (j : Int), j = n → j < D → rz_E y_PV_multiplyStepByX 14 [rR 47, rX 0, rL t, rX 1, rI j] [] (wr m 49 7 (fun y => if j < y ∧ y < D then (m 49 (y - 1) - t * m 48 y) % P else m 49 y)) K
  | 0, j, hn, hj => by
    have p2 := hP.1.1
    have p3 := hP.2
    have e : j = 0 := by omega
    subst e
    have b := mul_lt_k (P := P) (by omega) ht (hw 0 (by decide) (by decide))
    have e2 : (-t) * m 48 0 = -(t * m 48 0) := Int.neg_mul _ _
    refine T_PV_multiplyStepByX_14 _ _ _ _ (bt (by decide) ⟨⟨by decide, by decide⟩, c_PV_byP hP (by rw [wr_ne (by decide)]; exact hm) ⟨⟨by decide, by decide⟩, ?_⟩⟩)
    rw [wr_ne (x := 48) (by decide), w64_id (z := -t) (by omega) (by omega), w64_id (by omega) (by omega), wr_up (by decide) (by decide)]
    have e3 : upf (fun y => if 0 < y ∧ y < D then (m 49 (y - 1) - t * m 48 y) % P else m 49 y) 0 ((-t) * m 48 0 % P) = fun y => if y < D ∧ 0 ≤ y then (if y = 0 then (-t) * m 48 0 else m 49 (y - 1) - t * m 48 y) % P else m 49 y := by
      funext y
      unfold upf
      by_cases q : y = 0
      · subst q
        rw [if_pos rfl, if_pos ⟨hj, by decide⟩, if_pos rfl]
      · rw [if_neg q]
        dsimp only
        by_cases z : 0 < y ∧ y < D
        · rw [if_pos z, if_pos ⟨z.2, by omega⟩, if_neg q]
        · rw [if_neg z, if_neg (by omega)]
    rw [e3]
    have e4 : wr m 49 7 (fun y => if y < D ∧ 0 ≤ y then (if y = 0 then (-t) * m 48 0 else m 49 (y - 1) - t * m 48 y) % P else m 49 y) = wr m 49 7 (fun y => if y < D then (if y = 0 then (-t) * m 48 0 else m 49 (y - 1) - t * m 48 y) % P else m 49 y) := wr_congr (fun y y0 y1 => by
      by_cases z : y < D
      · rw [if_pos ⟨z, y0⟩, if_pos z]
      · rw [if_neg (fun w => z w.1), if_neg z])
    rw [e4]
    exact h
  | n + 1, j, hn, hj => by
    have p2 := hP.1.1
    have p3 := hP.2
    have b := mul_lt_k (P := P) (by omega) ht (hw j (by omega) (by omega))
    have b2 := h1 (j - 1) (by omega) (by omega)
    refine T_PV_multiplyStepByX_14 _ _ _ _ (bf (by omega) ?_)
    rw [w32_id (z := j - 1) (by omega) (by omega), w32_id (z := j + -1) (by omega) (by omega), wr_ne (x := 48) (by decide), wr_in (by omega) (by omega), if_neg (by omega), w64_id (z := t * m 48 j) (by omega) (by omega), w64_id (z := m 49 (j - 1) - t * m 48 j) (by omega) (by omega)]
    refine ⟨⟨by omega, by omega⟩, ⟨by omega, by omega⟩, c_PV_byP hP (by rw [wr_ne (by decide)]; exact hm) ⟨⟨by omega, by omega⟩, ?_⟩⟩
    rw [wr_up (by omega) (by omega), show j + -1 = j - 1 from by omega]
    have e3 : upf (fun y => if j < y ∧ y < D then (m 49 (y - 1) - t * m 48 y) % P else m 49 y) j ((m 49 (j - 1) - t * m 48 j) % P) = fun y => if j - 1 < y ∧ y < D then (m 49 (y - 1) - t * m 48 y) % P else m 49 y := by
      funext y
      unfold upf
      by_cases q : y = j
      · subst q
        rw [if_pos rfl, if_pos ⟨by omega, hj⟩]
      · rw [if_neg q]
        dsimp only
        by_cases z : j < y ∧ y < D
        · rw [if_pos z, if_pos ⟨by omega, z.2⟩]
        · rw [if_neg z, if_neg (by omega)]
    rw [e3]
    exact l_PV_msx14 hP hD hm hw h1 ht h n (j - 1) (by omega) (by omega)
theorem c_PV_mulX [Lean.Grind.CommRing R] {co : R → Nat → Int} {mk : Nat → (Nat → Int) → R} (H : PolyR co mk) {P : Nat} (hP : okP P) {D : Int} (hD : 1 ≤ D ∧ D ≤ 6) {m : rz_M} (hm : m 47 7 = P) (hw : whOK (m 48) P D) (h1 : stOK (m 49) P D) {K : Int → rz_M → Prop}
    (h : ∀ m' : rz_M, (∀ i, i ≠ 49 → m' i = m i) → stOK (m' 49) P D → jd co P (pR mk 7 (m 48)) (mo mk 1 1 * pR mk 7 (m 49) - pR mk 7 (m' 49)) → K 0 m') : rz_C y_PV_multiplyStepByX [rR 47, rI D] m K := by
  have p2 := hP.1.1
  have p3 := hP.2
  refine T_PV_multiplyStepByX_0 _ _ _ ?_
  rw [w32_id (by omega) (by omega)]
  refine ⟨⟨by omega, by omega⟩, ?_⟩
  have rt := h1.1 (D - 1) (by omega) (by omega)
  have l := l_PV_msx14 hP hD.2 hm hw.1 h1.1 rt (K := K) ?_ (D - 1).toNat (D - 1) (by omega) (by omega)
  · have e0 : wr m 49 7 (fun y => if D - 1 < y ∧ y < D then (m 49 (y - 1) - m 49 (D - 1) * m 48 y) % P else m 49 y) = m := by
      have : wr m 49 7 (fun y => if D - 1 < y ∧ y < D then (m 49 (y - 1) - m 49 (D - 1) * m 48 y) % P else m 49 y) = wr m 49 7 (m 49) := wr_congr (fun y y0 y1 => if_neg (by omega))
      rw [this, wr_self2]
    rwa [e0] at l
  · have e49 : ∀ k : Int, 0 ≤ k → k < 7 → wr m 49 7 (fun y => if y < D then (if y = 0 then (-(m 49 (D - 1))) * m 48 0 else m 49 (y - 1) - m 49 (D - 1) * m 48 y) % P else m 49 y) 49 k = if k < D then (if k = 0 then (-(m 49 (D - 1))) * m 48 0 else m 49 (k - 1) - m 49 (D - 1) * m 48 k) % P else m 49 k := fun k k0 k1 => wr_in k0 k1
    refine h _ (fun i hi => wr_ne hi) ⟨fun k k0 k1 => ?_, fun k k0 k1 => ?_⟩ ⟨mo mk 0 (m 49 (D - 1)), fun k => ?_⟩
    · rw [e49 k k0 k1]
      split
      · exact emod_rng (by omega)
      · exact h1.1 k k0 k1
    · rw [e49 k (by omega) k1, if_neg (by omega)]
      exact h1.2 k k0 k1
    · rw [co_sub H, co_sub H, co_momul H, Lean.Grind.CommSemiring.mul_comm (pR mk 7 (m 48)), co_momul H, co_pR H, co_pR H, co_pR H, if_pos (Nat.zero_le _), Nat.sub_zero]
      by_cases q : k < 7
      · rw [if_pos q, if_pos q, e49 k (by omega) (by omega)]
        by_cases z : (k : Int) < D
        · rw [if_pos z]
          by_cases w : k = 0
          · subst w
            rw [if_neg (by omega), if_pos (by decide)]
            have := emod_dvd ((-(m 49 (D - 1))) * m 48 0) P
            have e := Int.neg_mul (m 49 (D - 1)) (m 48 0)
            show (P : Int) ∣ 0 - (-(m 49 (D - 1))) * m 48 0 % P - m 49 (D - 1) * m 48 0
            rwa [show 0 - (-(m 49 (D - 1))) * m 48 0 % P - m 49 (D - 1) * m 48 0 = (-(m 49 (D - 1))) * m 48 0 - (-(m 49 (D - 1))) * m 48 0 % P from by omega]
          · rw [if_pos (by omega), if_pos (by omega), if_neg (by omega), show ((k - 1 : Nat) : Int) = (k : Int) - 1 from by omega, Int.one_mul]
            have := emod_dvd (m 49 ((k : Int) - 1) - m 49 (D - 1) * m 48 k) P
            rwa [show m 49 ((k : Int) - 1) - (m 49 ((k : Int) - 1) - m 49 (D - 1) * m 48 k) % P - m 49 (D - 1) * m 48 k = m 49 ((k : Int) - 1) - m 49 (D - 1) * m 48 k - (m 49 ((k : Int) - 1) - m 49 (D - 1) * m 48 k) % P from by omega]
        · rw [if_neg z, if_pos (by omega), if_pos (by omega), h1.2 k (by omega) (by omega), Int.one_mul, show ((k - 1 : Nat) : Int) = (k : Int) - 1 from by omega]
          by_cases w : (k : Int) = D
          · rw [w, hw.2.1, Int.mul_one]
            exact ⟨0, by omega⟩
          · rw [hw.2.2 k (by omega) (by omega), h1.2 ((k : Int) - 1) (by omega) (by omega), Int.mul_zero]
            exact ⟨0, by omega⟩
      · rw [if_neg q, if_neg q, Int.mul_zero]
        by_cases w : k - 1 < 7
        · rw [if_pos (by omega), if_pos w, h1.2 _ (by omega) (by omega)]
          exact ⟨0, by omega⟩
        · rw [if_pos (by omega), if_neg w]
          exact ⟨0, by omega⟩
end
