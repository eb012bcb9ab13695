/-! the reference by a prime: powers of p, types -/
section
variable {R : Type}
theorem l_M_tp62 {a : Nat} (ha : isL a 7) (ha242 : a ≠ 242) {v : Int} {m : rz_M} {K : Int → rz_M → Prop} (h : rz_E y_M_toPrime 62 [rR 221, rR a, rI v, rI 7] [] (wr m 242 7 (m a)) K) : ∀ (d : Nat) (j : Int), 7 - j = d → 0 ≤ j → rz_E y_M_toPrime 62 [rR 221, rR a, rI v, rI j] [] (wr m 242 j (m a)) K
  | 0, j, hd, hj => by
    have e : j = 7 := by omega
    subst e
    exact h
  | d + 1, j, hd, hj => by
    have la := ha.2
    refine T_M_toPrime_62 _ _ _ _ _ (bf (by omega) ⟨ha.1, ⟨hj, by omega⟩, ⟨hj, by omega⟩, ?_⟩)
    rw [wr_ne ha242, wr_succ hj rfl, w32_id (by omega) (by omega)]
    exact l_M_tp62 ha ha242 h d (j + 1) (by omega) (by omega)
theorem l_M_tp56 [Lean.Grind.CommRing R] {co : R → Nat → Int} {mk : Nat → (Nat → Int) → R} (H : PolyR co mk) {P : Nat} (hP : okP P) {D : Nat} (hD : 1 ≤ D ∧ D ≤ 6) {m0 : rz_M} (hm : m0 221 25 = P) (hmd : m0 221 27 = D) (hw : mdOK (m0 239) P D) (h244 : stOK (m0 244) P D) {K : Int → rz_M → Prop}
    (h : ∀ m' : rz_M, (∀ i, i ≠ 240 → i ≠ 241 → i ≠ 242 → m' i = m0 i) → stOK (m' 240) P D → jd co P (pR mk 7 (m0 239)) (pR mk 7 (m0 244) ^ P - pR mk 7 (m' 240)) → K 0 m') : ∀ (k : Nat) (m : rz_M), k ≤ 11 → (∀ i, i ≠ 240 → i ≠ 241 → i ≠ 242 → m i = m0 i) → stOK (m 240) P D → jd co P (pR mk 7 (m0 239)) (pR mk 7 (m0 244) ^ (P / 2 ^ k) - pR mk 7 (m 240)) → rz_E y_M_toPrime 56 [rR 221, rR 240, rI ((k : Int) - 1), rX 0] [] m K
  | 0, m, hk, hfr, hs, hj => T_M_toPrime_56 _ _ _ _ (bt (by decide) (h m hfr hs (by rwa [Nat.pow_zero, Nat.div_one] at hj)))
  | k + 1, m, hk, hfr, hs, hj => by
    have p3 := hP.2
    have i240 : isL 240 7 := ⟨by decide +kernel, by decide +kernel⟩
    have i242 : isL 242 7 := ⟨by decide +kernel, by decide +kernel⟩
    have i244 : isL 244 7 := ⟨by decide +kernel, by decide +kernel⟩
    have e221 := hfr 221 (by decide) (by decide) (by decide)
    have e239 := hfr 239 (by decide) (by decide) (by decide)
    have e244 := hfr 244 (by decide) (by decide) (by decide)
    refine T_M_toPrime_56 _ _ _ _ (bf (by omega) ?_)
    rw [show ((k + 1 : Nat) : Int) - 1 = (k : Int) from by omega]
    have go := l_M_tp62 (v := (k : Int)) i240 (by decide) (m := m) (K := K) ?_ 7 0 (by decide) (by decide)
    · rwa [wr_0] at go
    · have w242 : ∀ y : Int, 0 ≤ y → y < 7 → wr m 242 7 (m 240) 242 y = m 240 y := fun y y0 y1 => wr_in y0 y1
      have w240 : wr m 242 7 (m 240) 240 = m 240 := wr_ne (by decide)
      have w221 : wr m 242 7 (m 240) 221 = m0 221 := by rw [wr_ne (by decide)]; exact e221
      have w239 : wr m 242 7 (m 240) 239 = m0 239 := by rw [wr_ne (by decide)]; exact e239
      refine T_M_toPrime_62 _ _ _ _ _ (bt (by decide) (c_M_mul H hP (a := 240) (b := 242) i240 i242 (by decide) (by decide) hD (by rw [w221]; exact hm) (by rw [w221]; exact hmd) (by rw [w239]; exact hw) (by rw [w240]; exact hs) ⟨fun y y0 y1 => by rw [w242 y y0 y1]; exact hs.1 y y0 y1, fun y y0 y1 => by rw [w242 y (by omega) y1]; exact hs.2 y y0 y1⟩ (fun m1 f1 s1 j1 => ?_)))
      have e1 : m1 221 25 = P := by rw [f1 221 (by decide) (by decide), w221]; exact hm
      rw [e1, bit_at k (by omega) P (by omega), w32_id (by omega) (by omega), show (k : Int) + -1 = (k : Int) - 1 from by omega]
      have fr1 : ∀ i, i ≠ 240 → i ≠ 241 → i ≠ 242 → m1 i = m0 i := fun i a b c => by rw [f1 i a b, wr_ne c]; exact hfr i a b c
      rw [w239, w240, pR_congr H (f := wr m 242 7 (m 240) 242) (g := m 240) (fun y y0 y1 => w242 y y0 (by omega))] at j1
      have j2 : jd co P (pR mk 7 (m0 239)) (pR mk 7 (m0 244) ^ (2 * (P / 2 ^ (k + 1))) - pR mk 7 (m1 240)) := by
        have := jd_mm H hj hj
        rw [← Lean.Grind.Semiring.pow_add] at this
        rw [show 2 * (P / 2 ^ (k + 1)) = P / 2 ^ (k + 1) + P / 2 ^ (k + 1) from by omega]
        exact jd_tr H this j1
      have eh := pw_half (P := P) (k := k)
      refine bb (fun q => ?_) (fun q => ?_)
      · refine l_M_tp56 H hP hD hm hmd hw h244 h k m1 (by omega) fr1 s1 ?_
        rw [eh, show P / 2 ^ k % 2 = 0 from by omega, Nat.add_zero]
        exact j2
      · have e2391 : m1 239 = m0 239 := fr1 239 (by decide) (by decide) (by decide)
        have e2441 : m1 244 = m0 244 := fr1 244 (by decide) (by decide) (by decide)
        have e2211 : m1 221 = m0 221 := fr1 221 (by decide) (by decide) (by decide)
        refine c_M_mul H hP (a := 240) (b := 244) i240 i244 (by decide) (by decide) hD e1 (by rw [e2211]; exact hmd) (by rw [e2391]; exact hw) s1 (by rw [e2441]; exact h244) (fun m2 f2 s2 j3 => ?_)
        rw [e2391, e2441] at j3
        refine l_M_tp56 H hP hD hm hmd hw h244 h k m2 (by omega) (fun i a b c => (f2 i a b).trans (fr1 i a b c)) s2 ?_
        rw [eh, show P / 2 ^ k % 2 = 1 from by omega, Lean.Grind.Semiring.pow_succ]
        exact jd_tr H (jd_mm H j2 (jd_rf H _ _)) j3
theorem l_M_tp2 {m : rz_M} (hmd : m 221 27 ≠ 1) {K : Int → rz_M → Prop} (h : rz_E y_M_toPrime 56 [rR 221, rR 240, rI 10, rX 0] [] (wr (wr m 244 7 (m 240)) 240 7 (fun y => if y = 0 then 1 else 0)) K) : ∀ (d : Nat) (j : Int), 7 - j = d → 0 ≤ j → rz_E y_M_toPrime 2 [rR 221, rR 240, rI j, rX 0] [] (wr (wr m 244 j (m 240)) 240 j (fun y => if y = 0 then 1 else 0)) K
  | 0, j, hd, hj => by
    have e : j = 7 := by omega
    subst e
    refine T_M_toPrime_2 _ _ _ _ (bt (by decide) (bt ?_ h))
    rw [wr_ne (by decide), wr_ne (by decide)]
    exact hmd
  | d + 1, j, hd, hj => by
    have i240 : isL 240 7 := ⟨by decide +kernel, by decide +kernel⟩
    have la := i240.2
    refine T_M_toPrime_2 _ _ _ _ (bf (by omega) ⟨i240.1, ⟨hj, by omega⟩, ⟨hj, by omega⟩, ?_⟩)
    have e0 : wr (wr m 244 j (m 240)) 240 j (fun y => if y = 0 then 1 else 0) 240 j = m 240 j := by
      rw [wr_out (by omega), wr_ne (by decide)]
    rw [e0, w32_id (by omega) (by omega)]
    have sw : ∀ v : Int, v = (if j = 0 then 1 else 0) → rz_up (rz_up (wr (wr m 244 j (m 240)) 240 j (fun y => if y = 0 then 1 else 0)) 244 j (m 240 j)) 240 j v = wr (wr m 244 (j + 1) (m 240)) 240 (j + 1) (fun y => if y = 0 then 1 else 0) := by
      intro v hv
      rw [← wr_succ hj hv, ← wr_succ (m := m) hj (show m 240 j = m 240 j from rfl)]
      congr 1
      funext x y
      unfold rz_up wr
      by_cases q : x = 244 ∧ y = j
      · rw [if_pos q, if_neg (by omega)]
        exact (if_pos q).symm
      · rw [if_neg q]
        by_cases z : x = 240 ∧ 0 ≤ y ∧ y < j
        · rw [if_pos z, if_pos z]
        · rw [if_neg z, if_neg z]
          exact (if_neg q).symm
    refine bb (fun q => ⟨i240.1, ⟨hj, by omega⟩, ?_⟩) (fun q => ⟨i240.1, ⟨hj, by omega⟩, ?_⟩)
    · rw [sw 0 (by rw [if_neg q])]
      exact l_M_tp2 hmd h d (j + 1) (by omega) (by omega)
    · rw [sw 1 (by rw [if_pos (Classical.not_not.mp q)])]
      exact l_M_tp2 hmd h d (j + 1) (by omega) (by omega)
theorem c_M_toPrime [Lean.Grind.CommRing R] {co : R → Nat → Int} {mk : Nat → (Nat → Int) → R} (H : PolyR co mk) {P : Nat} (hP : okP P) {D : Nat} (hD : 2 ≤ D ∧ D ≤ 6) {m : rz_M} (hm : m 221 25 = P) (hmd : m 221 27 = D) (hw : mdOK (m 239) P D) (h240 : stOK (m 240) P D) {K : Int → rz_M → Prop}
    (h : ∀ m' : rz_M, (∀ i, i ≠ 240 → i ≠ 241 → i ≠ 242 → i ≠ 244 → m' i = m i) → stOK (m' 240) P D → jd co P (pR mk 7 (m 239)) (pR mk 7 (m 240) ^ P - pR mk 7 (m' 240)) → K 0 m') : rz_C y_M_toPrime [rR 221, rR 240] m K := by
  have p2 := hP.1.1
  have p3 := hP.2
  refine T_M_toPrime_0 _ _ _ ?_
  have l := l_M_tp2 (m := m) (K := K) (by rw [hmd]; omega) ?_ 7 0 (by decide) (by decide)
  · rwa [wr_0, wr_0] at l
  · have e244 : ∀ y : Int, 0 ≤ y → y < 7 → wr (wr m 244 7 (m 240)) 240 7 (fun y => if y = 0 then 1 else 0) 244 y = m 240 y := fun y y0 y1 => by rw [wr_ne (by decide), wr_in y0 y1]
    have e240 : ∀ y : Int, 0 ≤ y → y < 7 → wr (wr m 244 7 (m 240)) 240 7 (fun y => if y = 0 then 1 else 0) 240 y = if y = 0 then 1 else 0 := fun y y0 y1 => wr_in y0 y1
    have e221 : wr (wr m 244 7 (m 240)) 240 7 (fun y => if y = 0 then 1 else 0) 221 = m 221 := by rw [wr_ne (by decide), wr_ne (by decide)]
    have e239 : wr (wr m 244 7 (m 240)) 240 7 (fun y => if y = 0 then 1 else 0) 239 = m 239 := by rw [wr_ne (by decide), wr_ne (by decide)]
    have p244 : pR mk 7 (wr (wr m 244 7 (m 240)) 240 7 (fun y => if y = 0 then 1 else 0) 244) = pR mk 7 (m 240) := pR_congr H (fun y y0 y1 => e244 y y0 (by omega))
    have go := l_M_tp56 H hP (D := D) ⟨by omega, hD.2⟩ (m0 := wr (wr m 244 7 (m 240)) 240 7 (fun y => if y = 0 then 1 else 0)) (by rw [e221]; exact hm) (by rw [e221]; exact hmd) (by rw [e239]; exact hw) ⟨fun y y0 y1 => by rw [e244 y y0 y1]; exact h240.1 y y0 y1, fun y y0 y1 => by rw [e244 y (by omega) y1]; exact h240.2 y y0 y1⟩ (K := K) (fun m' f1 s1 j1 => h m' (fun i a b c d => by rw [f1 i a b c, wr_ne a, wr_ne d]) s1 (by rwa [e239, p244] at j1)) 11 _ (Nat.le_refl _) (fun _ _ _ _ => rfl) ⟨fun y y0 y1 => by rw [e240 y y0 y1]; split <;> omega, fun y y0 y1 => by rw [e240 y (by omega) y1, if_neg (by omega)]⟩ ?_
    · exact go
    · have e11 : 2 ^ 11 = 2048 := by decide
      have ez : P / 2 ^ 11 = 0 := Nat.div_eq_of_lt (by omega)
      rw [p244, ez]
      have e1 : pR mk 7 (wr (wr m 244 7 (m 240)) 240 7 (fun y => if y = 0 then 1 else 0) 240) = (1 : R) := H.1 _ _ (fun k => by
        rw [co_pR H, H.2.2.2.1]
        by_cases q : k = 0
        · subst q
          rw [if_pos (by decide), if_pos rfl, e240 _ (by decide) (by decide)]
          rfl
        · rw [if_neg q]
          split
          · rw [e240 _ (by omega) (by omega), if_neg (by omega)]
          · rfl)
      rw [e1, Lean.Grind.Semiring.pow_zero]
      exact jd_rf H _ _
/-! digits -/
def num : List Nat → Int
  | [] => 0
  | t :: L => num L * 10 + t
def bs (d : Nat) : List Nat → Nat
  | [] => 0
  | t :: L => (if t ∣ d then t else 0) + bs d L
def lsum : List Nat → Nat
  | [] => 0
  | t :: L => t + lsum L
theorem bs_perm (d : Nat) {l1 l2 : List Nat} (h : l1.Perm l2) : bs d l1 = bs d l2 := by
  induction h with
  | nil => rfl
  | cons x _ ih => show (if x ∣ d then x else 0) + _ = (if x ∣ d then x else 0) + _; rw [ih]
  | swap x y l => show (if y ∣ d then y else 0) + ((if x ∣ d then x else 0) + bs d l) = (if x ∣ d then x else 0) + ((if y ∣ d then y else 0) + bs d l); omega
  | trans _ _ a b => exact a.trans b
theorem lsum_perm {l1 l2 : List Nat} (h : l1.Perm l2) : lsum l1 = lsum l2 := by
  induction h with
  | nil => rfl
  | cons x _ ih => show x + _ = x + _; rw [ih]
  | swap x y l => show y + (x + lsum l) = x + (y + lsum l); omega
  | trans _ _ a b => exact a.trans b
theorem num_b : ∀ L : List Nat, (∀ t ∈ L, 1 ≤ t ∧ t ≤ 6) → 0 ≤ num L ∧ num L < ((10 ^ lsum L : Nat) : Int)
  | [], _ => ⟨Int.le_refl _, by decide⟩
  | t :: L, h => by
    obtain ⟨h1, h2⟩ := num_b L (fun x hx => h x (by simp [hx]))
    have ht := h t (by simp)
    refine ⟨by show 0 ≤ num L * 10 + (t : Int); omega, ?_⟩
    show num L * 10 + (t : Int) < ((10 ^ (t + lsum L) : Nat) : Int)
    have : 10 ^ (1 + lsum L) ≤ 10 ^ (t + lsum L) := Nat.pow_le_pow_right (by decide) (by omega)
    rw [Nat.add_comm 1, Nat.pow_succ] at this
    omega
theorem l_M_before {d : Nat} (hd : d ≤ 6) {m : rz_M} {K : Int → rz_M → Prop} : ∀ (L : List Nat) (z : Int), (∀ t ∈ L, 1 ≤ t ∧ t ≤ 6) → lsum L ≤ 6 → 0 ≤ z → z + (bs d L : Nat) ≤ 1000 → K (z + (bs d L : Nat)) m → rz_E y_M_before 4 [rX 0, rI d, rI z, rI (num L)] [] m K
  | [], z, _, _, _, _, h => T_M_before_4 _ _ _ _ _ (bt (by decide) (by rwa [show ((bs d [] : Nat) : Int) = 0 from rfl, Int.add_zero] at h))
  | t :: L, z, ht, hs, hz, hb, h => by
    obtain ⟨n1, n2⟩ := num_b L (fun x hx => ht x (by simp [hx]))
    have t1 := ht t (by simp)
    have hs' : t + lsum L ≤ 6 := hs
    have pb : ((10 ^ lsum L : Nat) : Int) ≤ 1000000 := by
      have : 10 ^ lsum L ≤ 10 ^ 6 := Nat.pow_le_pow_right (by decide) (by omega)
      have e6 : 10 ^ 6 = 1000000 := by decide
      omega
    have em : Int.tmod (num (t :: L)) 10 = t := by
      show Int.tmod (num L * 10 + (t : Int)) 10 = t
      rw [Int.tmod_eq_emod_of_nonneg (by omega)]
      omega
    have ed : Int.tdiv (num (t :: L)) 10 = num L := by
      show Int.tdiv (num L * 10 + (t : Int)) 10 = num L
      rw [Int.tdiv_eq_ediv_of_nonneg (by omega)]
      omega
    have e0 : bs d (t :: L) = (if t ∣ d then t else 0) + bs d L := rfl
    have eb : Int.tmod (d : Int) (t : Int) = ((d % t : Nat) : Int) := by
      rw [Int.tmod_eq_emod_of_nonneg (by omega)]
      exact (Int.natCast_emod d t).symm
    refine T_M_before_4 _ _ _ _ _ (bf (by show ¬ num L * 10 + (t : Int) ≤ 0; omega) ?_)
    rw [em, ed, eb, w32_id (z := num L) (by omega) (by omega)]
    refine ⟨by decide, by omega, bb (fun q => ⟨by decide, ?_⟩) (fun q => ⟨by decide, by decide, ?_⟩)⟩
    · have nd : ¬ t ∣ d := fun w => q (by rw [Nat.mod_eq_zero_of_dvd w]; rfl)
      rw [e0, if_neg nd, Nat.zero_add] at h hb
      rw [w32_id (z := z + 0) (by omega) (by omega), Int.add_zero]
      exact l_M_before hd L z (fun x hx => ht x (by simp [hx])) (by omega) hz hb h
    · have dd : t ∣ d := Nat.dvd_of_mod_eq_zero (by omega)
      rw [e0, if_pos dd] at h hb
      rw [w32_id (z := z + (t : Int)) (by omega) (by omega)]
      refine l_M_before hd L (z + t) (fun x hx => ht x (by simp [hx])) (by omega) (by omega) (by omega) ?_
      rwa [show z + (t : Int) + ((bs d L : Nat) : Int) = z + ((t + bs d L : Nat) : Int) from by omega]
theorem c_M_before {d : Nat} (hd : d ≤ 6) {m : rz_M} {K : Int → rz_M → Prop} {L : List Nat} (hL : ∀ t ∈ L, 1 ≤ t ∧ t ≤ 6) (hs : lsum L ≤ 6) (hb : bs d L ≤ 1000) (h : K (bs d L : Nat) m) : rz_C y_M_before [rI (num L), rI d] m K :=
  T_M_before_0 _ _ _ _ (l_M_before hd L 0 hL hs (Int.le_refl _) (by omega) (by rwa [Int.zero_add]))
/-- the degrees below d -/
def low (d : Nat) : List (R × Nat) → List Nat
  | [] => []
  | x :: l => if x.2 < d then x.2 :: low d l else low d l
theorem low_mem (d : Nat) : ∀ (l : List (R × Nat)) (t : Nat), t ∈ low d l → t < d ∧ ∃ x ∈ l, x.2 = t
  | [], _, h => absurd h List.not_mem_nil
  | x :: l, t, h => by
    unfold low at h
    split at h
    · next q =>
      rcases List.mem_cons.mp h with e | e
      · exact ⟨by omega, x, by simp, e.symm⟩
      · obtain ⟨a, y, b, c⟩ := low_mem d l t e
        exact ⟨a, y, by simp [b], c⟩
    · obtain ⟨a, y, b, c⟩ := low_mem d l t h
      exact ⟨a, y, by simp [b], c⟩
theorem low_step (d : Nat) : ∀ l : List (R × Nat), (low (d + 1) l).Perm (List.replicate (cn d l) d ++ low d l)
  | [] => List.Perm.refl _
  | x :: l => by
    have ih := low_step d l
    show (if x.2 < d + 1 then x.2 :: low (d + 1) l else low (d + 1) l).Perm (List.replicate ((if x.2 = d then 1 else 0) + cn d l) d ++ (if x.2 < d then x.2 :: low d l else low d l))
    rcases Nat.lt_trichotomy x.2 d with q | q | q
    · rw [if_pos (by omega), if_neg (by omega), if_pos q, Nat.zero_add]
      exact (ih.cons _).trans List.perm_middle.symm
    · rw [if_pos (by omega), if_pos q, if_neg (by omega), Nat.add_comm 1, List.replicate_succ, q]
      exact ih.cons _
    · rw [if_neg (by omega), if_neg (by omega), if_neg (by omega), Nat.zero_add]
      exact ih
theorem low_sum (d : Nat) : ∀ l : List (R × Nat), lsum (low d l) ≤ sumd l
  | [] => Nat.le_refl _
  | x :: l => by
    have ih := low_sum d l
    show lsum (if x.2 < d then x.2 :: low d l else low d l) ≤ x.2 + sumd l
    split
    · show x.2 + lsum (low d l) ≤ _
      omega
    · omega
/-- where the sums are one, none is as great as d -/
theorem low_full (d : Nat) : ∀ l : List (R × Nat), (∀ x ∈ l, 1 ≤ x.2) → sumd l ≤ lsum (low d l) → ∀ e, d ≤ e → cn e l = 0
  | [], _, _, _, _ => rfl
  | x :: l, h1, h2, e, he => by
    have hx := h1 x (by simp)
    have ls := low_sum d l
    have h2' : x.2 + sumd l ≤ lsum (if x.2 < d then x.2 :: low d l else low d l) := h2
    show (if x.2 = e then 1 else 0) + cn e l = 0
    split at h2'
    · have h3 : x.2 + sumd l ≤ x.2 + lsum (low d l) := h2'
      rw [if_neg (by omega), low_full d l (fun y hy => h1 y (by simp [hy])) (by omega) e he]
    · omega
/-- the parts that divide: those below d and those of d -/
theorem dv_split {d : Nat} (hd : 1 ≤ d) : ∀ l : List (R × Nat), bs d (l.map (fun x => x.2)) = bs d (low d l) + d * cn d l
  | [] => by show 0 = 0 + d * 0; omega
  | x :: l => by
    have ih := dv_split hd l
    show (if x.2 ∣ d then x.2 else 0) + bs d (l.map (fun x => x.2)) = bs d (if x.2 < d then x.2 :: low d l else low d l) + d * ((if x.2 = d then 1 else 0) + cn d l)
    rw [ih, Nat.mul_add]
    rcases Nat.lt_trichotomy x.2 d with q | q | q
    · rw [if_pos q, if_neg (show ¬ x.2 = d by omega)]
      show _ = (if x.2 ∣ d then x.2 else 0) + bs d (low d l) + _
      omega
    · rw [if_neg (show ¬ x.2 < d by omega), if_pos q, q, if_pos (Nat.dvd_refl d)]
      omega
    · rw [if_neg (show ¬ x.2 < d by omega), if_neg (show ¬ x.2 = d by omega), if_neg (fun w => absurd (Nat.le_of_dvd (by omega) w) (by omega))]
      omega
theorem bs_parts {d : Nat} {l l1 l2 : List (R × Nat)} (h : l.Perm (l1 ++ l2)) (h1 : ∀ x ∈ l1, x.2 ∣ d) (h2 : ∀ x ∈ l2, ¬ x.2 ∣ d) : bs d (l.map (fun x => x.2)) = sumd l1 := by
  have e := bs_perm d (h.map (fun x : R × Nat => x.2))
  rw [e]
  have a2 : ∀ l2 : List (R × Nat), (∀ x ∈ l2, ¬ x.2 ∣ d) → bs d (l2.map (fun x => x.2)) = 0 := by
    intro l2
    induction l2 with
    | nil => intro _; rfl
    | cons x l ih =>
      intro hh
      show (if x.2 ∣ d then x.2 else 0) + bs d (l.map (fun x => x.2)) = 0
      rw [if_neg (hh x (by simp)), ih (fun y hy => hh y (by simp [hy]))]
  have a1 : ∀ l1 : List (R × Nat), (∀ x ∈ l1, x.2 ∣ d) → bs d ((l1 ++ l2).map (fun x => x.2)) = sumd l1 := by
    intro l1
    induction l1 with
    | nil => intro _; exact a2 l2 h2
    | cons x l ih =>
      intro hh
      show (if x.2 ∣ d then x.2 else 0) + bs d ((l ++ l2).map (fun x => x.2)) = x.2 + sumd l
      rw [if_pos (hh x (by simp)), ih (fun y hy => hh y (by simp [hy]))]
  exact a1 l1 h1
theorem rep_num (d : Nat) : ∀ (k : Nat) (L : List Nat), rep (d : Int) k (num L) = num (List.replicate k d ++ L)
  | 0, L => rfl
  | k + 1, L => by
    show rep (d : Int) k (num L * 10 + (d : Int)) = _
    have := rep_num d k (d :: L)
    rw [show num L * 10 + (d : Int) = num (d :: L) from rfl, this]
    have e : List.replicate k d ++ d :: L = List.replicate (k + 1) d ++ L := by
      rw [List.replicate_succ', List.append_assoc]
      rfl
    rw [e]
end
