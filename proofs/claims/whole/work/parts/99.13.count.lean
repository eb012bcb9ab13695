/-! Sturm: what a product's chain counts is the sum of what its parts' chains count -/
def sumN (g : Nat → Int) : Nat → Int
  | 0 => 0
  | c + 1 => sumN g c + g c
theorem sumN_congr {g h : Nat → Int} : ∀ c : Nat, (∀ k, k < c → g k = h k) → sumN g c = sumN h c
  | 0, _ => rfl
  | c + 1, e => by
    show sumN g c + g c = sumN h c + h c
    rw [sumN_congr c (fun k hk => e k (by omega)), e c (by omega)]
theorem mul_le3 {x M D : Nat} {a : Int} (hx : (x : Int) = a.natAbs) (h : x ≤ M) : (a * (D : Int)).natAbs ≤ M * D := by
  rw [Int.natAbs_mul, Int.natAbs_natCast]
  exact Nat.mul_le_mul_right _ (by omega)
/-- places between two whole numbers -/
theorem mid_bd {a b : Int} {D : Nat} {M : Nat} (hM : a.natAbs + b.natAbs ≤ M) {n : Int} (h1 : a * D ≤ n) (h2 : n ≤ b * D) : n.natAbs ≤ M * D := by
  have e1 : (a * (D : Int)).natAbs ≤ a.natAbs * D := by rw [Int.natAbs_mul, Int.natAbs_natCast]; exact Nat.le_refl _
  have e2 : (b * (D : Int)).natAbs ≤ b.natAbs * D := by rw [Int.natAbs_mul, Int.natAbs_natCast]; exact Nat.le_refl _
  have e3 : (a.natAbs + b.natAbs) * D ≤ M * D := Nat.mul_le_mul_right _ hM
  rw [Nat.add_mul] at e3
  omega
section
variable {R : Type}
def sV (co : R → Nat → Int) (s : Nat → R) (k : Nat) (a : Int) : Int := vI (fun j => (hh 6 (co (s j)) a 1).sign) (k + 1) 0 0
theorem sgs_at (co : R → Nat → Int) (s : Nat → R) (a : Int) {D : Nat} (hD : 1 ≤ D) : sgs co s (a * D) D = fun j => (hh 6 (co (s j)) a 1).sign := by
  funext j
  unfold sgs he
  have p : (0 : Int) < (D : Int) ^ 6 := Int.pow_pos (by omega)
  rw [hh_at 6 (co (s j)) a D, Int.sign_mul, Int.sign_eq_one_iff_pos.mpr p, Int.one_mul]
theorem ch_count [Lean.Grind.CommRing R] {co : R → Nat → Int} {mk : Nat → (Nat → Int) → R} (H : PolyR co mk) {s : Nat → R} {k : Nat} (h : isCh co mk s k) {a b : Int} (hab : a ≤ b) : ∃ D0 : Nat, ∀ D : Nat, D0 < D → sV co s k a - sV co s k b = cnS (eR co (s 0) D) (a * D) ((b - a).toNat * D) := by
  obtain ⟨D0, hD0⟩ := ch_step H h (a.natAbs + b.natAbs)
  refine ⟨D0, fun D hD => ?_⟩
  have er : (((b - a).toNat * D : Nat) : Int) = b * D - a * D := by
    rw [Int.natCast_mul, Int.toNat_of_nonneg (by omega), Int.sub_mul]
  have inr : ∀ i : Nat, i ≤ (b - a).toNat * D → (a * (D : Int) + i).natAbs ≤ (a.natAbs + b.natAbs) * D := fun i hi => mid_bd (a := a) (b := b) (Nat.le_refl _) (by omega) (by omega)
  have ee : ∀ n : Int, n.natAbs ≤ (a.natAbs + b.natAbs) * D → eS (he co (s 0) n D) (he co (s 1) n D) = eR co (s 0) D n := fun n hn => by
    have h2 := (hD0 D n hD hn).2
    unfold eS eR
    by_cases z : he co (s 0) n D = 0
    · rw [if_pos z, if_pos z, h2 z]
    · rw [if_neg z, if_neg z]
  have tel := cnt_tel (e := eR co (s 0) D) (V := fun n => vI (sgs co s n D) (k + 1) 0 0) (lo := a * D) ((b - a).toNat * D) (fun i hi => by
    have i1 := inr i (by omega)
    have i2 := inr (i + 1) (by omega)
    rw [show a * (D : Int) + ((i + 1 : Nat) : Int) = a * D + i + 1 from by omega] at i2
    have st := (hD0 D _ hD i1).1
    rw [ee _ i1, ee _ i2] at st
    exact st)
  rw [← tel]
  show _ = vI (sgs co s (a * D) D) (k + 1) 0 0 - vI (sgs co s (a * D + (((b - a).toNat * D : Nat) : Int)) D) (k + 1) 0 0
  rw [er, show a * (D : Int) + (b * D - a * D) = b * D from by omega, sgs_at co s a (by omega), sgs_at co s b (by omega)]
  rfl
theorem he_mul [Lean.Grind.CommRing R] {co : R → Nat → Int} {mk : Nat → (Nat → Int) → R} (H : PolyR co mk) {f g : R} (hf : d6 co f) (hg : d6 co g) (hfg : d6 co (f * g)) (n : Int) {D : Nat} (hD : 1 ≤ D) : (he co (f * g) n D).sign = (he co f n D).sign * (he co g n D).sign := by
  have e1 := hh_prod H (N := 6) hf hg n D
  have e2 := hh_pad 6 (co (f * g)) n D hfg 6
  have p : (0 : Int) < (D : Int) ^ 6 := Int.pow_pos (by omega)
  have e3 : (D : Int) ^ 6 * he co (f * g) n D = he co f n D * he co g n D := by
    rw [show he co (f * g) n D = hh 6 (co (f * g)) n D from rfl, ← e2, e1]
    rfl
  rw [← Int.sign_mul, ← e3, Int.sign_mul, Int.sign_eq_one_iff_pos.mpr p, Int.one_mul]
theorem sign_0 {x : Int} : x.sign = 0 ↔ x = 0 := Int.sign_eq_zero_iff_zero
theorem cop_cnt [Lean.Grind.CommRing R] {co : R → Nat → Int} {mk : Nat → (Nat → Int) → R} (H : PolyR co mk) {f g : R} (hf : d6 co f) (hg : d6 co g) (hfg : d6 co (f * g)) (hc : cop mk f g) (M : Nat) : ∃ D0 : Nat, ∀ (D : Nat) (n : Int), D0 < D → n.natAbs ≤ M * D → (n + 1).natAbs ≤ M * D → (if eR co (f * g) D n = eR co (f * g) D (n + 1) then (0 : Int) else 1) = (if eR co f D n = eR co f D (n + 1) then 0 else 1) + (if eR co g D n = eR co g D (n + 1) then 0 else 1) := by
  obtain ⟨Lf, hLf⟩ := sh_b1 co f M
  obtain ⟨Lg, hLg⟩ := sh_b1 co g M
  obtain ⟨K, hK⟩ := cop_b H hf hg hc M
  refine ⟨2 * K * (Lf + Lg), fun D n hD hn hn1 => ?_⟩
  have D1 : 1 ≤ D := by omega
  have nb : ∀ n : Int, n.natAbs ≤ M * D → smT co (Lf + Lg) D n f → ¬ smT co (Lf + Lg) D n g := fun n hn a b => two_small (T := Lf + Lg) (K := K) (by omega) a b (hK D n D1 hn)
  have sf : ∀ n : Int, n.natAbs ≤ M * D → ¬ smT co (Lf + Lg) D n f → (he co f n D).sign = (he co f (n + 1) D).sign ∧ he co f n D ≠ 0 := fun n hn ns => same_sign (T := Lf + Lg) (P := D ^ 6) D1 (Nat.le_trans (hLf D n D1 hn) (Nat.mul_le_mul_right _ (by omega))) ns
  have sgg : ∀ n : Int, n.natAbs ≤ M * D → ¬ smT co (Lf + Lg) D n g → (he co g n D).sign = (he co g (n + 1) D).sign ∧ he co g n D ≠ 0 := fun n hn ns => same_sign (T := Lf + Lg) (P := D ^ 6) D1 (Nat.le_trans (hLg D n D1 hn) (Nat.mul_le_mul_right _ (by omega))) ns
  have smz : ∀ (a : R) (n : Int), he co a n D = 0 → smT co (Lf + Lg) D n a := fun a n z => by unfold smT; rw [z]; simp
  have mul := fun n => he_mul H hf hg hfg n D1
  have em : ∀ n : Int, n.natAbs ≤ M * D → eR co (f * g) D n = eR co f D n * eR co g D n := fun n hn => by
    unfold eR
    by_cases zf : he co f n D = 0
    · have g1 := sgg n hn (nb n hn (smz f n zf))
      have z : he co (f * g) n D = 0 := by
        have := mul n
        rw [zf, Int.sign_zero, Int.zero_mul] at this
        exact sign_0.mp this
      rw [if_pos z, if_pos zf, if_neg g1.2, mul, g1.1]
    · by_cases zg : he co g n D = 0
      · have f1 := sf n hn (fun w => nb n hn w (smz g n zg))
        have z : he co (f * g) n D = 0 := by
          have := mul n
          rw [zg, Int.sign_zero, Int.mul_zero] at this
          exact sign_0.mp this
        rw [if_pos z, if_neg zf, if_pos zg, mul, f1.1]
      · have z : he co (f * g) n D ≠ 0 := fun w => by
          have := mul n
          rw [w, Int.sign_zero] at this
          rcases Int.mul_eq_zero.mp this.symm with v | v
          · exact zf (sign_0.mp v)
          · exact zg (sign_0.mp v)
        rw [if_neg z, if_neg zf, if_neg zg, mul]
  have st : ∀ (a : R), ((he co a n D).sign = (he co a (n + 1) D).sign ∧ he co a n D ≠ 0) → eR co a D n = eR co a D (n + 1) ∧ (eR co a D n = 1 ∨ eR co a D n = -1) := fun a ⟨h1, h2⟩ => by
    have h3 : he co a (n + 1) D ≠ 0 := fun w => by
      rw [w, Int.sign_zero] at h1
      exact h2 (sign_0.mp h1)
    unfold eR
    rw [if_neg h2, if_neg h3]
    refine ⟨h1, ?_⟩
    rcases sgn3 (he co a n D) with ⟨_, w⟩ | ⟨w, _⟩ | ⟨w, _⟩
    · exact absurd w h2
    · exact Or.inl w
    · exact Or.inr w
  rw [em n hn, em (n + 1) hn1]
  rcases Classical.em (smT co (Lf + Lg) D n f) with q | q
  · obtain ⟨e1, e2⟩ := st g (sgg n hn (nb n hn q))
    rw [if_pos e1, ← e1, Int.add_zero]
    by_cases w : eR co f D n = eR co f D (n + 1)
    · rw [w, if_pos rfl, if_pos rfl]
    · rw [if_neg w, if_neg]
      rcases e2 with z | z <;> rw [z] <;> omega
  · obtain ⟨e1, e2⟩ := st f (sf n hn q)
    rw [if_pos e1, ← e1, Int.zero_add]
    by_cases w : eR co g D n = eR co g D (n + 1)
    · rw [w, if_pos rfl, if_pos rfl]
    · rw [if_neg w, if_neg]
      rcases e2 with z | z <;> rw [z] <;> omega
def PI [Lean.Grind.CommRing R] (f : Nat → R) : Nat → R
  | 0 => 1
  | c + 1 => PI f c * f c
theorem prod_cnt [Lean.Grind.CommRing R] {co : R → Nat → Int} {mk : Nat → (Nat → Int) → R} (H : PolyR co mk) {f : Nat → R} {a b : Int} (hab : a ≤ b) : ∀ c : Nat, (∀ k, k < c → d6 co (f k)) → (∀ k, k ≤ c → d6 co (PI f k)) → (∀ k, k < c → cop mk (PI f k) (f k)) → ∃ D0 : Nat, ∀ D : Nat, D0 < D → cnS (eR co (PI f c) D) (a * D) ((b - a).toNat * D) = sumN (fun k => cnS (eR co (f k) D) (a * D) ((b - a).toNat * D)) c
  | 0, _, _, _ => by
    refine ⟨0, fun D hD => ?_⟩
    have e1 : ∀ n : Int, eR co (PI f 0) D n = 1 := fun n => by
      have v : ∀ n : Int, he co (PI f 0) n D = (D : Int) ^ 6 * 1 := fun n => by
        have : (PI f 0 : R) = mo mk 0 1 := (C_one H).symm
        unfold he
        rw [this]
        exact hh_const H 1 6 n D
      have p : (0 : Int) < (D : Int) ^ 6 := Int.pow_pos (by omega)
      unfold eR
      rw [v, Int.mul_one, if_neg (by omega)]
      exact Int.sign_eq_one_iff_pos.mpr p
    have z : ∀ r : Nat, cnS (eR co (PI f 0) D) (a * D) r = 0 := fun r => by
      induction r with
      | zero => rfl
      | succ r ih =>
        show cnS _ _ r + (if _ then (0 : Int) else 1) = 0
        rw [ih, e1, e1, if_pos rfl]
        rfl
    exact z _
  | c + 1, h1, h2, h3 => by
    obtain ⟨D1, hD1⟩ := prod_cnt H hab c (fun k hk => h1 k (by omega)) (fun k hk => h2 k (by omega)) (fun k hk => h3 k (by omega))
    obtain ⟨D2, hD2⟩ := cop_cnt H (h2 c (by omega)) (h1 c (by omega)) (h2 (c + 1) (Nat.le_refl _)) (h3 c (by omega)) (a.natAbs + b.natAbs)
    refine ⟨D1 + D2, fun D hD => ?_⟩
    have er : (((b - a).toNat * D : Nat) : Int) = b * D - a * D := by
      rw [Int.natCast_mul, Int.toNat_of_nonneg (by omega), Int.sub_mul]
    have inr : ∀ i : Nat, i ≤ (b - a).toNat * D → (a * (D : Int) + i).natAbs ≤ (a.natAbs + b.natAbs) * D := fun i hi => mid_bd (a := a) (b := b) (Nat.le_refl _) (by omega) (by omega)
    have e := cnt_add (e := eR co (PI f (c + 1)) D) (f := eR co (PI f c) D) (g := eR co (f c) D) (lo := a * D) ((b - a).toNat * D) (fun i hi => by
      have i1 := inr i (by omega)
      have i2 := inr (i + 1) (by omega)
      rw [show a * (D : Int) + ((i + 1 : Nat) : Int) = a * D + i + 1 from by omega] at i2
      exact hD2 D _ (by omega) i1 i2)
    rw [e, hD1 D (by omega)]
    rfl
/-- counting: the product's chain and its parts' -/
theorem sturm_add [Lean.Grind.CommRing R] {co : R → Nat → Int} {mk : Nat → (Nat → Int) → R} (H : PolyR co mk) {f : Nat → R} {c : Nat} {a b : Int} (hab : a ≤ b) (h1 : ∀ k, k < c → d6 co (f k)) (h2 : ∀ k, k ≤ c → d6 co (PI f k)) (h3 : ∀ k, k < c → cop mk (PI f k) (f k)) {S : Nat → R} {K : Nat} (hS : isCh co mk S K) (eS0 : S 0 = PI f c) {s : Nat → Nat → R} {kk : Nat → Nat} (hs : ∀ k, k < c → isCh co mk (s k) (kk k) ∧ s k 0 = f k) : sV co S K a - sV co S K b = sumN (fun k => sV co (s k) (kk k) a - sV co (s k) (kk k) b) c := by
  obtain ⟨D1, hD1⟩ := prod_cnt H hab c h1 h2 h3
  obtain ⟨D2, hD2⟩ := ch_count H hS hab
  obtain ⟨D3, hD3⟩ := ex_max (P := fun k L => k < c → ∀ D : Nat, L < D → sV co (s k) (kk k) a - sV co (s k) (kk k) b = cnS (eR co (s k 0) D) (a * D) ((b - a).toNat * D)) (fun i L L' hl hp hi D hD => hp hi D (by omega)) c (fun k _ => by
    rcases Nat.lt_or_ge k c with q | q
    · obtain ⟨L, hL⟩ := ch_count H (hs k q).1 hab
      exact ⟨L, fun _ => hL⟩
    · exact ⟨0, fun w => by omega⟩)
  have e2 := hD2 (D1 + D2 + D3 + 1) (by omega)
  rw [e2, eS0, hD1 _ (by omega)]
  refine sumN_congr c (fun k hk => ?_)
  rw [hD3 k (by omega) hk (D1 + D2 + D3 + 1) (by omega), (hs k hk).2]
/-- far out the last number tells the sign -/
theorem far_hh : ∀ (k : Nat) (f : Nat → Int), f k ≠ 0 → ∃ B : Nat, ∀ x : Int, (B : Int) ≤ x → (hh k f x 1).sign = (f k).sign ∧ (hh k f (-x) 1).sign = (if k % 2 = 0 then 1 else -1) * (f k).sign
  | 0, f, _ => ⟨0, fun x _ => ⟨rfl, by rw [if_pos rfl, Int.one_mul]; rfl⟩⟩
  | k + 1, f, h => by
    obtain ⟨B, hB⟩ := far_hh k (fun j => f (j + 1)) h
    refine ⟨B + (f 0).natAbs + 1, fun x hx => ?_⟩
    obtain ⟨b1, b2⟩ := hB x (by omega)
    have key : ∀ (y v : Int), v ≠ 0 → (f 0).natAbs < y.natAbs → (f 0 * 1 ^ (k + 1) + y * v).sign = y.sign * v.sign := fun y v v0 hy => by
      rw [Int.one_pow, Int.mul_one, ← Int.sign_mul]
      have : y.natAbs * 1 ≤ y.natAbs * v.natAbs := Nat.mul_le_mul_left _ (by omega)
      rw [← Int.natAbs_mul] at this
      have s1 := sgn3 (y * v)
      have s2 := sgn3 (f 0 + y * v)
      omega
    have nz : (f (k + 1)).sign ≠ 0 := fun w => h (sign_0.mp w)
    have v1 : hh k (fun j => f (j + 1)) x 1 ≠ 0 := fun w => by
      rw [w, Int.sign_zero] at b1
      exact nz b1.symm
    have v2 : hh k (fun j => f (j + 1)) (-x) 1 ≠ 0 := fun w => by
      rw [w, Int.sign_zero] at b2
      have b2' : 0 = (if k % 2 = 0 then 1 else -1) * (f (k + 1)).sign := b2
      split at b2' <;> omega
    refine ⟨?_, ?_⟩
    · show (f 0 * 1 ^ (k + 1) + x * hh k (fun j => f (j + 1)) x 1).sign = _
      rw [key x _ v1 (by omega), b1, Int.sign_eq_one_iff_pos.mpr (by omega), Int.one_mul]
    · show (f 0 * 1 ^ (k + 1) + -x * hh k (fun j => f (j + 1)) (-x) 1).sign = _
      rw [key (-x) _ v2 (by omega), b2, Int.sign_eq_neg_one_of_neg (by omega)]
      show -1 * ((if k % 2 = 0 then 1 else -1) * (f (k + 1)).sign) = (if (k + 1) % 2 = 0 then 1 else -1) * (f (k + 1)).sign
      rcases Nat.mod_two_eq_zero_or_one k with z | z
      · rw [if_pos z, if_neg (by omega)]; omega
      · rw [if_neg (by omega), if_pos (by omega)]; omega
/-- changes of sign far out: the degrees are dd -/
def sF (co : R → Nat → Int) (s : Nat → R) (dd : Nat → Nat) (k : Nat) (below : Bool) : Int := vI (fun j => (if below = true ∧ dd j % 2 ≠ 0 then -1 else 1) * (co (s j) (dd j)).sign) (k + 1) 0 0
theorem vI_congr {σ τ : Nat → Int} : ∀ (m i : Nat) (b : Int), (∀ j, i ≤ j → j < i + m → σ j = τ j) → vI σ m i b = vI τ m i b
  | 0, _, _, _ => rfl
  | m + 1, i, b, h => by
    show (if σ i = 0 then vI σ m (i + 1) b else (if σ i = -b then 1 else 0) + vI σ m (i + 1) (σ i)) = (if τ i = 0 then vI τ m (i + 1) b else (if τ i = -b then 1 else 0) + vI τ m (i + 1) (τ i))
    rw [h i (Nat.le_refl _) (by omega), vI_congr m (i + 1) b (fun j a c => h j (by omega) (by omega)), vI_congr m (i + 1) (τ i) (fun j a c => h j (by omega) (by omega))]
theorem far_V {co : R → Nat → Int} {s : Nat → R} {dd : Nat → Nat} {k : Nat} (hd : ∀ i, i ≤ k → dd i ≤ 6 ∧ tz co (s i) (dd i)) : ∃ B : Nat, ∀ x : Int, (B : Int) ≤ x → sV co s k (-x) = sF co s dd k true ∧ sV co s k x = sF co s dd k false := by
  obtain ⟨B, hB⟩ := ex_max (P := fun i L => ∀ x : Int, (L : Int) ≤ x → (hh 6 (co (s i)) x 1).sign = (co (s i) (dd i)).sign ∧ (hh 6 (co (s i)) (-x) 1).sign = (if dd i % 2 = 0 then 1 else -1) * (co (s i) (dd i)).sign) (fun i L L' hl hp x hx => hp x (by omega)) k (fun i hi => by
    obtain ⟨h1, h2⟩ := hd i hi
    obtain ⟨L, hL⟩ := far_hh (dd i) (co (s i)) h2.1
    refine ⟨L, fun x hx => ?_⟩
    have pad : ∀ y : Int, hh 6 (co (s i)) y 1 = hh (dd i) (co (s i)) y 1 := fun y => by
      have := hh_pad (dd i) (co (s i)) y 1 h2.2 (6 - dd i)
      rw [show dd i + (6 - dd i) = 6 from by omega, Int.one_pow, Int.one_mul] at this
      exact this
    rw [pad, pad]
    exact hL x hx)
  refine ⟨B, fun x hx => ⟨vI_congr _ _ _ (fun j _ hj => ?_), vI_congr _ _ _ (fun j _ hj => ?_)⟩⟩
  · rw [(hB j (by omega) x hx).2]
    by_cases z : dd j % 2 = 0
    · rw [if_pos z, if_neg (fun w => w.2 z)]
    · rw [if_neg z, if_pos ⟨rfl, z⟩]
  · rw [(hB j (by omega) x hx).1, if_neg (by simp), Int.one_mul]
theorem sturm_far [Lean.Grind.CommRing R] {co : R → Nat → Int} {mk : Nat → (Nat → Int) → R} (H : PolyR co mk) {f : Nat → R} {c : Nat} (h1 : ∀ k, k < c → d6 co (f k)) (h2 : ∀ k, k ≤ c → d6 co (PI f k)) (h3 : ∀ k, k < c → cop mk (PI f k) (f k)) {S : Nat → R} {K : Nat} {dS : Nat → Nat} (hS : isCh co mk S K) (eS0 : S 0 = PI f c) (tS : ∀ i, i ≤ K → dS i ≤ 6 ∧ tz co (S i) (dS i)) {s : Nat → Nat → R} {kk : Nat → Nat} {ds : Nat → Nat → Nat} (hs : ∀ k, k < c → isCh co mk (s k) (kk k) ∧ s k 0 = f k) (ts : ∀ k, k < c → ∀ i, i ≤ kk k → ds k i ≤ 6 ∧ tz co (s k i) (ds k i)) : sF co S dS K true - sF co S dS K false = sumN (fun k => sF co (s k) (ds k) (kk k) true - sF co (s k) (ds k) (kk k) false) c := by
  obtain ⟨B1, hB1⟩ := far_V tS
  obtain ⟨B2, hB2⟩ := ex_max (P := fun k L => k < c → ∀ x : Int, (L : Int) ≤ x → sV co (s k) (kk k) (-x) = sF co (s k) (ds k) (kk k) true ∧ sV co (s k) (kk k) x = sF co (s k) (ds k) (kk k) false) (fun i L L' hl hp hi x hx => hp hi x (by omega)) c (fun k _ => by
    rcases Nat.lt_or_ge k c with q | q
    · obtain ⟨L, hL⟩ := far_V (ts k q)
      exact ⟨L, fun _ => hL⟩
    · exact ⟨0, fun w => by omega⟩)
  have e := sturm_add H (a := -((B1 + B2 : Nat) : Int)) (b := ((B1 + B2 : Nat) : Int)) (by omega) h1 h2 h3 hS eS0 hs
  obtain ⟨x1, x2⟩ := hB1 ((B1 + B2 : Nat) : Int) (by omega)
  rw [x1, x2] at e
  rw [e]
  refine sumN_congr c (fun k hk => ?_)
  obtain ⟨y1, y2⟩ := hB2 k (by omega) hk ((B1 + B2 : Nat) : Int) (by omega)
  rw [y1, y2]
end
