/-! polynomials by a prime: divisors, degrees, irreducible ones -/
theorem nat_min {P : Nat → Prop} : ∀ (n : Nat), P n → ∃ i, P i ∧ ∀ j, j < i → ¬ P j := by
  intro n
  induction n using Nat.strongRecOn with
  | ind n ih =>
    intro h
    rcases Classical.em (∃ j, j < n ∧ P j) with ⟨j, hj, hp⟩ | q
    · exact ih j hj hp
    · exact ⟨n, h, fun j hj hp => q ⟨j, hj, hp⟩⟩
theorem nat_max {P : Nat → Prop} : ∀ (N : Nat), (∀ k, N ≤ k → ¬ P k) → (∃ i, P i) → ∃ i, P i ∧ ∀ j, i < j → ¬ P j
  | 0, h, ⟨i, hi⟩ => absurd hi (h i (Nat.zero_le _))
  | N + 1, h, e => by
    rcases Classical.em (P N) with q | q
    · exact ⟨N, q, fun j hj => h j (by omega)⟩
    · refine nat_max N (fun k hk => ?_) e
      by_cases z : k = N
      · subst z; exact q
      · exact h k (by omega)
section
variable {R : Type}
theorem co_zero [Lean.Grind.CommRing R] {co : R → Nat → Int} {mk : Nat → (Nat → Int) → R} (H : PolyR co mk) (n : Nat) : co 0 n = 0 := by
  have h := H.2.1 0 0 n
  rw [show (0 : R) + 0 = 0 from by grind] at h
  omega
theorem co_neg [Lean.Grind.CommRing R] {co : R → Nat → Int} {mk : Nat → (Nat → Int) → R} (H : PolyR co mk) (a : R) (n : Nat) : co (-a) n = - co a n := by
  have h := H.2.1 (-a) a n
  rw [show -a + a = 0 from by grind, co_zero H] at h
  omega
theorem co_sub [Lean.Grind.CommRing R] {co : R → Nat → Int} {mk : Nat → (Nat → Int) → R} (H : PolyR co mk) (a b : R) (n : Nat) : co (a - b) n = co a n - co b n := by
  rw [show a - b = a + -b from by grind, H.2.1, co_neg H]
  omega
/-- a number times a power of x -/
def mo (mk : Nat → (Nat → Int) → R) (k : Nat) (c : Int) : R := mk (k + 1) (fun i => if i = k then c else 0)
theorem co_mo [Lean.Grind.CommRing R] {co : R → Nat → Int} {mk : Nat → (Nat → Int) → R} (H : PolyR co mk) (k : Nat) (c : Int) (n : Nat) : co (mo mk k c) n = if n = k then c else 0 := by
  unfold mo
  rw [H.2.2.2.2.2]
  by_cases q : n = k
  · rw [if_pos (by omega), if_pos q]
  · rw [if_neg q]
    split <;> rfl
theorem co_momul [Lean.Grind.CommRing R] {co : R → Nat → Int} {mk : Nat → (Nat → Int) → R} (H : PolyR co mk) (k : Nat) (c : Int) (b : R) (n : Nat) : co (mo mk k c * b) n = if k ≤ n then c * co b (n - k) else 0 := by
  rw [H.2.2.1]
  unfold cv
  by_cases q : k ≤ n
  · rw [if_pos q, sg_one (j := k) (n + 1) (by omega) (fun i a z => by rw [co_mo H, if_neg z, Int.zero_mul]), co_mo H, if_pos rfl]
  · rw [if_neg q]
    exact sg_zero _ (fun i hi => by rw [co_mo H, if_neg (by omega), Int.zero_mul])
/-- a prime -/
def isPr (p : Int) : Prop := 2 ≤ p ∧ ∀ a b : Int, p ∣ a * b → p ∣ a ∨ p ∣ b
/-- all numbers are divisible by p -/
def dvp (co : R → Nat → Int) (p : Int) (a : R) : Prop := ∀ n, p ∣ co a n
theorem dvp_add [Lean.Grind.CommRing R] {co : R → Nat → Int} {mk : Nat → (Nat → Int) → R} (H : PolyR co mk) {p : Int} {a b : R} (h1 : dvp co p a) (h2 : dvp co p b) : dvp co p (a + b) := fun n => by
  rw [H.2.1]; exact Int.dvd_add (h1 n) (h2 n)
theorem dvp_neg [Lean.Grind.CommRing R] {co : R → Nat → Int} {mk : Nat → (Nat → Int) → R} (H : PolyR co mk) {p : Int} {a : R} (h1 : dvp co p a) : dvp co p (-a) := fun n => by
  rw [co_neg H]; exact Int.dvd_neg.mpr (h1 n)
theorem dvp_mul [Lean.Grind.CommRing R] {co : R → Nat → Int} {mk : Nat → (Nat → Int) → R} (H : PolyR co mk) {p : Int} {a : R} (b : R) (h1 : dvp co p a) : dvp co p (b * a) := fun n => by
  rw [H.2.2.1]
  exact sg_dvd _ (fun i _ => Int.dvd_mul_of_dvd_right (h1 _))
theorem dvp_zero [Lean.Grind.CommRing R] {co : R → Nat → Int} {mk : Nat → (Nat → Int) → R} (H : PolyR co mk) {p : Int} : dvp co p (0 : R) := fun n => by
  rw [co_zero H]; exact Int.dvd_zero p
theorem dvp_prime [Lean.Grind.CommRing R] {co : R → Nat → Int} {mk : Nat → (Nat → Int) → R} (H : PolyR co mk) {p : Int} (hp : isPr p) {a b : R} (h : dvp co p (a * b)) : dvp co p a ∨ dvp co p b := by
  refine Classical.byContradiction fun q => ?_
  have qa : ¬ dvp co p a := fun z => q (Or.inl z)
  have qb : ¬ dvp co p b := fun z => q (Or.inr z)
  obtain ⟨i0, hi0⟩ := Classical.not_forall.mp qa
  obtain ⟨j0, hj0⟩ := Classical.not_forall.mp qb
  obtain ⟨i, hi, hi2⟩ := nat_min (P := fun n => ¬ p ∣ co a n) i0 hi0
  obtain ⟨j, hj, hj2⟩ := nat_min (P := fun n => ¬ p ∣ co b n) j0 hj0
  have h1 := h (i + j)
  rw [H.2.2.1] at h1
  have h2 := sg_dvd1 (p := p) (F := fun s => co a s * co b (i + j - s)) (j := i) (i + j + 1) (by omega) (fun s hs hne => by
    by_cases z : s < i
    · exact Int.dvd_mul_of_dvd_left (Classical.not_not.mp (hi2 s z))
    · exact Int.dvd_mul_of_dvd_right (Classical.not_not.mp (hj2 (i + j - s) (by omega))))
  have h3 : p ∣ co a i * co b (i + j - i) := by
    have := Int.dvd_sub h1 h2
    rwa [show cv (co a) (co b) (i + j) - (sg (fun s => co a s * co b (i + j - s)) (i + j + 1) - co a i * co b (i + j - i)) = co a i * co b (i + j - i) from by unfold cv; omega] at this
  rw [show i + j - i = j from by omega] at h3
  rcases hp.2 _ _ h3 with z | z
  · exact hi z
  · exact hj z
/-- the top place by p -/
def tpp (co : R → Nat → Int) (p : Int) (a : R) (n : Nat) : Prop := ¬ p ∣ co a n ∧ ∀ k, n < k → p ∣ co a k
/-- the degree by p is below n -/
def dlp (co : R → Nat → Int) (p : Int) (a : R) (n : Nat) : Prop := ∀ k, n ≤ k → p ∣ co a k
theorem tpp_uniq {co : R → Nat → Int} {p : Int} {a : R} {n l : Nat} (h : tpp co p a n) (h2 : tpp co p a l) : n = l := by
  rcases Nat.lt_trichotomy n l with q | q | q
  · exact absurd (h.2 l q) h2.1
  · exact q
  · exact absurd (h2.2 n q) h.1
theorem tpp_ex [Lean.Grind.CommRing R] {co : R → Nat → Int} {mk : Nat → (Nat → Int) → R} (H : PolyR co mk) {p : Int} {a : R} (h : ¬ dvp co p a) : ∃ n, tpp co p a n := by
  obtain ⟨N, hN⟩ := H.2.2.2.2.1 a
  obtain ⟨i, h1, h2⟩ := nat_max (P := fun n => ¬ p ∣ co a n) N (fun k hk q => q (by rw [hN k hk]; exact Int.dvd_zero p)) (Classical.not_forall.mp h)
  exact ⟨i, h1, fun k hk => Classical.not_not.mp (h2 k hk)⟩
theorem tpp_lt {co : R → Nat → Int} {p : Int} {a : R} {n l : Nat} (h : tpp co p a n) (h2 : dlp co p a l) : n < l := by
  refine Classical.byContradiction fun q => h.1 (h2 n (by omega))
theorem tpp_nd {co : R → Nat → Int} {p : Int} {a : R} {n : Nat} (h : tpp co p a n) : ¬ dvp co p a := fun q => h.1 (q n)
theorem tpp_congr [Lean.Grind.CommRing R] {co : R → Nat → Int} {mk : Nat → (Nat → Int) → R} (H : PolyR co mk) {p : Int} {a b : R} {n : Nat} (h : dvp co p (a - b)) (ha : tpp co p a n) : tpp co p b n := by
  have e : ∀ k, p ∣ co a k - co b k := fun k => by have := h k; rwa [co_sub H] at this
  refine ⟨fun q => ha.1 ?_, fun k hk => ?_⟩
  · have := Int.dvd_add (e n) q
    rwa [show co a n - co b n + co b n = co a n from by omega] at this
  · have := Int.dvd_sub (ha.2 k hk) (e k)
    rwa [show co a k - (co a k - co b k) = co b k from by omega] at this
theorem tpp_mul [Lean.Grind.CommRing R] {co : R → Nat → Int} {mk : Nat → (Nat → Int) → R} (H : PolyR co mk) {p : Int} (hp : isPr p) {a b : R} {n l : Nat} (ha : tpp co p a n) (hb : tpp co p b l) : tpp co p (a * b) (n + l) := by
  refine ⟨fun q => ?_, fun k hk => ?_⟩
  · rw [H.2.2.1] at q
    have h2 := sg_dvd1 (p := p) (F := fun s => co a s * co b (n + l - s)) (j := n) (n + l + 1) (by omega) (fun s hs hne => by
      by_cases z : s < n
      · exact Int.dvd_mul_of_dvd_right (hb.2 (n + l - s) (by omega))
      · exact Int.dvd_mul_of_dvd_left (ha.2 s (by omega)))
    have h3 : p ∣ co a n * co b (n + l - n) := by
      have := Int.dvd_sub q h2
      rwa [show cv (co a) (co b) (n + l) - (sg (fun s => co a s * co b (n + l - s)) (n + l + 1) - co a n * co b (n + l - n)) = co a n * co b (n + l - n) from by unfold cv; omega] at this
    rw [show n + l - n = l from by omega] at h3
    rcases hp.2 _ _ h3 with z | z
    · exact ha.1 z
    · exact hb.1 z
  · rw [H.2.2.1]
    refine sg_dvd _ (fun s hs => ?_)
    by_cases z : n < s
    · exact Int.dvd_mul_of_dvd_left (ha.2 s z)
    · exact Int.dvd_mul_of_dvd_right (hb.2 (k - s) (by omega))
/-- a number that p doesn't divide has an inverse by p -/
theorem inv_ex {p : Int} (hp : isPr p) : ∀ (n : Nat) (b : Int), 0 < b → b ≤ n → b < p → ∃ c, p ∣ c * b - 1
  | 0, b, h0, h1, _ => by omega
  | n + 1, b, h0, h1, h2 => by
    by_cases q : b = 1
    · exact ⟨1, by rw [q]; exact Int.dvd_zero p⟩
    · have e := Int.mul_ediv_add_emod p b
      have r0 := Int.emod_nonneg p (show b ≠ 0 by omega)
      have r1 := Int.emod_lt_of_pos p h0
      by_cases z : p % b = 0
      · exfalso
        have e2 : p = b * (p / b) := by omega
        have d : p ∣ b * (p / b) := by rw [← e2]; exact Int.dvd_refl p
        rcases hp.2 _ _ d with w | w
        · exact absurd (Int.le_of_dvd h0 w) (by omega)
        · have p2 := hp.1
          have qpos : 0 < p / b := by
            refine Classical.byContradiction fun k => ?_
            have : b * (p / b) ≤ b * 0 := Int.mul_le_mul_of_nonneg_left (by omega) (by omega)
            omega
          have l := Int.le_of_dvd qpos w
          have : 2 * (p / b) ≤ b * (p / b) := Int.mul_le_mul_of_nonneg_right (by omega) (by omega)
          omega
      · obtain ⟨c, hc⟩ := inv_ex hp n (p % b) (by omega) (by omega) (by omega)
        refine ⟨-(c * (p / b)), ?_⟩
        have e3 : -(c * (p / b)) * b - 1 = (c * (p % b) - 1) - p * c := by
          have : p % b = p - b * (p / b) := by omega
          rw [this]
          grind
        rw [e3]
        exact Int.dvd_sub hc (Int.dvd_mul_right p c)
theorem inv_ex2 {p : Int} (hp : isPr p) (b : Int) (h : ¬ p ∣ b) : ∃ c, p ∣ c * b - 1 := by
  have p2 := hp.1
  have h0 := Int.emod_nonneg b (show p ≠ 0 by omega)
  have h1 := Int.emod_lt_of_pos b (show 0 < p by omega)
  have hz : b % p ≠ 0 := fun q => h (Int.dvd_of_emod_eq_zero q)
  obtain ⟨c, hc⟩ := inv_ex hp (b % p).toNat (b % p) (by omega) (by omega) h1
  refine ⟨c, ?_⟩
  have e := Int.mul_ediv_add_emod b p
  have : c * b - 1 = (c * (b % p) - 1) + p * (c * (b / p)) := by
    have : b % p = b - p * (b / p) := by omega
    rw [this]
    grind
  rw [this]
  exact Int.dvd_add hc (Int.dvd_mul_right p _)
/-- division with a rest, by p -/
theorem divp [Lean.Grind.CommRing R] {co : R → Nat → Int} {mk : Nat → (Nat → Int) → R} (H : PolyR co mk) {p : Int} (hp : isPr p) {b : R} {l : Nat} (hb : tpp co p b l) : ∀ (N : Nat) (a : R), dlp co p a N → ∃ q r : R, a = q * b + r ∧ dlp co p r l
  | 0, a, h => ⟨0, a, by grind, fun k _ => h k (by omega)⟩
  | N + 1, a, h => by
    by_cases q : N + 1 ≤ l
    · exact ⟨0, a, by grind, fun k hk => h k (by omega)⟩
    · obtain ⟨c, hc⟩ := inv_ex2 hp _ hb.1
      have h' : dlp co p (a - mo mk (N - l) (c * co a N) * b) N := by
        intro k hk
        rw [co_sub H, co_momul H, if_pos (by omega)]
        by_cases z : k = N
        · subst z
          rw [show k - (k - l) = l from by omega, show co a k - c * co a k * co b l = -(co a k * (c * co b l - 1)) from by grind]
          exact Int.dvd_neg.mpr (Int.dvd_mul_of_dvd_right hc)
        · exact Int.dvd_sub (h k (by omega)) (Int.dvd_mul_of_dvd_right (hb.2 _ (by omega)))
      obtain ⟨q2, r, e, hr⟩ := divp H hp hb N _ h'
      exact ⟨q2 + mo mk (N - l) (c * co a N), r, by grind, hr⟩
theorem dlp_ex [Lean.Grind.CommRing R] {co : R → Nat → Int} {mk : Nat → (Nat → Int) → R} (H : PolyR co mk) (p : Int) (a : R) : ∃ N, dlp co p a N := by
  obtain ⟨N, hN⟩ := H.2.2.2.2.1 a
  exact ⟨N, fun k hk => by rw [hN k hk]; exact Int.dvd_zero p⟩
/-- q of degree e can't be parted by p -/
def irp [Lean.Grind.CommRing R] (co : R → Nat → Int) (p : Int) (q : R) (e : Nat) : Prop := 1 ≤ e ∧ tpp co p q e ∧ ∀ a b : R, dvp co p (q - a * b) → dlp co p a 1 ∨ dlp co p b 1
/-- q divides a by p -/
def jd [Lean.Grind.CommRing R] (co : R → Nat → Int) (p : Int) (q a : R) : Prop := ∃ h, dvp co p (a - q * h)
theorem jd_add [Lean.Grind.CommRing R] {co : R → Nat → Int} {mk : Nat → (Nat → Int) → R} (H : PolyR co mk) {p : Int} {q a b : R} (h1 : jd co p q a) (h2 : jd co p q b) : jd co p q (a + b) := by
  obtain ⟨h, hh⟩ := h1
  obtain ⟨g, hg⟩ := h2
  exact ⟨h + g, by rw [show a + b - q * (h + g) = (a - q * h) + (b - q * g) from by grind]; exact dvp_add H hh hg⟩
theorem jd_mul [Lean.Grind.CommRing R] {co : R → Nat → Int} {mk : Nat → (Nat → Int) → R} (H : PolyR co mk) {p : Int} {q a : R} (b : R) (h1 : jd co p q a) : jd co p q (b * a) := by
  obtain ⟨h, hh⟩ := h1
  exact ⟨b * h, by rw [show b * a - q * (b * h) = b * (a - q * h) from by grind]; exact dvp_mul H b hh⟩
theorem jd_neg [Lean.Grind.CommRing R] {co : R → Nat → Int} {mk : Nat → (Nat → Int) → R} (H : PolyR co mk) {p : Int} {q a : R} (h1 : jd co p q a) : jd co p q (-a) := by
  rw [show -a = (-1) * a from by grind]
  exact jd_mul H _ h1
theorem jd_sub [Lean.Grind.CommRing R] {co : R → Nat → Int} {mk : Nat → (Nat → Int) → R} (H : PolyR co mk) {p : Int} {q a b : R} (h1 : jd co p q a) (h2 : jd co p q b) : jd co p q (a - b) := by
  rw [show a - b = a + -b from by grind]
  exact jd_add H h1 (jd_neg H h2)
theorem jd_dvp [Lean.Grind.CommRing R] {co : R → Nat → Int} {mk : Nat → (Nat → Int) → R} (_H : PolyR co mk) {p : Int} {q a : R} (h : dvp co p a) : jd co p q a := ⟨0, by rw [show a - q * 0 = a from by grind]; exact h⟩
theorem jd_self [Lean.Grind.CommRing R] {co : R → Nat → Int} {mk : Nat → (Nat → Int) → R} (H : PolyR co mk) {p : Int} (q b : R) : jd co p q (q * b) := ⟨b, by rw [show q * b - q * b = 0 from by grind]; exact dvp_zero H⟩
theorem jd_trans [Lean.Grind.CommRing R] {co : R → Nat → Int} {mk : Nat → (Nat → Int) → R} (H : PolyR co mk) {p : Int} {q a b : R} (h1 : jd co p q a) (h2 : jd co p a b) : jd co p q b := by
  obtain ⟨h, hh⟩ := h1
  obtain ⟨g, hg⟩ := h2
  exact ⟨h * g, by rw [show b - q * (h * g) = (b - a * g) + g * (a - q * h) from by grind]; exact dvp_add H hg (dvp_mul H g hh)⟩
/-- what q divides and has a lower degree is nought -/
theorem jd_low [Lean.Grind.CommRing R] {co : R → Nat → Int} {mk : Nat → (Nat → Int) → R} (H : PolyR co mk) {p : Int} (hp : isPr p) {q a : R} {e : Nat} (hq : tpp co p q e) (h : jd co p q a) (ha : dlp co p a e) : dvp co p a := by
  obtain ⟨h, hh⟩ := h
  rcases Classical.em (dvp co p h) with z | z
  · have := dvp_add H hh (dvp_mul H q z)
    rwa [show a - q * h + q * h = a from by grind] at this
  · obtain ⟨n, hn⟩ := tpp_ex H z
    have t := tpp_mul H hp hq hn
    have t2 := tpp_congr H (b := a) (by rw [show q * h - a = -(a - q * h) from by grind]; exact dvp_neg H hh) t
    exact absurd (tpp_lt t2 ha) (by omega)
theorem tpp_1 [Lean.Grind.CommRing R] {co : R → Nat → Int} {mk : Nat → (Nat → Int) → R} (H : PolyR co mk) {p : Int} (hp : isPr p) : tpp co p (1 : R) 0 := by
  refine ⟨fun q => ?_, fun k hk => ?_⟩
  · rw [H.2.2.2.1, if_pos rfl] at q
    have := Int.le_of_dvd (by decide) q
    have := hp.1
    omega
  · rw [H.2.2.2.1, if_neg (by omega)]
    exact Int.dvd_zero p
theorem jd_1 [Lean.Grind.CommRing R] {co : R → Nat → Int} {mk : Nat → (Nat → Int) → R} (H : PolyR co mk) {p : Int} (hp : isPr p) {q : R} {e : Nat} (hq : tpp co p q e) (he : 1 ≤ e) : ¬ jd co p q 1 := fun h => by
  have t := tpp_1 H hp (R := R)
  exact tpp_nd t (jd_low H hp hq h (fun k hk => t.2 k (by omega)))
/-- an irreducible one and one of lower degree that isn't nought make 1 -/
theorem bez [Lean.Grind.CommRing R] {co : R → Nat → Int} {mk : Nat → (Nat → Int) → R} (H : PolyR co mk) {p : Int} (hp : isPr p) {q : R} {e : Nat} (hq : irp co p q e) : ∀ (n : Nat) (a : R), tpp co p a n → n < e → ∃ u v : R, dvp co p (u * q + v * a - 1) := by
  intro n
  induction n using Nat.strongRecOn with
  | ind n ih =>
    intro a ha hn
    by_cases z : n = 0
    · subst z
      obtain ⟨c, hc⟩ := inv_ex2 hp _ ha.1
      refine ⟨0, mo mk 0 c, fun k => ?_⟩
      rw [show (0 : R) * q + mo mk 0 c * a - 1 = mo mk 0 c * a - 1 from by grind, co_sub H, co_momul H, if_pos (Nat.zero_le _), H.2.2.2.1]
      by_cases w : k = 0
      · subst w
        rw [if_pos rfl]
        exact hc
      · rw [if_neg w, Int.sub_zero]
        exact Int.dvd_mul_of_dvd_right (ha.2 _ (by omega))
    · obtain ⟨N, hN⟩ := dlp_ex H p q
      obtain ⟨s, r, er, hr⟩ := divp H hp ha N q hN
      rcases Classical.em (dvp co p r) with w | w
      · exfalso
        have hd : dvp co p (q - s * a) := by rw [show q - s * a = r from by grind]; exact w
        rcases hq.2.2 s a hd with y | y
        · have ns : ¬ dvp co p s := fun k => tpp_nd hq.2.1 (by
            have := dvp_add H hd (dvp_mul H a k)
            rwa [show q - s * a + a * s = q from by grind] at this)
          obtain ⟨l, hl⟩ := tpp_ex H ns
          have l0 := tpp_lt hl y
          have t := tpp_congr H (b := q) (by rw [show s * a - q = -(q - s * a) from by grind]; exact dvp_neg H hd) (tpp_mul H hp hl ha)
          have := tpp_uniq t hq.2.1
          omega
        · exact absurd (tpp_lt ha y) (by omega)
      · obtain ⟨l, hl⟩ := tpp_ex H w
        obtain ⟨u, v, huv⟩ := ih l (tpp_lt hl hr) r hl (by have := tpp_lt hl hr; omega)
        exact ⟨u + v, -(v * s), by rw [show (u + v) * q + -(v * s) * a - 1 = u * q + v * (q - s * a) - 1 from by grind, show q - s * a = r from by grind]; exact huv⟩
theorem bez2 [Lean.Grind.CommRing R] {co : R → Nat → Int} {mk : Nat → (Nat → Int) → R} (H : PolyR co mk) {p : Int} (hp : isPr p) {q : R} {e : Nat} (hq : irp co p q e) {a : R} (ha : ¬ jd co p q a) : ∃ u v : R, dvp co p (u * q + v * a - 1) := by
  obtain ⟨N, hN⟩ := dlp_ex H p a
  obtain ⟨s, r, er, hr⟩ := divp H hp hq.2.1 N a hN
  have nr : ¬ dvp co p r := fun k => ha ⟨s, by rw [show a - q * s = r from by grind]; exact k⟩
  obtain ⟨l, hl⟩ := tpp_ex H nr
  obtain ⟨u, v, huv⟩ := bez H hp hq l r hl (tpp_lt hl hr)
  exact ⟨u - v * s, v, by rw [show (u - v * s) * q + v * a - 1 = u * q + v * (a - s * q) - 1 from by grind, show a - s * q = r from by grind]; exact huv⟩
theorem jd_prime [Lean.Grind.CommRing R] {co : R → Nat → Int} {mk : Nat → (Nat → Int) → R} (H : PolyR co mk) {p : Int} (hp : isPr p) {q : R} {e : Nat} (hq : irp co p q e) {a b : R} (h : jd co p q (a * b)) : jd co p q a ∨ jd co p q b := by
  refine Classical.or_iff_not_imp_left.mpr fun na => ?_
  obtain ⟨u, v, huv⟩ := bez2 H hp hq na
  obtain ⟨g, hg⟩ := h
  refine ⟨u * b + v * g, ?_⟩
  rw [show b - q * (u * b + v * g) = v * (a * b - q * g) + -(b * (u * q + v * a - 1)) from by grind]
  exact dvp_add H (dvp_mul H v hg) (dvp_neg H (dvp_mul H b huv))
end
