/-! by a prime: which ones divide x to the power of p to the d, less x -/
section
variable {R : Type}
theorem prI_dvp [Lean.Grind.CommRing R] {co : R → Nat → Int} {mk : Nat → (Nat → Int) → R} (H : PolyR co mk) {p : Int} (hp : isPr p) : prI (dvp co p) :=
  ⟨dvp_zero H, fun _ _ => dvp_add H, fun _ b h => dvp_mul H b h, fun _ _ h => dvp_prime H hp h, tpp_nd (tpp_1 H hp)⟩
theorem prI_jd [Lean.Grind.CommRing R] {co : R → Nat → Int} {mk : Nat → (Nat → Int) → R} (H : PolyR co mk) {p : Int} (hp : isPr p) {q : R} {e : Nat} (hq : irp co p q e) : prI (jd co p q) :=
  ⟨jd_dvp H (dvp_zero H), fun _ _ => jd_add H, fun _ b h => jd_mul H b h, fun _ _ h => jd_prime H hp hq h, jd_1 H hp hq.2.1 hq.1⟩
theorem co_nr [Lean.Grind.CommRing R] {co : R → Nat → Int} {mk : Nat → (Nat → Int) → R} (H : PolyR co mk) (x : R) (k : Nat) : ∀ n : Nat, co (nr n * x) k = n * co x k
  | 0 => by
    show co (0 * x) k = _
    rw [show (0 : R) * x = 0 from by grind, co_zero H]
    omega
  | n + 1 => by
    show co ((nr n + 1) * x) k = _
    rw [show (nr n + 1) * x = nr n * x + x from by grind, H.2.1, co_nr H x k n, show ((n + 1 : Nat) : Int) = (n : Int) + 1 from by omega]
    grind
theorem dvp_nr [Lean.Grind.CommRing R] {co : R → Nat → Int} {mk : Nat → (Nat → Int) → R} (H : PolyR co mk) {p : Int} {n : Nat} (h : p ∣ n) (x : R) : dvp co p (nr n * x) := fun k => by
  rw [co_nr H]
  exact Int.dvd_mul_of_dvd_left h
theorem dvp_rsum [Lean.Grind.CommRing R] {co : R → Nat → Int} {mk : Nat → (Nat → Int) → R} (H : PolyR co mk) {p : Int} {F : Nat → R} : ∀ n : Nat, (∀ i, i < n → dvp co p (F i)) → dvp co p (rsum F n)
  | 0, _ => dvp_zero H
  | n + 1, h => dvp_add H (dvp_rsum H n (fun i hi => h i (by omega))) (h n (by omega))
theorem chs_p {P : Nat} (hp : isPr (P : Int)) {k : Nat} (h0 : 0 < k) (h1 : k < P) : (P : Int) ∣ (chs P k : Nat) := by
  obtain ⟨n, rfl⟩ : ∃ n, P = n + 1 := ⟨P - 1, by omega⟩
  obtain ⟨l, rfl⟩ : ∃ l, k = l + 1 := ⟨k - 1, by omega⟩
  have h := chs_k n l
  have d : ((n + 1 : Nat) : Int) ∣ ((l + 1 : Nat) : Int) * (chs (n + 1) (l + 1) : Nat) := by
    rw [← Int.natCast_mul, h, Int.natCast_mul]
    exact Int.dvd_mul_right _ _
  rcases hp.2 _ _ d with z | z
  · have := Int.le_of_dvd (by omega) z
    omega
  · exact z
theorem dream [Lean.Grind.CommRing R] {co : R → Nat → Int} {mk : Nat → (Nat → Int) → R} (H : PolyR co mk) {P : Nat} (hp : isPr (P : Int)) (a b : R) : dvp co P ((a + b) ^ P - (a ^ P + b ^ P)) := by
  have hp2 := hp.1
  obtain ⟨n, rfl⟩ : ∃ n, P = n + 1 := ⟨P - 1, by omega⟩
  have e : rsum (fun k => nr (chs (n + 1) k) * (a ^ k * b ^ (n + 1 - k))) (n + 1 + 1) = b ^ (n + 1) + (rsum (fun k => nr (chs (n + 1) (k + 1)) * (a ^ (k + 1) * b ^ (n + 1 - (k + 1)))) n + a ^ (n + 1)) := by
    rw [rsum_head]
    congr 1
    · rw [show chs (n + 1) 0 = 1 from rfl]
      show ((0 : R) + 1) * (a ^ 0 * b ^ (n + 1 - 0)) = _
      rw [Nat.sub_zero]
      grind
    · show rsum _ n + nr (chs (n + 1) (n + 1)) * (a ^ (n + 1) * b ^ (n + 1 - (n + 1))) = _
      congr 1
      rw [chs_n, Nat.sub_self]
      show ((0 : R) + 1) * (a ^ (n + 1) * b ^ 0) = _
      grind
  rw [binom, e, show ∀ s : R, b ^ (n + 1) + (s + a ^ (n + 1)) - (a ^ (n + 1) + b ^ (n + 1)) = s from fun s => by grind]
  exact dvp_rsum H n (fun i hi => dvp_nr H (chs_p hp (by omega) (by omega)) _)
theorem nr_pw [Lean.Grind.CommRing R] {co : R → Nat → Int} {mk : Nat → (Nat → Int) → R} (H : PolyR co mk) {P : Nat} (hp : isPr (P : Int)) : ∀ n : Nat, dvp co P ((nr n : R) ^ P - nr n)
  | 0 => by
    have hp2 := hp.1
    obtain ⟨n, e⟩ : ∃ n, P = n + 1 := ⟨P - 1, by omega⟩
    rw [show (nr 0 : R) = 0 from rfl, show (0 : R) ^ P - 0 = 0 from by rw [e]; grind]
    exact dvp_zero H
  | n + 1 => by
    have h1 := dream H hp (nr n : R) 1
    have h2 := nr_pw H hp n
    have := dvp_add H h1 h2
    show dvp co P ((nr n + 1 : R) ^ P - (nr n + 1))
    rwa [show (nr n + 1 : R) ^ P - (nr n ^ P + 1 ^ P) + (nr n ^ P - nr n) = (nr n + 1 : R) ^ P - (nr n + 1) from by
      rw [Lean.Grind.Semiring.one_pow]; grind] at this
theorem co_nr1 [Lean.Grind.CommRing R] {co : R → Nat → Int} {mk : Nat → (Nat → Int) → R} (H : PolyR co mk) (n k : Nat) : co (nr n : R) k = if k = 0 then (n : Int) else 0 := by
  have := co_nr H (1 : R) k n
  rw [show nr n * (1 : R) = nr n from by grind, H.2.2.2.1] at this
  rw [this]
  split
  · omega
  · rw [Int.mul_zero]
/-- constants are their own p-th powers -/
theorem kc_pw [Lean.Grind.CommRing R] {co : R → Nat → Int} {mk : Nat → (Nat → Int) → R} (H : PolyR co mk) {P : Nat} (hp : isPr (P : Int)) (c : Int) : dvp co P (mo mk 0 c ^ P - mo mk 0 c) := by
  have hp2 := hp.1
  have h0 := Int.emod_nonneg c (show (P : Int) ≠ 0 by omega)
  have hd : dvp co P (mo mk 0 c - nr (c % P).toNat) := fun k => by
    rw [co_sub H, co_mo H, co_nr1 H]
    split
    · rw [Int.toNat_of_nonneg h0]
      have := Int.mul_ediv_add_emod c P
      exact ⟨c / P, by omega⟩
    · exact Int.dvd_zero _
  have J := prI_dvp H hp
  exact prI_tr J (prI_tr J (prI_pw J hd P) (nr_pw H hp _)) (prI_sy J hd)
theorem rpow_mul [Lean.Grind.CommRing R] (a : R) (n : Nat) : ∀ k : Nat, a ^ (n * k) = (a ^ n) ^ k
  | 0 => by rw [Nat.mul_zero, Lean.Grind.Semiring.pow_zero, Lean.Grind.Semiring.pow_zero]
  | k + 1 => by rw [Nat.mul_succ, Lean.Grind.Semiring.pow_add, Lean.Grind.Semiring.pow_succ, rpow_mul a n k]
/-- the polynomial with the first n numbers of f, at t -/
def hpl [Lean.Grind.CommRing R] (mk : Nat → (Nat → Int) → R) (t : R) : Nat → (Nat → Int) → R
  | 0, _ => 0
  | n + 1, f => mo mk 0 (f 0) + t * hpl mk t n (fun k => f (k + 1))
theorem hpl_pw [Lean.Grind.CommRing R] {co : R → Nat → Int} {mk : Nat → (Nat → Int) → R} (H : PolyR co mk) {P : Nat} (hp : isPr (P : Int)) (t : R) : ∀ (n : Nat) (f : Nat → Int), dvp co P (hpl mk t n f ^ P - hpl mk (t ^ P) n f)
  | 0, f => nr_pw H hp 0
  | n + 1, f => by
    have h1 := dream H hp (mo mk 0 (f 0)) (t * hpl mk t n (fun k => f (k + 1)))
    have h2 := kc_pw H hp (f 0)
    have h3 := dvp_mul H (t ^ P) (hpl_pw H hp t n (fun k => f (k + 1)))
    have := dvp_add H (dvp_add H h1 h2) h3
    show dvp co P ((mo mk 0 (f 0) + t * hpl mk t n (fun k => f (k + 1))) ^ P - (mo mk 0 (f 0) + t ^ P * hpl mk (t ^ P) n (fun k => f (k + 1))))
    have em : (t * hpl mk t n (fun k => f (k + 1))) ^ P = t ^ P * hpl mk t n (fun k => f (k + 1)) ^ P := Lean.Grind.CommSemiring.mul_pow _ _ _
    rw [em] at this
    refine Eq.mp ?_ this
    congr 1
    grind
theorem hpl_cg [Lean.Grind.CommRing R] {mk : Nat → (Nat → Int) → R} {J : R → Prop} (hJ : prI J) {t s : R} (h : J (t - s)) : ∀ (n : Nat) (f : Nat → Int), J (hpl mk t n f - hpl mk s n f)
  | 0, f => by
    show J ((0 : R) - 0)
    rw [show (0 : R) - 0 = 0 from by grind]
    exact hJ.1
  | n + 1, f => by
    have ih := hpl_cg (mk := mk) hJ h n (fun k => f (k + 1))
    show J (mo mk 0 (f 0) + t * hpl mk t n (fun k => f (k + 1)) - (mo mk 0 (f 0) + s * hpl mk s n (fun k => f (k + 1))))
    rw [show ∀ a u v : R, a + t * u - (a + s * v) = t * (u - v) + v * (t - s) from fun a u v => by grind]
    exact hJ.2.1 _ _ (hJ.2.2.1 _ _ ih) (hJ.2.2.1 _ _ h)
theorem hpl_X [Lean.Grind.CommRing R] {co : R → Nat → Int} {mk : Nat → (Nat → Int) → R} (H : PolyR co mk) : ∀ (n : Nat) (f : Nat → Int), hpl mk (mo mk 1 1) n f = mk n f
  | 0, f => H.1 _ _ (fun k => by
      show co (0 : R) k = _
      rw [co_zero H, H.2.2.2.2.2, if_neg (by omega)])
  | n + 1, f => H.1 _ _ (fun k => by
      show co (mo mk 0 (f 0) + mo mk 1 1 * hpl mk (mo mk 1 1) n (fun k => f (k + 1))) k = _
      rw [H.2.1, co_mo H, co_momul H, hpl_X H n, H.2.2.2.2.2, H.2.2.2.2.2]
      by_cases q : k = 0
      · subst q
        rw [if_pos rfl, if_neg (by omega), if_pos (by omega), Int.add_zero]
      · rw [if_neg q, if_pos (by omega)]
        by_cases z : k < n + 1
        · rw [if_pos (by omega), if_pos z, show k - 1 + 1 = k from by omega]
          omega
        · rw [if_neg (by omega), if_neg z]
          omega)
theorem mk_co [Lean.Grind.CommRing R] {co : R → Nat → Int} {mk : Nat → (Nat → Int) → R} (H : PolyR co mk) (a : R) : ∃ n, a = mk n (co a) := by
  obtain ⟨n, hn⟩ := H.2.2.2.2.1 a
  refine ⟨n, H.1 _ _ (fun k => ?_)⟩
  rw [H.2.2.2.2.2]
  split
  · rfl
  · exact hn k (by omega)
theorem hpl_pd [Lean.Grind.CommRing R] {co : R → Nat → Int} {mk : Nat → (Nat → Int) → R} (H : PolyR co mk) {P : Nat} (hp : isPr (P : Int)) (n : Nat) (f : Nat → Int) (t : R) : ∀ d : Nat, dvp co P (hpl mk t n f ^ (P ^ d) - hpl mk (t ^ (P ^ d)) n f)
  | 0 => by
    rw [Nat.pow_zero, Lean.Grind.Semiring.pow_one, Lean.Grind.Semiring.pow_one, show ∀ a : R, a - a = 0 from fun a => by grind]
    exact dvp_zero H
  | d + 1 => by
    have J := prI_dvp H hp
    have e : ∀ a : R, a ^ (P ^ (d + 1)) = (a ^ (P ^ d)) ^ P := fun a => by rw [Nat.pow_succ, rpow_mul]
    rw [e, e]
    exact prI_tr J (prI_pw J (hpl_pd H hp n f t d) P) (hpl_pw H hp _ n f)
theorem pw_pw [Lean.Grind.CommRing R] (a : R) (P d k : Nat) : a ^ (P ^ (d + k)) = (a ^ (P ^ d)) ^ (P ^ k) := by
  rw [Nat.pow_add, rpow_mul]
/-! the elements of the field, numbered -/
theorem dig_inj {P : Nat} (hP : 0 < P) : ∀ (e c c' : Nat), c < P ^ e → c' < P ^ e → (∀ k, k < e → (c / P ^ k) % P = (c' / P ^ k) % P) → c = c'
  | 0, c, c', h1, h2, _ => by
    rw [Nat.pow_zero] at h1 h2
    omega
  | e + 1, c, c', h1, h2, h => by
    have d0 := h 0 (by omega)
    rw [Nat.pow_zero, Nat.div_one, Nat.div_one] at d0
    rw [Nat.pow_succ] at h1 h2
    have ih := dig_inj hP e (c / P) (c' / P) (Nat.div_lt_of_lt_mul (by rwa [Nat.mul_comm])) (Nat.div_lt_of_lt_mul (by rwa [Nat.mul_comm])) (fun k hk => by
      have := h (k + 1) (by omega)
      rwa [Nat.pow_succ, Nat.mul_comm, ← Nat.div_div_eq_div_mul, ← Nat.div_div_eq_div_mul] at this)
    have e1 := Nat.div_add_mod c P
    have e2 := Nat.div_add_mod c' P
    rw [ih, d0] at e1
    omega
theorem dig_ex {P : Nat} (hP : 0 < P) : ∀ (e : Nat) (g : Nat → Nat), ∃ c, c < P ^ e ∧ ∀ k, k < e → (c / P ^ k) % P = g k % P
  | 0, g => ⟨0, by rw [Nat.pow_zero]; omega, fun k hk => by omega⟩
  | e + 1, g => by
    obtain ⟨c, h1, h2⟩ := dig_ex hP e (fun k => g (k + 1))
    have hm := Nat.mod_lt (g 0) hP
    refine ⟨g 0 % P + P * c, ?_, fun k hk => ?_⟩
    · rw [Nat.pow_succ]
      have : P * (c + 1) ≤ P * P ^ e := Nat.mul_le_mul_left P h1
      rw [Nat.mul_comm (P ^ e)]
      rw [Nat.mul_add] at this
      omega
    · cases k with
      | zero => rw [Nat.pow_zero, Nat.div_one, Nat.add_mul_mod_self_left, Nat.mod_mod]
      | succ k =>
        rw [Nat.pow_succ, Nat.mul_comm (P ^ k) P, ← Nat.div_div_eq_div_mul, Nat.add_mul_div_left _ _ hP, Nat.div_eq_of_lt hm, Nat.zero_add]
        exact h2 k (by omega)
def eln (mk : Nat → (Nat → Int) → R) (P e c : Nat) : R := mk e (fun k => (((c / P ^ k) % P : Nat) : Int))
theorem dvd_small {P : Nat} {a b : Nat} (ha : a < P) (hb : b < P) (h : (P : Int) ∣ (a : Int) - b) : a = b := by
  obtain ⟨k, hk⟩ := h
  rcases Int.lt_trichotomy k 0 with q | q | q
  · have : (P : Int) * k ≤ P * (-1) := Int.mul_le_mul_of_nonneg_left (by omega) (by omega)
    omega
  · subst q
    rw [Int.mul_zero] at hk
    omega
  · have : (P : Int) * 1 ≤ P * k := Int.mul_le_mul_of_nonneg_left (by omega) (by omega)
    omega
theorem eln_inj [Lean.Grind.CommRing R] {co : R → Nat → Int} {mk : Nat → (Nat → Int) → R} (H : PolyR co mk) {P : Nat} (hp : isPr (P : Int)) {q : R} {e : Nat} (hq : irp co P q e) {c c' : Nat} (hc : c < P ^ e) (hc' : c' < P ^ e) (h : jd co P q (eln mk P e c - eln mk P e c')) : c = c' := by
  have hp2 := hp.1
  have d := jd_low H hp hq.2.1 h (fun k hk => by
    unfold eln
    rw [co_sub H, H.2.2.2.2.2, H.2.2.2.2.2, if_neg (by omega), if_neg (by omega)]
    exact Int.dvd_zero _)
  refine dig_inj (by omega) e c c' hc hc' (fun k hk => ?_)
  have := d k
  unfold eln at this
  rw [co_sub H, H.2.2.2.2.2, H.2.2.2.2.2, if_pos hk, if_pos hk] at this
  exact dvd_small (Nat.mod_lt _ (by omega)) (Nat.mod_lt _ (by omega)) this
theorem eln_ex [Lean.Grind.CommRing R] {co : R → Nat → Int} {mk : Nat → (Nat → Int) → R} (H : PolyR co mk) {P : Nat} (hp : isPr (P : Int)) {q : R} {e : Nat} (hq : irp co P q e) (b : R) : ∃ c, c < P ^ e ∧ jd co P q (b - eln mk P e c) := by
  have hp2 := hp.1
  obtain ⟨N, hN⟩ := dlp_ex H P b
  obtain ⟨s, r, er, hr⟩ := divp H hp hq.2.1 N b hN
  obtain ⟨c, hc, hd⟩ := dig_ex (P := P) (by omega) e (fun k => (co r k % P).toNat)
  refine ⟨c, hc, ?_⟩
  rw [show b - eln mk P e c = q * s + (r - eln mk P e c) from by grind]
  refine jd_add H (jd_self H q s) (jd_dvp H (fun k => ?_))
  unfold eln
  rw [co_sub H, H.2.2.2.2.2]
  split
  · next hk =>
    rw [hd k hk]
    have h0 := Int.emod_nonneg (co r k) (show (P : Int) ≠ 0 by omega)
    have h1 := Int.emod_lt_of_pos (co r k) (show (0 : Int) < P by omega)
    rw [Nat.mod_eq_of_lt (by omega), Int.toNat_of_nonneg h0]
    have := Int.mul_ediv_add_emod (co r k) P
    exact ⟨co r k / P, by omega⟩
  · next hk =>
    rw [Int.sub_zero]
    exact hr k (by omega)
theorem eln_0 [Lean.Grind.CommRing R] {co : R → Nat → Int} {mk : Nat → (Nat → Int) → R} (H : PolyR co mk) (P e : Nat) : eln mk P e 0 = (0 : R) := H.1 _ _ (fun k => by
  unfold eln
  rw [H.2.2.2.2.2, co_zero H, Nat.zero_div, Nat.zero_mod]
  split <;> rfl)
/-- in the field each element is its own p^e-th power -/
theorem fer [Lean.Grind.CommRing R] {co : R → Nat → Int} {mk : Nat → (Nat → Int) → R} (H : PolyR co mk) {P : Nat} (hp : isPr (P : Int)) {q : R} {e : Nat} (hq : irp co P q e) (a : R) : jd co P q (a ^ (P ^ e) - a) := by
  have hp2 := hp.1
  have J := prI_jd H hp hq
  have hpos : 0 < P ^ e := Nat.pow_pos (by omega)
  rcases Classical.em (jd co P q a) with z | z
  · obtain ⟨n, hn⟩ : ∃ n, P ^ e = n + 1 := ⟨P ^ e - 1, by omega⟩
    rw [hn, show a ^ (n + 1) - a = (a ^ n - 1) * a from by grind]
    exact J.2.2.1 _ _ z
  · have hf := fermat J (fun i => eln mk P e (i + 1)) (List.range (P ^ e - 1)) List.nodup_range (fun i hi j hj h => by
      have hi := List.mem_range.mp hi
      have hj := List.mem_range.mp hj
      have := eln_inj H hp hq (by omega) (by omega) h
      omega) (fun i hi h => by
      have hi := List.mem_range.mp hi
      have := eln_inj H hp hq (c := i + 1) (c' := 0) (by omega) hpos (by
        rw [eln_0 H, show ∀ x : R, x - 0 = x from fun x => by grind]
        exact h)
      omega) (fun b hb => by
      obtain ⟨c, h1, h2⟩ := eln_ex H hp hq b
      have hc : c ≠ 0 := fun k => by
        subst k
        rw [eln_0 H, show b - 0 = b from by grind] at h2
        exact hb h2
      exact ⟨c - 1, List.mem_range.mpr (by omega), by
        show jd co P q (b - eln mk P e (c - 1 + 1))
        rw [show c - 1 + 1 = c from by omega]
        exact h2⟩) z
    rw [List.length_range] at hf
    obtain ⟨n, hn⟩ : ∃ n, P ^ e = n + 1 := ⟨P ^ e - 1, by omega⟩
    rw [hn] at hf ⊢
    rw [show n + 1 - 1 = n from by omega] at hf
    rw [show a ^ (n + 1) - a = a * (a ^ n - 1) from by grind]
    exact J.2.2.1 _ _ hf
theorem fer_k [Lean.Grind.CommRing R] {co : R → Nat → Int} {mk : Nat → (Nat → Int) → R} (H : PolyR co mk) {P : Nat} (hp : isPr (P : Int)) {q : R} {e : Nat} (hq : irp co P q e) (a : R) : ∀ k : Nat, jd co P q (a ^ (P ^ (e * k)) - a)
  | 0 => by
    rw [Nat.mul_zero, Nat.pow_zero, Lean.Grind.Semiring.pow_one, show a - a = 0 from by grind]
    exact jd_dvp H (dvp_zero H)
  | k + 1 => by
    have J := prI_jd H hp hq
    rw [Nat.mul_succ, pw_pw]
    exact prI_tr J (prI_pw J (fer_k H hp hq a k) _) (fer H hp hq a)
/-- K1: q divides x to the p^d less x just when its degree divides d -/
theorem k1 [Lean.Grind.CommRing R] {co : R → Nat → Int} {mk : Nat → (Nat → Int) → R} (H : PolyR co mk) {P : Nat} (hp : isPr (P : Int)) {q : R} {e : Nat} (hq : irp co P q e) (d : Nat) : jd co P q (mo mk 1 1 ^ (P ^ d) - mo mk 1 1) ↔ e ∣ d := by
  have hp2 := hp.1
  have J := prI_jd H hp hq
  constructor
  · intro h
    have all : ∀ y : R, jd co P q (y ^ (P ^ d) - y) := fun y => by
      obtain ⟨n, hn⟩ := mk_co H y
      rw [hn, ← hpl_X H]
      exact prI_tr J (jd_dvp H (hpl_pd H hp n (co y) (mo mk 1 1) d)) (hpl_cg J h n (co y))
    have e1 := Nat.div_add_mod d e
    have hr := Nat.mod_lt d (show 0 < e from hq.1)
    rcases Nat.eq_zero_or_pos (d % e) with z | z
    · exact Nat.dvd_of_mod_eq_zero z
    · exfalso
      have all2 : ∀ y : R, jd co P q (y ^ (P ^ (d % e)) - y) := fun y => by
        have h1 := all y
        rw [← e1, pw_pw] at h1
        exact prI_tr J (prI_sy J (prI_pw J (fer_k H hp hq y (d / e)) _)) h1
      have hle := pow_roots J (fun i => eln mk P e i) (n := P ^ (d % e)) (k := P ^ e) (by
        have : P ^ 1 ≤ P ^ (d % e) := Nat.pow_le_pow_right (by omega) z
        rw [Nat.pow_one] at this
        omega) (fun i j hi hj hne h => hne (eln_inj H hp hq hi hj h)) (fun i _ => all2 _)
      have : P ^ (d % e) < P ^ e := Nat.pow_lt_pow_right (by omega) hr
      omega
  · rintro ⟨k, rfl⟩
    exact fer_k H hp hq _ k
end
