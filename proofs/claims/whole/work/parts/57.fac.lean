/-! by a prime: parted into those that can't be parted; common divisors -/
section
variable {R : Type}
def prd [Lean.Grind.CommRing R] : List (R × Nat) → R
  | [] => 1
  | x :: l => x.1 * prd l
def sumd : List (R × Nat) → Nat
  | [] => 0
  | x :: l => x.2 + sumd l
theorem prd_app [Lean.Grind.CommRing R] : ∀ l1 l2 : List (R × Nat), prd (l1 ++ l2) = prd l1 * prd l2
  | [], l2 => by show prd l2 = 1 * prd l2; grind
  | x :: l, l2 => by
    show x.1 * prd (l ++ l2) = x.1 * prd l * prd l2
    rw [prd_app l l2]
    grind
theorem sumd_app : ∀ l1 l2 : List (R × Nat), sumd (l1 ++ l2) = sumd l1 + sumd l2
  | [], l2 => by show sumd l2 = 0 + sumd l2; omega
  | x :: l, l2 => by
    show x.2 + sumd (l ++ l2) = x.2 + sumd l + sumd l2
    rw [sumd_app l l2]
    omega
theorem dvp_cancel [Lean.Grind.CommRing R] {co : R → Nat → Int} {mk : Nat → (Nat → Int) → R} (H : PolyR co mk) {p : Int} (hp : isPr p) {q a : R} (hq : ¬ dvp co p q) (h : dvp co p (q * a)) : dvp co p a := by
  rcases dvp_prime H hp h with z | z
  · exact absurd z hq
  · exact z
theorem tpp_fac [Lean.Grind.CommRing R] {co : R → Nat → Int} {mk : Nat → (Nat → Int) → R} (H : PolyR co mk) {p : Int} (hp : isPr p) {a b c : R} {n : Nat} (hc : tpp co p c n) (h : dvp co p (a * b - c)) : ∃ i j, tpp co p a i ∧ tpp co p b j ∧ i + j = n := by
  have ht := tpp_congr H (b := a * b) (by rw [show c - a * b = -(a * b - c) from by grind]; exact dvp_neg H h) hc
  have na : ¬ dvp co p a := fun q => tpp_nd ht (by rw [show a * b = b * a from by grind]; exact dvp_mul H b q)
  have nb : ¬ dvp co p b := fun q => tpp_nd ht (dvp_mul H a q)
  obtain ⟨i, hi⟩ := tpp_ex H na
  obtain ⟨j, hj⟩ := tpp_ex H nb
  exact ⟨i, j, hi, hj, tpp_uniq (tpp_mul H hp hi hj) ht⟩
/-- each one has its parts -/
theorem fac_ex [Lean.Grind.CommRing R] {co : R → Nat → Int} {mk : Nat → (Nat → Int) → R} (H : PolyR co mk) {p : Int} (hp : isPr p) : ∀ (n : Nat) (m : R), tpp co p m n → ∃ (c : R) (l : List (R × Nat)), tpp co p c 0 ∧ (∀ x ∈ l, irp co p x.1 x.2) ∧ dvp co p (m - c * prd l) ∧ sumd l = n := by
  intro n
  induction n using Nat.strongRecOn with
  | ind n ih =>
    intro m hm
    by_cases z : n = 0
    · subst z
      refine ⟨m, [], hm, fun x hx => absurd hx List.not_mem_nil, ?_, rfl⟩
      rw [show m - m * prd [] = 0 from by show m - m * 1 = 0; grind]
      exact dvp_zero H
    · rcases Classical.em (irp co p m n) with q | q
      · refine ⟨1, [(m, n)], tpp_1 H hp, fun x hx => by rw [List.mem_singleton.mp hx]; exact q, ?_, rfl⟩
        rw [show m - 1 * prd [(m, n)] = 0 from by show m - 1 * (m * 1) = 0; grind]
        exact dvp_zero H
      · have : ∃ a b : R, dvp co p (m - a * b) ∧ ¬ dlp co p a 1 ∧ ¬ dlp co p b 1 := by
          refine Classical.byContradiction fun w => q ⟨by omega, hm, fun a b hab => ?_⟩
          refine Classical.byContradiction fun y => w ⟨a, b, hab, fun k => y (Or.inl k), fun k => y (Or.inr k)⟩
        obtain ⟨a, b, hab, ha, hb⟩ := this
        obtain ⟨i, j, hi, hj, hij⟩ := tpp_fac H hp hm (a := a) (b := b) (by rw [show a * b - m = -(m - a * b) from by grind]; exact dvp_neg H hab)
        have i1 : 1 ≤ i := Classical.byContradiction fun k => ha (fun t ht => hi.2 t (by omega))
        have j1 : 1 ≤ j := Classical.byContradiction fun k => hb (fun t ht => hj.2 t (by omega))
        obtain ⟨c1, l1, a1, a2, a3, a4⟩ := ih i (by omega) a hi
        obtain ⟨c2, l2, b1, b2, b3, b4⟩ := ih j (by omega) b hj
        refine ⟨c1 * c2, l1 ++ l2, tpp_mul H hp a1 b1, fun x hx => ?_, ?_, by rw [sumd_app]; omega⟩
        · rcases List.mem_append.mp hx with k | k
          · exact a2 x k
          · exact b2 x k
        · rw [prd_app, show m - c1 * c2 * (prd l1 * prd l2) = (m - a * b) + (b * (a - c1 * prd l1) + c1 * prd l1 * (b - c2 * prd l2)) from by grind]
          exact dvp_add H hab (dvp_add H (dvp_mul H _ a3) (dvp_mul H _ b3))
theorem jd_nd [Lean.Grind.CommRing R] {co : R → Nat → Int} {mk : Nat → (Nat → Int) → R} (H : PolyR co mk) {p : Int} {q a b : R} (h : jd co p q a) (e : dvp co p (a - b)) : jd co p q b := by
  rw [show b = a - (a - b) from by grind]
  exact jd_sub H h (jd_dvp H e)
/-- a divisor takes some of the parts, what is left has the others -/
theorem deg_div [Lean.Grind.CommRing R] {co : R → Nat → Int} {mk : Nat → (Nat → Int) → R} (H : PolyR co mk) {p : Int} (hp : isPr p) : ∀ (l : List (R × Nat)), (∀ x ∈ l, irp co p x.1 x.2) → l.Pairwise (fun x y => ¬ jd co p x.1 y.1 ∧ ¬ jd co p y.1 x.1) → ∀ (c G S : R), tpp co p c 0 → dvp co p (G * S - c * prd l) → ∃ (l1 l2 : List (R × Nat)) (c' : R), l.Perm (l1 ++ l2) ∧ (∀ x ∈ l1, jd co p x.1 G) ∧ (∀ x ∈ l2, ¬ jd co p x.1 G) ∧ tpp co p G (sumd l1) ∧ tpp co p c' 0 ∧ dvp co p (S - c' * prd l2)
  | [], _, _, c, G, S, hc, h => by
    obtain ⟨i, j, hi, hj, hij⟩ := tpp_fac H hp (a := G) (b := S) (c := c) hc (by rwa [show c * prd [] = c from by show c * 1 = c; grind] at h)
    have i0 : i = 0 := by omega
    have j0 : j = 0 := by omega
    subst i0; subst j0
    refine ⟨[], [], S, List.Perm.refl _, fun x hx => absurd hx List.not_mem_nil, fun x hx => absurd hx List.not_mem_nil, hi, hj, ?_⟩
    rw [show S - S * prd [] = 0 from by show S - S * 1 = 0; grind]
    exact dvp_zero H
  | (q, e) :: W, hir, hpw, c, G, S, hc, h => by
    have hq := hir (q, e) (by simp)
    have hpw2 := List.pairwise_cons.mp hpw
    have nq : ¬ dvp co p q := tpp_nd hq.2.1
    have h' : dvp co p (G * S - q * (c * prd W)) := by
      rwa [show c * prd ((q, e) :: W) = q * (c * prd W) from by show c * (q * prd W) = _; grind] at h
    rcases Classical.em (jd co p q G) with z | z
    · obtain ⟨G', hG⟩ := z
      have h2 : dvp co p (G' * S - c * prd W) := by
        refine dvp_cancel H hp nq ?_
        rw [show q * (G' * S - c * prd W) = (G * S - q * (c * prd W)) - S * (G - q * G') from by grind, show ∀ a b : R, a - b = a + -b from fun a b => by grind]
        exact dvp_add H h' (dvp_neg H (dvp_mul H S hG))
      obtain ⟨l1, l2, c', b1, b2, b3, b4, b5, b6⟩ := deg_div H hp W (fun x hx => hir x (by simp [hx])) hpw2.2 c G' S hc h2
      have up : ∀ x : R, jd co p x G' → jd co p x G := fun x hx => jd_nd H (jd_mul H q hx) (by rw [show q * G' - G = -(G - q * G') from by grind]; exact dvp_neg H hG)
      refine ⟨(q, e) :: l1, l2, c', b1.cons _, fun x hx => ?_, fun x hx k => ?_, ?_, b5, b6⟩
      · rcases List.mem_cons.mp hx with k | k
        · rw [k]; exact ⟨G', hG⟩
        · exact up _ (b2 x k)
      · have xW : x ∈ W := b1.mem_iff.mpr (by simp [hx])
        rcases jd_prime H hp (hir x (by simp [xW])) (jd_nd H k hG) with y | y
        · exact (hpw2.1 x xW).2 y
        · exact b3 x hx y
      · show tpp co p G (e + sumd l1)
        exact tpp_congr H (by rw [show q * G' - G = -(G - q * G') from by grind]; exact dvp_neg H hG) (tpp_mul H hp hq.2.1 b4)
    · have hS : jd co p q (G * S) := jd_nd H (jd_self H q (c * prd W)) (by rw [show q * (c * prd W) - G * S = -(G * S - q * (c * prd W)) from by grind]; exact dvp_neg H h')
      rcases jd_prime H hp hq hS with y | y
      · exact absurd y z
      · obtain ⟨S', hS'⟩ := y
        have h2 : dvp co p (G * S' - c * prd W) := by
          refine dvp_cancel H hp nq ?_
          rw [show q * (G * S' - c * prd W) = (G * S - q * (c * prd W)) + -(G * (S - q * S')) from by grind]
          exact dvp_add H h' (dvp_neg H (dvp_mul H G hS'))
        obtain ⟨l1, l2, c', b1, b2, b3, b4, b5, b6⟩ := deg_div H hp W (fun x hx => hir x (by simp [hx])) hpw2.2 c G S' hc h2
        refine ⟨l1, (q, e) :: l2, c', (b1.cons _).trans List.perm_middle.symm, b2, fun x hx => ?_, b4, b5, ?_⟩
        · rcases List.mem_cons.mp hx with k | k
          · rw [k]; exact z
          · exact b3 x k
        · rw [show S - c' * prd ((q, e) :: l2) = (S - q * S') + q * (S' - c' * prd l2) from by show S - c' * (q * prd l2) = _; grind]
          exact dvp_add H hS' (dvp_mul H q b6)
/-! no part twice -/
def sqf [Lean.Grind.CommRing R] (co : R → Nat → Int) (p : Int) (m : R) : Prop := ∀ (q : R) (e : Nat) (h : R), irp co p q e → ¬ dvp co p (m - q * (q * h))
theorem prd_mem [Lean.Grind.CommRing R] : ∀ (l : List (R × Nat)) (x : R × Nat), x ∈ l → ∃ r, prd l = x.1 * r
  | y :: l, x, h => by
    rcases List.mem_cons.mp h with q | q
    · subst q; exact ⟨prd l, rfl⟩
    · obtain ⟨r, hr⟩ := prd_mem l x q
      exact ⟨y.1 * r, by show y.1 * prd l = _; rw [hr]; grind⟩
theorem sqf_pw [Lean.Grind.CommRing R] {co : R → Nat → Int} {mk : Nat → (Nat → Int) → R} (H : PolyR co mk) {p : Int} {m : R} (hm : sqf co p m) : ∀ (l : List (R × Nat)) (c : R), (∀ x ∈ l, irp co p x.1 x.2) → dvp co p (m - c * prd l) → l.Pairwise (fun x y => ¬ jd co p x.1 y.1 ∧ ¬ jd co p y.1 x.1)
  | [], _, _, _ => List.Pairwise.nil
  | x :: l, c, hir, h => by
    refine List.pairwise_cons.mpr ⟨fun y hy => ?_, sqf_pw H hm l (c * x.1) (fun z hz => hir z (by simp [hz])) (by rwa [show c * x.1 * prd l = c * prd (x :: l) from by show _ = c * (x.1 * prd l); grind])⟩
    obtain ⟨r, hr⟩ := prd_mem l y hy
    have h' : dvp co p (m - c * (x.1 * (y.1 * r))) := by rw [← hr]; exact h
    constructor
    · rintro ⟨g, hg⟩
      refine hm x.1 x.2 (c * g * r) (hir x (by simp)) ?_
      rw [show m - x.1 * (x.1 * (c * g * r)) = (m - c * (x.1 * (y.1 * r))) + c * x.1 * r * (y.1 - x.1 * g) from by grind]
      exact dvp_add H h' (dvp_mul H _ hg)
    · rintro ⟨g, hg⟩
      refine hm y.1 y.2 (c * g * r) (hir y (by simp [hy])) ?_
      rw [show m - y.1 * (y.1 * (c * g * r)) = (m - c * (x.1 * (y.1 * r))) + c * y.1 * r * (x.1 - y.1 * g) from by grind]
      exact dvp_add H h' (dvp_mul H _ hg)
/-! the derivative -/
def isD (co : R → Nat → Int) (p : Int) (D a : R) : Prop := ∀ k : Nat, p ∣ co D k - ((k : Int) + 1) * co a (k + 1)
theorem cv_der (f g : Nat → Int) (n : Nat) : ((n : Int) + 1) * cv f g (n + 1) = cv (fun k => ((k : Int) + 1) * f (k + 1)) g n + cv f (fun k => ((k : Int) + 1) * g (k + 1)) n := by
  have half : ∀ f g : Nat → Int, sg (fun i => (i : Int) * (f i * g (n + 1 - i))) (n + 2) = cv (fun k => ((k : Int) + 1) * f (k + 1)) g n := fun f g => by
    rw [sg_head]
    unfold cv
    show (((0 : Nat) : Int)) * _ + _ = _
    rw [show (((0 : Nat) : Int)) = 0 from rfl, Int.zero_mul, Int.zero_add]
    refine sg_congr _ (fun i hi => ?_)
    show ((i + 1 : Nat) : Int) * (f (i + 1) * g (n + 1 - (i + 1))) = ((i : Int) + 1) * f (i + 1) * g (n - i)
    rw [show n + 1 - (i + 1) = n - i from by omega, show ((i + 1 : Nat) : Int) = (i : Int) + 1 from by omega]
    grind
  have h1 := half f g
  have h2 := half g f
  rw [cv_comm f (fun k => ((k : Int) + 1) * g (k + 1)), ← h1, ← h2]
  -- the second sum the other way round
  have rev : ∀ (N : Nat) (F : Nat → Int), sg F (N + 1) = sg (fun i => F (N - i)) (N + 1) := by
    intro N
    induction N with
    | zero => intro F; rfl
    | succ N ih =>
      intro F
      rw [sg_head (fun i => F (N + 1 - i))]
      show sg F (N + 1) + F (N + 1) = F (N + 1 - 0) + _
      rw [ih F, Nat.sub_zero]
      have : sg (fun i => F (N + 1 - (i + 1))) (N + 1) = sg (fun i => F (N - i)) (N + 1) := sg_congr _ (fun i _ => by rw [show N + 1 - (i + 1) = N - i from by omega])
      rw [this]
      omega
  rw [rev (n + 1) (fun i => (i : Int) * (g i * f (n + 1 - i))), ← sg_add]
  unfold cv
  rw [← sg_mul]
  refine sg_congr _ (fun i hi => ?_)
  show ((n : Int) + 1) * (f i * g (n + 1 - i)) = (i : Int) * (f i * g (n + 1 - i)) + ((n + 1 - i : Nat) : Int) * (g (n + 1 - i) * f (n + 1 - (n + 1 - i)))
  rw [show n + 1 - (n + 1 - i) = i from by omega, show ((n + 1 - i : Nat) : Int) = (n : Int) + 1 - i from by omega]
  grind
theorem isD_mul [Lean.Grind.CommRing R] {co : R → Nat → Int} {mk : Nat → (Nat → Int) → R} (H : PolyR co mk) {p : Int} {a b Da Db : R} (ha : ∀ k : Nat, co Da k = ((k : Int) + 1) * co a (k + 1)) (hb : ∀ k : Nat, co Db k = ((k : Int) + 1) * co b (k + 1)) : isD co p (Da * b + a * Db) (a * b) := fun k => by
  rw [H.2.1, H.2.2.1, H.2.2.1, H.2.2.1, cv_der, cv_congr (f := co Da) (f' := fun k => ((k : Int) + 1) * co a (k + 1)) (g' := co b) (fun i _ => ha i) (fun i _ => rfl), cv_congr (f := co a) (f' := co a) (g := co Db) (g' := fun k => ((k : Int) + 1) * co b (k + 1)) (fun i _ => rfl) (fun i _ => hb i)]
  exact ⟨0, by omega⟩
theorem D_ex [Lean.Grind.CommRing R] {co : R → Nat → Int} {mk : Nat → (Nat → Int) → R} (H : PolyR co mk) (a : R) : ∃ D, ∀ k : Nat, co D k = ((k : Int) + 1) * co a (k + 1) := by
  obtain ⟨n, hn⟩ := H.2.2.2.2.1 a
  refine ⟨mk n (fun k => ((k : Int) + 1) * co a (k + 1)), fun k => ?_⟩
  rw [H.2.2.2.2.2]
  split
  · rfl
  · rw [hn (k + 1) (by omega), Int.mul_zero]
theorem isD_cg [Lean.Grind.CommRing R] {co : R → Nat → Int} {mk : Nat → (Nat → Int) → R} (H : PolyR co mk) {p : Int} {D D' a a' : R} (h : isD co p D a) (h' : isD co p D' a') (e : dvp co p (a - a')) : dvp co p (D - D') := fun k => by
  have e1 := h k
  have e2 := h' k
  have e3 := e (k + 1)
  rw [co_sub H] at e3 ⊢
  have e4 := Int.dvd_add (Int.dvd_sub e1 e2) (Int.dvd_mul_of_dvd_right (b := ((k : Int) + 1)) e3)
  rwa [show co D k - ((k : Int) + 1) * co a (k + 1) - (co D' k - ((k : Int) + 1) * co a' (k + 1)) + ((k : Int) + 1) * (co a (k + 1) - co a' (k + 1)) = co D k - co D' k from by grind] at e4
/-- where it and its derivative make 1, no part is there twice -/
theorem sqf_of [Lean.Grind.CommRing R] {co : R → Nat → Int} {mk : Nat → (Nat → Int) → R} (H : PolyR co mk) {p : Int} (hp : isPr p) {m D u v : R} (hD : isD co p D m) (h : dvp co p (u * m + v * D - 1)) : sqf co p m := by
  intro q e g hq hm
  obtain ⟨Dq, hDq⟩ := D_ex H q
  obtain ⟨Dg, hDg⟩ := D_ex H g
  obtain ⟨Dqg, hDqg⟩ := D_ex H (q * g)
  have d1 := isD_mul H (p := p) hDq hDqg
  have d2 : dvp co p (D - (Dq * (q * g) + q * Dqg)) := isD_cg H hD d1 hm
  refine jd_1 H hp hq.2.1 hq.1 ?_
  have jm : jd co p q m := ⟨q * g, hm⟩
  have jD : jd co p q D := jd_nd H (a := q * (Dq * g + Dqg)) (jd_self H q _) (by rw [show q * (Dq * g + Dqg) - D = -(D - (Dq * (q * g) + q * Dqg)) from by grind]; exact dvp_neg H d2)
  exact jd_nd H (jd_add H (jd_mul H u jm) (jd_mul H v jD)) h
/-! greatest common divisors by p -/
def gcdp [Lean.Grind.CommRing R] (co : R → Nat → Int) (p : Int) (G a b : R) : Prop := jd co p G a ∧ jd co p G b ∧ ∃ u v, dvp co p (G - (u * a + v * b))
theorem jd_top [Lean.Grind.CommRing R] {co : R → Nat → Int} {mk : Nat → (Nat → Int) → R} (H : PolyR co mk) {p : Int} (hp : isPr p) {a b : R} {i j : Nat} (ha : tpp co p a i) (hb : tpp co p b j) (h : jd co p a b) : i ≤ j := by
  obtain ⟨g, hg⟩ := h
  obtain ⟨i', j', h1, _, h3⟩ := tpp_fac H hp hb (a := a) (b := g) (by rw [show a * g - b = -(b - a * g) from by grind]; exact dvp_neg H hg)
  have := tpp_uniq h1 ha
  omega
theorem gcdp_jd [Lean.Grind.CommRing R] {co : R → Nat → Int} {mk : Nat → (Nat → Int) → R} (H : PolyR co mk) {p : Int} {G a b x : R} (h : gcdp co p G a b) (ha : jd co p x a) (hb : jd co p x b) : jd co p x G := by
  obtain ⟨u, v, e⟩ := h.2.2
  exact jd_nd H (jd_add H (jd_mul H u ha) (jd_mul H v hb)) (by rw [show u * a + v * b - G = -(G - (u * a + v * b)) from by grind]; exact dvp_neg H e)
theorem gcdp_top [Lean.Grind.CommRing R] {co : R → Nat → Int} {mk : Nat → (Nat → Int) → R} (H : PolyR co mk) {p : Int} (hp : isPr p) {G G' a b : R} {i j : Nat} (h : gcdp co p G a b) (h' : gcdp co p G' a b) (hi : tpp co p G i) (hj : tpp co p G' j) : i = j :=
  Nat.le_antisymm (jd_top H hp hi hj (gcdp_jd H h' h.1 h.2.1)) (jd_top H hp hj hi (gcdp_jd H h h'.1 h'.2.1))
/-- the step of Euclid's way -/
theorem gcdp_step [Lean.Grind.CommRing R] {co : R → Nat → Int} {mk : Nat → (Nat → Int) → R} (H : PolyR co mk) {p : Int} {G a b r s : R} (h : gcdp co p G b r) (e : dvp co p (a - (s * b + r))) : gcdp co p G a b := by
  obtain ⟨h1, h2, u, v, h3⟩ := h
  refine ⟨jd_nd H (jd_add H (jd_mul H s h1) h2) (by rw [show s * b + r - a = -(a - (s * b + r)) from by grind]; exact dvp_neg H e), h1, v, u - v * s, ?_⟩
  rw [show G - (v * a + (u - v * s) * b) = (G - (u * b + v * r)) + -(v * (a - (s * b + r))) from by grind]
  exact dvp_add H h3 (dvp_neg H (dvp_mul H v e))
theorem gcdp_zero [Lean.Grind.CommRing R] {co : R → Nat → Int} {mk : Nat → (Nat → Int) → R} (H : PolyR co mk) {p : Int} {a b : R} (h : dvp co p b) : gcdp co p a a b := by
  refine ⟨⟨1, by rw [show a - a * 1 = 0 from by grind]; exact dvp_zero H⟩, jd_dvp H h, 1, 0, ?_⟩
  rw [show a - (1 * a + 0 * b) = 0 from by grind]
  exact dvp_zero H
theorem jd_cg [Lean.Grind.CommRing R] {co : R → Nat → Int} {mk : Nat → (Nat → Int) → R} (H : PolyR co mk) {p : Int} {q q' a : R} (h : jd co p q a) (e : dvp co p (q - q')) : jd co p q' a := by
  obtain ⟨g, hg⟩ := h
  exact ⟨g, by rw [show a - q' * g = (a - q * g) + g * (q - q') from by grind]; exact dvp_add H hg (dvp_mul H g e)⟩
theorem gcdp_cg [Lean.Grind.CommRing R] {co : R → Nat → Int} {mk : Nat → (Nat → Int) → R} (H : PolyR co mk) {p : Int} {G a b G' a' b' : R} (h : gcdp co p G a b) (e1 : dvp co p (G - G')) (e2 : dvp co p (a - a')) (e3 : dvp co p (b - b')) : gcdp co p G' a' b' := by
  obtain ⟨h1, h2, u, v, h3⟩ := h
  refine ⟨jd_cg H (jd_nd H h1 e2) e1, jd_cg H (jd_nd H h2 e3) e1, u, v, ?_⟩
  rw [show G' - (u * a' + v * b') = (G - (u * a + v * b)) + -(G - G') + (u * (a - a') + v * (b - b')) from by grind]
  exact dvp_add H (dvp_add H h3 (dvp_neg H e1)) (dvp_add H (dvp_mul H u e2) (dvp_mul H v e3))
end
