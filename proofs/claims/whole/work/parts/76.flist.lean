/-! lists of factors: they are one, once sorted -/
theorem sorted_eq {α : Type} {B : α → α → Prop} (ha : ∀ x y, B x y → ¬ B y x) : ∀ l1 l2 : List α, l1.Pairwise B → l2.Pairwise B → (∀ x, x ∈ l1 ↔ x ∈ l2) → l1 = l2
  | [], [], _, _, _ => rfl
  | [], b :: l, _, _, h => absurd ((h b).mpr (by simp)) List.not_mem_nil
  | a :: l, [], _, _, h => absurd ((h a).mp (by simp)) List.not_mem_nil
  | a :: l, b :: l', h1, h2, h => by
    have p1 := List.pairwise_cons.mp h1
    have p2 := List.pairwise_cons.mp h2
    have e : a = b := by
      rcases List.mem_cons.mp ((h a).mp (by simp)) with q | q
      · exact q
      · rcases List.mem_cons.mp ((h b).mpr (by simp)) with z | z
        · exact z.symm
        · exact absurd (p2.1 a q) (ha _ _ (p1.1 b z))
    subst e
    have ir : ¬ B a a := fun q => ha _ _ q q
    rw [sorted_eq ha l l' p1.2 p2.2 (fun x => ?_)]
    constructor
    · intro q
      rcases List.mem_cons.mp ((h x).mp (by simp [q])) with z | z
      · exact absurd (p1.1 x q) (by rw [z]; exact ir)
      · exact z
    · intro q
      rcases List.mem_cons.mp ((h x).mpr (by simp [q])) with z | z
      · exact absurd (p2.1 x q) (by rw [z]; exact ir)
      · exact z
/-- a factor: its numbers, its degree, how often -/
abbrev E3 : Type := (Int → Int) × Int × Int
def canon (f : Int → Int) : Prop := ∀ y : Int, ¬ (0 ≤ y ∧ y < 7) → f y = 0
def cutf (f : Int → Int) : Int → Int := fun y => if 0 ≤ y ∧ y < 7 then f y else 0
theorem cutf_canon (f : Int → Int) : canon (cutf f) := fun _ h => if_neg h
theorem cutf_in {f : Int → Int} {y : Int} (h0 : 0 ≤ y) (h1 : y < 7) : cutf f y = f y := if_pos ⟨h0, h1⟩
theorem canon_ext {f g : Int → Int} (hf : canon f) (hg : canon g) (h : ∀ y : Int, 0 ≤ y → y < 7 → f y = g y) : f = g := by
  funext y
  by_cases q : 0 ≤ y ∧ y < 7
  · exact h y q.1 q.2
  · rw [hf y q, hg y q]
/-- the ORDER -/
def bef (x y : E3) : Prop := x.2.1 < y.2.1 ∨ (x.2.1 = y.2.1 ∧ ∃ k : Int, 0 ≤ k ∧ k < 7 ∧ x.1 k < y.1 k ∧ ∀ j : Int, k < j → j < 7 → x.1 j = y.1 j)
theorem bef_as (x y : E3) (h : bef x y) : ¬ bef y x := by
  intro h2
  rcases h with h | ⟨e, k, k0, k1, k2, k3⟩
  · rcases h2 with h2 | ⟨e2, _⟩ <;> omega
  · rcases h2 with h2 | ⟨e2, l, l0, l1, l2, l3⟩
    · omega
    · rcases Int.lt_trichotomy k l with q | q | q
      · have := k3 l q l1; omega
      · subst q; omega
      · have := l3 k q k1; omega
theorem bef_to {x y : E3} (hx : canon x.1) (hy : canon y.1) (h : x.1 ≠ y.1) : bef x y ∨ bef y x := by
  rcases Int.lt_trichotomy x.2.1 y.2.1 with q | q | q
  · exact Or.inl (Or.inl q)
  · -- the top place where they differ
    have : ∃ k : Nat, k < 7 ∧ x.1 k ≠ y.1 k := by
      refine Classical.byContradiction fun z => h (canon_ext hx hy (fun j j0 j1 => ?_))
      refine Classical.byContradiction fun w => z ⟨j.toNat, by omega, by rw [Int.toNat_of_nonneg j0]; exact w⟩
    obtain ⟨i, h1, h2⟩ := nat_max (P := fun k => k < 7 ∧ x.1 k ≠ y.1 k) 7 (fun k hk z => by omega) this
    have top : ∀ j : Int, (i : Int) < j → j < 7 → x.1 j = y.1 j := fun j j0 j1 => by
      refine Classical.byContradiction fun w => h2 j.toNat (by omega) ⟨by omega, ?_⟩
      rw [Int.toNat_of_nonneg (by omega)]
      exact w
    rcases Int.lt_or_gt_of_ne h1.2 with z | z
    · exact Or.inl (Or.inr ⟨q, i, by omega, by omega, z, top⟩)
    · exact Or.inr (Or.inr ⟨q.symm, i, by omega, by omega, z, fun j a b => (top j a b).symm⟩)
  · exact Or.inr (Or.inl q)
section
variable {R : Type}
def elOK [Lean.Grind.CommRing R] (co : R → Nat → Int) (mk : Nat → (Nat → Int) → R) (x : E3) : Prop := canon x.1 ∧ 1 ≤ x.2.1 ∧ x.2.1 ≤ 6 ∧ 1 ≤ x.2.2 ∧ irz co (pR mk 7 x.1) x.2.1.toNat ∧ 0 < x.1 x.2.1
def prodL [Lean.Grind.CommRing R] (mk : Nat → (Nat → Int) → R) : List E3 → R
  | [] => 1
  | x :: l => pR mk 7 x.1 ^ x.2.2.toNat * prodL mk l
theorem prodL_app [Lean.Grind.CommRing R] (mk : Nat → (Nat → Int) → R) : ∀ l1 l2 : List E3, prodL mk (l1 ++ l2) = prodL mk l1 * prodL mk l2
  | [], l2 => by show prodL mk l2 = 1 * prodL mk l2; grind
  | x :: l, l2 => by
    show pR mk 7 x.1 ^ x.2.2.toNat * prodL mk (l ++ l2) = pR mk 7 x.1 ^ x.2.2.toNat * prodL mk l * prodL mk l2
    rw [prodL_app mk l l2]
    grind
theorem prodL_perm [Lean.Grind.CommRing R] (mk : Nat → (Nat → Int) → R) {l1 l2 : List E3} (h : l1.Perm l2) : prodL mk l1 = prodL mk l2 := by
  induction h with
  | nil => rfl
  | cons x _ ih => show pR mk 7 x.1 ^ x.2.2.toNat * _ = pR mk 7 x.1 ^ x.2.2.toNat * _; rw [ih]
  | swap x y l => show pR mk 7 y.1 ^ y.2.2.toNat * (pR mk 7 x.1 ^ x.2.2.toNat * prodL mk l) = pR mk 7 x.1 ^ x.2.2.toNat * (pR mk 7 y.1 ^ y.2.2.toNat * prodL mk l); grind
  | trans _ _ a b => exact a.trans b
theorem irz_pow [Lean.Grind.CommRing R] {co : R → Nat → Int} {mk : Nat → (Nat → Int) → R} (H : PolyR co mk) {q a : R} {e : Nat} (hq : irz co q e) : ∀ n : Nat, zd q (a ^ n) → zd q a
  | 0, h => by
    exfalso
    obtain ⟨g, hg⟩ := h
    rw [Lean.Grind.Semiring.pow_zero] at hg
    have t1 : tz co (1 : R) 0 := ⟨by rw [H.2.2.2.1, if_pos rfl]; decide, fun k hk => by rw [H.2.2.2.1, if_neg (by omega)]⟩
    obtain ⟨i, j, hi, _, hij⟩ := zd_deg H t1 hg
    have := tz_uniq hi hq.2.1
    have := hq.1
    omega
  | n + 1, h => by
    rw [Lean.Grind.Semiring.pow_succ] at h
    rcases irz_prime H hq h with z | z
    · exact irz_pow H hq n z
    · exact z
theorem irz_one [Lean.Grind.CommRing R] {co : R → Nat → Int} {mk : Nat → (Nat → Int) → R} (H : PolyR co mk) {q : R} {e : Nat} (hq : irz co q e) : ¬ zd q 1 := fun h => by
  have h' : zd q ((1 : R) ^ 0) := by rwa [Lean.Grind.Semiring.pow_zero]
  obtain ⟨g, hg⟩ := h
  have t1 : tz co (1 : R) 0 := ⟨by rw [H.2.2.2.1, if_pos rfl]; decide, fun k hk => by rw [H.2.2.2.1, if_neg (by omega)]⟩
  obtain ⟨i, j, hi, _, hij⟩ := zd_deg H t1 hg
  have := tz_uniq hi hq.2.1
  have := hq.1
  omega
/-- of the list one has it -/
theorem irz_list [Lean.Grind.CommRing R] {co : R → Nat → Int} {mk : Nat → (Nat → Int) → R} (H : PolyR co mk) {q : R} {e : Nat} (hq : irz co q e) : ∀ L : List E3, zd q (prodL mk L) → ∃ y ∈ L, zd q (pR mk 7 y.1)
  | [], h => absurd h (irz_one H hq)
  | y :: L, h => by
    rcases irz_prime H hq h with z | z
    · exact ⟨y, by simp, irz_pow H hq _ z⟩
    · obtain ⟨w, h1, h2⟩ := irz_list H hq L z
      exact ⟨w, by simp [h1], h2⟩
theorem pR_inj [Lean.Grind.CommRing R] {co : R → Nat → Int} {mk : Nat → (Nat → Int) → R} (H : PolyR co mk) {f g : Int → Int} (hf : canon f) (hg : canon g) (h : pR mk 7 f = pR mk 7 g) : f = g := canon_ext hf hg (fun y y0 y1 => by
  have e : co (pR mk 7 f) y.toNat = co (pR mk 7 g) y.toNat := by rw [h]
  rwa [co_pR H, co_pR H, if_pos (by omega), if_pos (by omega), Int.toNat_of_nonneg y0] at e)
/-- one of the parts divides another: they are one -/
theorem el_one [Lean.Grind.CommRing R] {co : R → Nat → Int} {mk : Nat → (Nat → Int) → R} (H : PolyR co mk) {x y : E3} (hx : elOK co mk x) (hy : elOK co mk y) (h : zd (pR mk 7 x.1) (pR mk 7 y.1)) : x.1 = y.1 ∧ x.2.1 = y.2.1 := by
  obtain ⟨g, hg⟩ := h
  have hxt := hx.2.2.2.2.1.2.1
  have hyt := hy.2.2.2.2.1.2.1
  have x1 := hx.2.1
  have x6 := hx.2.2.1
  have y1 := hy.2.1
  have y6 := hy.2.2.1
  rcases hy.2.2.2.2.1.2.2 _ _ hg with z | z
  · exfalso
    have c1 := hxt.1
    rcases z with w | w
    · rw [w, H.2.2.2.1, if_neg (by omega)] at c1
      exact c1 rfl
    · rw [w, co_neg H, H.2.2.2.1, if_neg (by omega)] at c1
      exact c1 rfl
  · rcases z with w | w
    · have e : pR mk 7 x.1 = pR mk 7 y.1 := by rw [hg, w]; grind
      have ef := pR_inj H hx.1 hy.1 e
      rw [e] at hxt
      have := tz_uniq hxt hyt
      exact ⟨ef, by omega⟩
    · exfalso
      have e : pR mk 7 y.1 = -(pR mk 7 x.1) := by rw [hg, w]; grind
      have ht : tz co (pR mk 7 x.1) y.2.1.toNat := by
        refine ⟨fun q => hyt.1 ?_, fun k hk => ?_⟩
        · rw [e, co_neg H, q]; rfl
        · have := hyt.2 k hk
          rw [e, co_neg H] at this
          omega
      have ed := tz_uniq hxt ht
      have c' : co (pR mk 7 y.1) y.2.1.toNat = -(co (pR mk 7 x.1) y.2.1.toNat) := by
        rw [e]
        exact co_neg H _ _
      rw [co_pR H, co_pR H, if_pos (by omega), if_pos (by omega), Int.toNat_of_nonneg (by omega)] at c'
      have p1 := hx.2.2.2.2.2
      have p2 := hy.2.2.2.2.2
      rw [show x.2.1 = y.2.1 from by omega] at p1
      omega
def FacL [Lean.Grind.CommRing R] (co : R → Nat → Int) (mk : Nat → (Nat → Int) → R) (A : R) (L : List E3) : Prop := (∀ x ∈ L, elOK co mk x) ∧ L.Pairwise (fun x y => x.1 ≠ y.1) ∧ A = prodL mk L
theorem fac_split [Lean.Grind.CommRing R] {co : R → Nat → Int} {mk : Nat → (Nat → Int) → R} (H : PolyR co mk) {A : R} {L : List E3} (h : FacL co mk A L) {x : E3} (hx : x ∈ L) : ∃ B : R, A = pR mk 7 x.1 ^ x.2.2.toNat * B ∧ ¬ zd (pR mk 7 x.1) B := by
  obtain ⟨s, t, e⟩ := List.append_of_mem hx
  have hp := h.2.1
  subst e
  refine ⟨prodL mk s * prodL mk t, ?_, fun z => ?_⟩
  · rw [h.2.2, prodL_app]
    show prodL mk s * (pR mk 7 x.1 ^ x.2.2.toNat * prodL mk t) = _
    grind
  · rw [← prodL_app] at z
    obtain ⟨y, hy, hd⟩ := irz_list H (h.1 x hx).2.2.2.2.1 _ z
    have hyL : y ∈ s ++ x :: t := by
      rcases List.mem_append.mp hy with w | w
      · simp [w]
      · simp [w]
    have e1 := (el_one H (h.1 x hx) (h.1 y hyL) hd).1
    have pp := List.pairwise_append.mp hp
    rcases List.mem_append.mp hy with w | w
    · exact pp.2.2 y w x (by simp) e1.symm
    · exact (List.pairwise_cons.mp pp.2.1).1 y w e1
/-- the parts and how often each is there are one -/
theorem fac_sub [Lean.Grind.CommRing R] {co : R → Nat → Int} {mk : Nat → (Nat → Int) → R} (H : PolyR co mk) {A : R} {L L' : List E3} (h : FacL co mk A L) (h' : FacL co mk A L') {x : E3} (hx : x ∈ L) : x ∈ L' := by
  have ox := h.1 x hx
  obtain ⟨B, eB, nB⟩ := fac_split H h hx
  have e1 := ox.2.2.2.1
  have dA : zd (pR mk 7 x.1) A := by
    obtain ⟨n, hn⟩ : ∃ n, x.2.2.toNat = n + 1 := ⟨x.2.2.toNat - 1, by omega⟩
    exact ⟨pR mk 7 x.1 ^ n * B, by rw [eB, hn, Lean.Grind.Semiring.pow_succ]; grind⟩
  rw [h'.2.2] at dA
  obtain ⟨y, hy, hd⟩ := irz_list H ox.2.2.2.2.1 L' dA
  have oy := h'.1 y hy
  obtain ⟨f1, f2⟩ := el_one H ox oy hd
  obtain ⟨B', eB', nB'⟩ := fac_split H h' hy
  have q0 : ∀ n : Nat, pR mk 7 x.1 ^ n ≠ 0 := fun n => by
    have nz := tz_ne H ox.2.2.2.2.1.2.1
    induction n with
    | zero =>
      rw [Lean.Grind.Semiring.pow_zero]
      exact tz_ne H (n := 0) ⟨by rw [H.2.2.2.1, if_pos rfl]; decide, fun k hk => by rw [H.2.2.2.1, if_neg (by omega)]⟩
    | succ n ih =>
      rw [Lean.Grind.Semiring.pow_succ]
      intro z
      rcases nzd H z with w | w
      · exact ih w
      · exact nz w
  have key : ∀ (a b : Nat) (B B' : R), a < b → pR mk 7 x.1 ^ a * B = pR mk 7 x.1 ^ b * B' → zd (pR mk 7 x.1) B := fun a b B B' hab he => by
    obtain ⟨d, rfl⟩ : ∃ d, b = a + (d + 1) := ⟨b - a - 1, by omega⟩
    rw [Lean.Grind.Semiring.pow_add] at he
    refine ⟨pR mk 7 x.1 ^ d * B', zcancel H (q0 a) ?_⟩
    rw [he, Lean.Grind.Semiring.pow_succ]
    grind
  rw [← f1] at eB' nB'
  have e2 : x.2.2.toNat = y.2.2.toNat := by
    rcases Nat.lt_trichotomy x.2.2.toNat y.2.2.toNat with q | q | q
    · exact absurd (key _ _ B B' q (by rw [← eB, ← eB'])) nB
    · exact q
    · exact absurd (key _ _ B' B q (by rw [← eB, ← eB'])) nB'
  have e3 := oy.2.2.2.1
  have : x = y := by
    refine Prod.ext f1 (Prod.ext f2 ?_)
    omega
  rw [this]
  exact hy
/-- sorted, the lists are one -/
theorem fac_eq [Lean.Grind.CommRing R] {co : R → Nat → Int} {mk : Nat → (Nat → Int) → R} (H : PolyR co mk) {A : R} {L L' : List E3} (h : FacL co mk A L) (h' : FacL co mk A L') (s : L.Pairwise bef) (s' : L'.Pairwise bef) : L = L' :=
  sorted_eq bef_as L L' s s' (fun _ => ⟨fac_sub H h h', fac_sub H h' h⟩)
end
