/-! polynomials of whole numbers as a ring: sums, coefficients of products -/
def sg (F : Nat → Int) : Nat → Int
  | 0 => 0
  | n + 1 => sg F n + F n
theorem sg_congr {F G : Nat → Int} : ∀ n : Nat, (∀ i, i < n → F i = G i) → sg F n = sg G n
  | 0, _ => rfl
  | n + 1, h => by
    show sg F n + F n = sg G n + G n
    rw [sg_congr n (fun i hi => h i (by omega)), h n (by omega)]
theorem sg_zero {F : Nat → Int} : ∀ n : Nat, (∀ i, i < n → F i = 0) → sg F n = 0
  | 0, _ => rfl
  | n + 1, h => by
    show sg F n + F n = 0
    rw [sg_zero n (fun i hi => h i (by omega)), h n (by omega)]
    rfl
theorem sg_add (F G : Nat → Int) : ∀ n : Nat, sg (fun i => F i + G i) n = sg F n + sg G n
  | 0 => rfl
  | n + 1 => by
    show sg (fun i => F i + G i) n + (F n + G n) = sg F n + F n + (sg G n + G n)
    rw [sg_add F G n]
    omega
theorem sg_mul (c : Int) (F : Nat → Int) : ∀ n : Nat, sg (fun i => c * F i) n = c * sg F n
  | 0 => by show (0 : Int) = c * 0; rw [Int.mul_zero]
  | n + 1 => by
    show sg (fun i => c * F i) n + c * F n = c * (sg F n + F n)
    rw [sg_mul c F n, Int.mul_add]
theorem sg_head (F : Nat → Int) : ∀ n : Nat, sg F (n + 1) = F 0 + sg (fun i => F (i + 1)) n
  | 0 => by show 0 + F 0 = F 0 + 0; omega
  | n + 1 => by
    show sg F (n + 1) + F (n + 1) = F 0 + (sg (fun i => F (i + 1)) n + F (n + 1))
    rw [sg_head F n]
    omega
/-- one place alone counts -/
theorem sg_one {F : Nat → Int} {j : Nat} : ∀ n : Nat, j < n → (∀ i, i < n → i ≠ j → F i = 0) → sg F n = F j
  | 0, h, _ => absurd h (by omega)
  | n + 1, h, hz => by
    show sg F n + F n = F j
    by_cases q : j = n
    · subst q
      rw [sg_zero j (fun i hi => hz i (by omega) (by omega)), Int.zero_add]
    · rw [sg_one n (by omega) (fun i a b => hz i (by omega) b), hz n (by omega) (by omega), Int.add_zero]
/-- all but one place are divisible -/
theorem sg_dvd {p : Int} {F : Nat → Int} : ∀ n : Nat, (∀ i, i < n → p ∣ F i) → p ∣ sg F n
  | 0, _ => Int.dvd_zero p
  | n + 1, h => Int.dvd_add (sg_dvd n (fun i hi => h i (by omega))) (h n (by omega))
theorem sg_dvd1 {p : Int} {F : Nat → Int} {j : Nat} : ∀ n : Nat, j < n → (∀ i, i < n → i ≠ j → p ∣ F i) → p ∣ sg F n - F j
  | 0, h, _ => absurd h (by omega)
  | n + 1, h, hz => by
    show p ∣ sg F n + F n - F j
    by_cases q : j = n
    · subst q
      rw [show sg F j + F j - F j = sg F j from by omega]
      exact sg_dvd j (fun i hi => hz i (by omega) (by omega))
    · have h1 := sg_dvd1 (p := p) (F := F) (j := j) n (by omega) (fun i a b => hz i (by omega) b)
      rw [show sg F n + F n - F j = (sg F n - F j) + F n from by omega]
      exact Int.dvd_add h1 (hz n (by omega) (by omega))
/-- the product's coefficients -/
def cv (f g : Nat → Int) (n : Nat) : Int := sg (fun i => f i * g (n - i)) (n + 1)
theorem cv_0 (f g : Nat → Int) : cv f g 0 = f 0 * g 0 := by show 0 + f 0 * g 0 = _; omega
theorem cv_s (f g : Nat → Int) (n : Nat) : cv f g (n + 1) = f 0 * g (n + 1) + cv (fun k => f (k + 1)) g n := by
  unfold cv
  rw [sg_head]
  show f 0 * g (n + 1) + _ = _
  congr 1
  refine sg_congr _ (fun i _ => ?_)
  show f (i + 1) * g (n + 1 - (i + 1)) = f (i + 1) * g (n - i)
  rw [show n + 1 - (i + 1) = n - i from by omega]
theorem cv_congr {f f' g g' : Nat → Int} {n : Nat} (h1 : ∀ i, i ≤ n → f i = f' i) (h2 : ∀ i, i ≤ n → g i = g' i) : cv f g n = cv f' g' n :=
  sg_congr _ (fun i hi => by rw [h1 i (by omega), h2 (n - i) (by omega)])
theorem cv_comm2 : ∀ (n : Nat), (∀ f g : Nat → Int, cv f g n = cv g f n) ∧ ∀ f g : Nat → Int, cv f g (n + 1) = cv g f (n + 1)
  | 0 => ⟨fun f g => by rw [cv_0, cv_0, Int.mul_comm], fun f g => by
      rw [cv_s, cv_s, cv_0, cv_0]
      show f 0 * g 1 + f 1 * g 0 = g 0 * f 1 + g 1 * f 0
      rw [Int.mul_comm (f 0), Int.mul_comm (f 1)]
      omega⟩
  | n + 1 => ⟨(cv_comm2 n).2, fun f g => by
      have ih := cv_comm2 n
      have a1 := cv_s f g (n + 1)
      have a2 := cv_s g f (n + 1)
      rw [ih.2 (fun k => f (k + 1)) g, cv_s g] at a1
      rw [ih.2 (fun k => g (k + 1)) f, cv_s f] at a2
      have a3 := ih.1 (fun k => f (k + 1)) (fun k => g (k + 1))
      rw [a1, a2]
      simp only [a3]
      omega⟩
theorem cv_comm (f g : Nat → Int) (n : Nat) : cv f g n = cv g f n := (cv_comm2 n).1 f g
theorem cv_addl (f f' g : Nat → Int) (n : Nat) : cv (fun k => f k + f' k) g n = cv f g n + cv f' g n := by
  unfold cv
  rw [← sg_add]
  exact sg_congr _ (fun i _ => Int.add_mul _ _ _)
theorem cv_mull (c : Int) (f g : Nat → Int) (n : Nat) : cv (fun k => c * f k) g n = c * cv f g n := by
  unfold cv
  rw [← sg_mul]
  exact sg_congr _ (fun i _ => Int.mul_assoc _ _ _)
theorem cv_assoc : ∀ (n : Nat) (f g h : Nat → Int), cv (cv f g) h n = cv f (cv g h) n
  | 0, f, g, h => by rw [cv_0, cv_0, cv_0, cv_0, Int.mul_assoc]
  | n + 1, f, g, h => by
    rw [cv_s, cv_s, cv_0, cv_s g h]
    have e : cv (fun k => cv f g (k + 1)) h n = cv (fun k => f 0 * g (k + 1) + cv (fun k => f (k + 1)) g k) h n := cv_congr (fun i _ => cv_s f g i) (fun i _ => rfl)
    rw [e, cv_addl (fun k => f 0 * g (k + 1)), cv_mull, cv_assoc n (fun k => f (k + 1)) g h, Int.mul_add, Int.mul_assoc]
    omega
theorem cv_one (f : Nat → Int) (n : Nat) : cv f (fun k => if k = 0 then 1 else 0) n = f n := by
  unfold cv
  rw [sg_one (j := n) (n + 1) (by omega) (fun i a b => by show f i * (if n - i = 0 then 1 else 0) = 0; rw [if_neg (by omega), Int.mul_zero])]
  show f n * (if n - n = 0 then 1 else 0) = f n
  rw [if_pos (by omega), Int.mul_one]
theorem cv_fin {f g : Nat → Int} {a b : Nat} (hf : ∀ k, a ≤ k → f k = 0) (hg : ∀ k, b ≤ k → g k = 0) (k : Nat) (h : a + b ≤ k) : cv f g k = 0 := by
  refine sg_zero _ (fun i hi => ?_)
  by_cases q : a ≤ i
  · show f i * g (k - i) = 0
    rw [hf i q, Int.zero_mul]
  · show f i * g (k - i) = 0
    rw [hg (k - i) (by omega), Int.mul_zero]
/-- the ring -/
def PZ : Type := {f : Nat → Int // ∃ n : Nat, ∀ k, n ≤ k → f k = 0}
def pzC (c : Int) : PZ := ⟨fun k => if k = 0 then c else 0, 1, fun k h => if_neg (by omega)⟩
def pzA (a b : PZ) : PZ := ⟨fun k => a.1 k + b.1 k, by
  obtain ⟨n, hn⟩ := a.2
  obtain ⟨l, hl⟩ := b.2
  exact ⟨n + l, fun k h => by show a.1 k + b.1 k = 0; have e1 := hn k (by omega); have e2 := hl k (by omega); omega⟩⟩
def pzN (a : PZ) : PZ := ⟨fun k => -(a.1 k), by
  obtain ⟨n, hn⟩ := a.2
  exact ⟨n, fun k h => by show -(a.1 k) = 0; have e1 := hn k h; omega⟩⟩
def pzM (a b : PZ) : PZ := ⟨cv a.1 b.1, by
  obtain ⟨n, hn⟩ := a.2
  obtain ⟨l, hl⟩ := b.2
  exact ⟨n + l, fun k h => cv_fin hn hl k h⟩⟩
def pzP (a : PZ) : Nat → PZ
  | 0 => pzC 1
  | n + 1 => pzM (pzP a n) a
def pzK (n : Nat) (f : Nat → Int) : PZ := ⟨fun k => if k < n then f k else 0, n, fun k h => if_neg (by omega)⟩
def pzco (a : PZ) (k : Nat) : Int := a.1 k
theorem pz_ext {a b : PZ} (h : ∀ k, a.1 k = b.1 k) : a = b := Subtype.ext (funext h)
theorem cv_C (c : Int) (f : Nat → Int) (n : Nat) : cv (fun k => if k = 0 then c else 0) f n = c * f n := by
  rw [cv_comm]
  unfold cv
  rw [sg_one (j := n) (n + 1) (by omega) (fun i a b => by show f i * (if n - i = 0 then c else 0) = 0; rw [if_neg (by omega), Int.mul_zero])]
  show f n * (if n - n = 0 then c else 0) = c * f n
  rw [if_pos (by omega), Int.mul_comm]
noncomputable def rgPZ : Lean.Grind.CommRing PZ :=
  { add := pzA, mul := pzM, neg := pzN, sub := fun a b => pzA a (pzN b),
    natCast := ⟨fun n => pzC n⟩, ofNat := fun n => ⟨pzC n⟩, intCast := ⟨pzC⟩,
    nsmul := ⟨fun n a => pzM (pzC n) a⟩, zsmul := ⟨fun n a => pzM (pzC n) a⟩, npow := ⟨pzP⟩,
    add_zero := fun a => pz_ext fun k => by show a.1 k + (if k = 0 then ((0 : Nat) : Int) else 0) = a.1 k; split <;> omega
    add_comm := fun a b => pz_ext fun k => Int.add_comm _ _
    add_assoc := fun a b c => pz_ext fun k => Int.add_assoc _ _ _
    mul_assoc := fun a b c => pz_ext fun k => cv_assoc k _ _ _
    mul_comm := fun a b => pz_ext fun k => cv_comm _ _ k
    mul_one := fun a => pz_ext fun k => cv_one _ k
    one_mul := fun a => pz_ext fun k => (cv_comm _ _ k).trans (cv_one _ k)
    left_distrib := fun a b c => pz_ext fun k => by
      show cv a.1 (fun k => b.1 k + c.1 k) k = cv a.1 b.1 k + cv a.1 c.1 k
      rw [cv_comm, cv_addl, cv_comm b.1, cv_comm c.1]
    right_distrib := fun a b c => pz_ext fun k => cv_addl _ _ _ k
    zero_mul := fun a => pz_ext fun k => by
      show cv (fun k => if k = 0 then ((0 : Nat) : Int) else 0) a.1 k = (if k = 0 then ((0 : Nat) : Int) else 0)
      rw [cv_C]
      show 0 * a.1 k = _
      rw [Int.zero_mul]
      split <;> rfl
    mul_zero := fun a => pz_ext fun k => by
      show cv a.1 (fun k => if k = 0 then ((0 : Nat) : Int) else 0) k = (if k = 0 then ((0 : Nat) : Int) else 0)
      rw [cv_comm, cv_C]
      show 0 * a.1 k = _
      rw [Int.zero_mul]
      split <;> rfl
    pow_zero := fun a => rfl
    pow_succ := fun a n => rfl
    ofNat_succ := fun n => pz_ext fun k => by
      show (if k = 0 then ((n + 1 : Nat) : Int) else 0) = (if k = 0 then (n : Int) else 0) + (if k = 0 then ((1 : Nat) : Int) else 0)
      split <;> rfl
    ofNat_eq_natCast := fun n => rfl
    nsmul_eq_natCast_mul := fun n a => rfl
    neg_add_cancel := fun a => pz_ext fun k => by
      show -(a.1 k) + a.1 k = (if k = 0 then ((0 : Nat) : Int) else 0)
      split <;> omega
    sub_eq_add_neg := fun a b => rfl
    neg_zsmul := fun i a => pz_ext fun k => by
      show cv (fun k => if k = 0 then -i else 0) a.1 k = -(cv (fun k => if k = 0 then i else 0) a.1 k)
      rw [cv_C, cv_C, Int.neg_mul]
    zsmul_natCast_eq_nsmul := fun n a => rfl
    intCast_ofNat := fun n => rfl
    intCast_neg := fun i => pz_ext fun k => by
      show (if k = 0 then -i else 0) = -(if k = 0 then i else 0)
      split <;> rfl }
/-- what is used of the ring of polynomials -/
def PolyR {R : Type} [Lean.Grind.CommRing R] (co : R → Nat → Int) (mk : Nat → (Nat → Int) → R) : Prop :=
  (∀ a b : R, (∀ n, co a n = co b n) → a = b) ∧ (∀ (a b : R) n, co (a + b) n = co a n + co b n) ∧ (∀ (a b : R) n, co (a * b) n = cv (co a) (co b) n) ∧ (∀ n, co (1 : R) n = if n = 0 then 1 else 0) ∧ (∀ a : R, ∃ n : Nat, ∀ k, n ≤ k → co a k = 0) ∧ ∀ n f k, co (mk n f) k = if k < n then f k else 0
theorem PZ_ok : @PolyR PZ rgPZ pzco pzK :=
  ⟨fun a b h => pz_ext h, fun a b n => rfl, fun a b n => rfl, fun n => rfl, fun a => a.2, fun n f k => rfl⟩
