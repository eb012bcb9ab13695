/-! by a prime: powers of p, the field that one that can't be parted makes -/
/-- an ideal that is prime -/
def prI {R : Type} [Lean.Grind.CommRing R] (J : R → Prop) : Prop := J 0 ∧ (∀ a b, J a → J b → J (a + b)) ∧ (∀ a b, J a → J (b * a)) ∧ (∀ a b, J (a * b) → J a ∨ J b) ∧ ¬ J 1
section
variable {R : Type}
theorem prI_neg [Lean.Grind.CommRing R] {J : R → Prop} (h : prI J) {a : R} (ha : J a) : J (-a) := by
  rw [show -a = (-1) * a from by grind]
  exact h.2.2.1 _ _ ha
theorem prI_sub [Lean.Grind.CommRing R] {J : R → Prop} (h : prI J) {a b : R} (ha : J a) (hb : J b) : J (a - b) := by
  rw [show a - b = a + -b from by grind]
  exact h.2.1 _ _ ha (prI_neg h hb)
theorem prI_sy [Lean.Grind.CommRing R] {J : R → Prop} (h : prI J) {a b : R} (ha : J (a - b)) : J (b - a) := by
  rw [show b - a = -(a - b) from by grind]
  exact prI_neg h ha
theorem prI_tr [Lean.Grind.CommRing R] {J : R → Prop} (h : prI J) {a b c : R} (ha : J (a - b)) (hb : J (b - c)) : J (a - c) := by
  rw [show a - c = (a - b) + (b - c) from by grind]
  exact h.2.1 _ _ ha hb
theorem prI_pw [Lean.Grind.CommRing R] {J : R → Prop} (h : prI J) {a b : R} (ha : J (a - b)) : ∀ n : Nat, J (a ^ n - b ^ n)
  | 0 => by
    rw [show a ^ 0 - b ^ 0 = (0 : R) from by grind]
    exact h.1
  | n + 1 => by
    rw [show a ^ (n + 1) - b ^ (n + 1) = a * (a ^ n - b ^ n) + b ^ n * (a - b) from by grind]
    exact h.2.1 _ _ (h.2.2.1 _ _ (prI_pw h ha n)) (h.2.2.1 _ _ ha)
theorem prI_pz [Lean.Grind.CommRing R] {J : R → Prop} (h : prI J) {a : R} : ∀ n : Nat, J (a ^ n) → J a
  | 0, q => absurd (by rwa [show a ^ 0 = 1 from by grind] at q) h.2.2.2.2
  | n + 1, q => by
    rw [show a ^ (n + 1) = a ^ n * a from by grind] at q
    rcases h.2.2.2.1 _ _ q with z | z
    · exact prI_pz h n z
    · exact z
/-! roots of one that ends with 1 -/
def evl [Lean.Grind.CommRing R] : List R → R → R
  | [], _ => 0
  | a :: l, t => a + t * evl l t
def qtl [Lean.Grind.CommRing R] : List R → R → List R
  | [], _ => []
  | [_], _ => []
  | _ :: b :: l, s => evl (b :: l) s :: qtl (b :: l) s
theorem evl_qt [Lean.Grind.CommRing R] (t s : R) : ∀ c : List R, evl c t - evl c s = (t - s) * evl (qtl c s) t
  | [] => by show (0 : R) - 0 = (t - s) * 0; grind
  | [a] => by show (a + t * 0) - (a + s * 0) = (t - s) * 0; grind
  | a :: b :: l => by
    have ih := evl_qt t s (b :: l)
    show (a + t * evl (b :: l) t) - (a + s * evl (b :: l) s) = (t - s) * (evl (b :: l) s + t * evl (qtl (b :: l) s) t)
    grind
theorem qtl_mon [Lean.Grind.CommRing R] (s : R) : ∀ (n : Nat) (l : List R), l.length = n → ∀ a : R, ∃ l' : List R, l'.length = n ∧ qtl (a :: (l ++ [1])) s = l' ++ [1]
  | 0, l, h, a => by
    have e := List.eq_nil_of_length_eq_zero h
    subst e
    refine ⟨[], rfl, ?_⟩
    show [evl [1] s] = [1]
    congr 1
    show 1 + s * 0 = (1 : R)
    grind
  | n + 1, l, h, a => by
    cases l with
    | nil => simp at h
    | cons b l =>
      obtain ⟨l', h1, h2⟩ := qtl_mon s n l (by simpa using h) b
      refine ⟨evl (b :: (l ++ [1])) s :: l', by simp [h1], ?_⟩
      show evl (b :: (l ++ [1])) s :: qtl (b :: (l ++ [1])) s = _
      rw [h2]
      rfl
theorem roots_le [Lean.Grind.CommRing R] {J : R → Prop} (hJ : prI J) (el : Nat → R) : ∀ (n : Nat) (l : List R) (k : Nat), l.length = n → (∀ i j, i < k → j < k → i ≠ j → ¬ J (el i - el j)) → (∀ i, i < k → J (evl (l ++ [1]) (el i))) → k ≤ n
  | 0, l, k, hl, hd, hr => by
    have e := List.eq_nil_of_length_eq_zero hl
    subst e
    refine Classical.byContradiction fun q => hJ.2.2.2.2 ?_
    have := hr 0 (by omega)
    rwa [show evl (([] : List R) ++ [1]) (el 0) = 1 from by show 1 + el 0 * 0 = (1 : R); grind] at this
  | n + 1, l, k, hl, hd, hr => by
    cases k with
    | zero => omega
    | succ k =>
      cases l with
      | nil => simp at hl
      | cons a l =>
        obtain ⟨l', h1, h2⟩ := qtl_mon (el k) n l (by simpa using hl) a
        have := roots_le hJ el n l' k h1 (fun i j hi hj => hd i j (by omega) (by omega)) (fun i hi => by
          have e := evl_qt (el i) (el k) (a :: (l ++ [1]))
          have h3 := prI_sub hJ (hr i (by omega)) (hr k (by omega))
          rw [show (a :: l) ++ [1] = a :: (l ++ [1]) from rfl, e, h2] at h3
          rcases hJ.2.2.2.1 _ _ h3 with z | z
          · exact absurd z (hd i k (by omega) (by omega) (by omega))
          · exact z)
        omega
theorem evl_rep [Lean.Grind.CommRing R] (t : R) : ∀ k : Nat, evl (List.replicate k 0 ++ [1]) t = t ^ k
  | 0 => by show 1 + t * 0 = t ^ 0; grind
  | k + 1 => by
    show 0 + t * evl (List.replicate k 0 ++ [1]) t = t ^ (k + 1)
    rw [evl_rep t k]
    grind
/-- at most n elements are their own n-th powers -/
theorem pow_roots [Lean.Grind.CommRing R] {J : R → Prop} (hJ : prI J) (el : Nat → R) {n k : Nat} (hn : 2 ≤ n) (hd : ∀ i j, i < k → j < k → i ≠ j → ¬ J (el i - el j)) (hr : ∀ i, i < k → J (el i ^ n - el i)) : k ≤ n := by
  obtain ⟨d, rfl⟩ : ∃ d, n = d + 2 := ⟨n - 2, by omega⟩
  refine roots_le hJ el (d + 2) (0 :: (-1) :: List.replicate d 0) k (by simp) hd (fun i hi => ?_)
  have e : evl ((0 :: (-1) :: List.replicate d 0) ++ [1]) (el i) = el i ^ (d + 2) - el i := by
    show 0 + el i * (-1 + el i * evl (List.replicate d 0 ++ [1]) (el i)) = _
    rw [evl_rep]
    grind
  rw [e]
  exact hr i hi
/-! Fermat: the product of all that are not nought -/
theorem perm_of {l1 l2 : List Nat} : ∀ (n : Nat), l1.length = n → l1.Nodup → (∀ x ∈ l1, x ∈ l2) → l2.length ≤ n → l1.Perm l2 := by
  intro n
  induction n generalizing l1 l2 with
  | zero =>
    intro h _ _ h2
    rw [List.eq_nil_of_length_eq_zero h, List.eq_nil_of_length_eq_zero (by omega : l2.length = 0)]
  | succ n ih =>
    intro h hn hm h2
    cases l1 with
    | nil => simp at h
    | cons a l =>
      obtain ⟨s, t, e⟩ := List.append_of_mem (hm a (by simp))
      subst e
      have hn2 := List.nodup_cons.mp hn
      refine ((ih (l1 := l) (l2 := s ++ t) (by simpa using h) hn2.2 (fun x hx => ?_) ?_).cons a).trans List.perm_middle.symm
      · have := hm x (by simp [hx])
        simp only [List.mem_append, List.mem_cons] at this ⊢
        rcases this with z | z | z
        · exact Or.inl z
        · subst z; exact absurd hx hn2.1
        · exact Or.inr z
      · simp only [List.length_append, List.length_cons] at h2 ⊢
        omega
def lpr [Lean.Grind.CommRing R] (el : Nat → R) : List Nat → R
  | [] => 1
  | i :: l => el i * lpr el l
theorem lpr_perm [Lean.Grind.CommRing R] (el : Nat → R) {l1 l2 : List Nat} (h : l1.Perm l2) : lpr el l1 = lpr el l2 := by
  induction h with
  | nil => rfl
  | cons x _ ih => show el x * _ = el x * _; rw [ih]
  | swap x y l => show el y * (el x * lpr el l) = el x * (el y * lpr el l); grind
  | trans _ _ a b => exact a.trans b
theorem lpr_nz [Lean.Grind.CommRing R] {J : R → Prop} (hJ : prI J) (el : Nat → R) : ∀ l : List Nat, (∀ i ∈ l, ¬ J (el i)) → ¬ J (lpr el l)
  | [], _ => hJ.2.2.2.2
  | i :: l, h => fun q => by
    rcases hJ.2.2.2.1 _ _ q with z | z
    · exact h i (by simp) z
    · exact lpr_nz hJ el l (fun j hj => h j (by simp [hj])) z
theorem lpr_map [Lean.Grind.CommRing R] {J : R → Prop} (hJ : prI J) (el : Nat → R) (f : Nat → Nat) (a : R) : ∀ l : List Nat, (∀ i ∈ l, J (a * el i - el (f i))) → J (a ^ l.length * lpr el l - lpr el (l.map f))
  | [], _ => by
    show J (a ^ 0 * 1 - 1)
    rw [show a ^ 0 * 1 - 1 = (0 : R) from by grind]
    exact hJ.1
  | i :: l, h => by
    show J (a ^ (l.length + 1) * (el i * lpr el l) - el (f i) * lpr el (l.map f))
    have ih := lpr_map hJ el f a l (fun j hj => h j (by simp [hj]))
    rw [show a ^ (l.length + 1) * (el i * lpr el l) - el (f i) * lpr el (l.map f) = (a * el i) * (a ^ l.length * lpr el l - lpr el (l.map f)) + lpr el (l.map f) * (a * el i - el (f i)) from by grind]
    exact hJ.2.1 _ _ (hJ.2.2.1 _ _ ih) (hJ.2.2.1 _ _ (h i (by simp)))
theorem nodup_map {f : Nat → Nat} : ∀ l : List Nat, (∀ i ∈ l, ∀ j ∈ l, f i = f j → i = j) → l.Nodup → (l.map f).Nodup
  | [], _, _ => List.nodup_nil
  | a :: l, h, hn => by
    have hn2 := List.nodup_cons.mp hn
    refine List.nodup_cons.mpr ⟨fun q => ?_, nodup_map l (fun i hi j hj => h i (by simp [hi]) j (by simp [hj])) hn2.2⟩
    obtain ⟨b, hb, e⟩ := List.mem_map.mp q
    have := h a (by simp) b (by simp [hb]) e.symm
    subst this
    exact hn2.1 hb
theorem fermat [Lean.Grind.CommRing R] {J : R → Prop} (hJ : prI J) (el : Nat → R) (U : List Nat) (hU : U.Nodup) (hd : ∀ i ∈ U, ∀ j ∈ U, J (el i - el j) → i = j) (hn : ∀ i ∈ U, ¬ J (el i)) (hs : ∀ b : R, ¬ J b → ∃ i ∈ U, J (b - el i)) {a : R} (ha : ¬ J a) : J (a ^ U.length - 1) := by
  have hf : ∀ i : Nat, ∃ j : Nat, i ∈ U → j ∈ U ∧ J (a * el i - el j) := fun i => by
    rcases Classical.em (i ∈ U) with q | q
    · obtain ⟨j, h1, h2⟩ := hs (a * el i) (fun z => by
        rcases hJ.2.2.2.1 _ _ z with y | y
        · exact ha y
        · exact hn i q y)
      exact ⟨j, fun _ => ⟨h1, h2⟩⟩
    · exact ⟨0, fun z => absurd z q⟩
  have hF := Classical.axiomOfChoice hf
  obtain ⟨f, hf2⟩ := hF
  have hp : (U.map f).Perm U := by
    refine perm_of U.length (by simp) (nodup_map U (fun i hi j hj e => ?_) hU) (fun x hx => ?_) (Nat.le_refl _)
    · have h1 := (hf2 i hi).2
      have h2 := (hf2 j hj).2
      rw [e] at h1
      have h3 := prI_sub hJ h1 h2
      rw [show a * el i - el (f j) - (a * el j - el (f j)) = a * (el i - el j) from by grind] at h3
      rcases hJ.2.2.2.1 _ _ h3 with z | z
      · exact absurd z ha
      · exact hd i hi j hj z
    · obtain ⟨b, hb, e⟩ := List.mem_map.mp hx
      subst e
      exact (hf2 b hb).1
  have h1 := lpr_map hJ el f a U (fun i hi => (hf2 i hi).2)
  rw [lpr_perm el hp, show a ^ U.length * lpr el U - lpr el U = (a ^ U.length - 1) * lpr el U from by grind] at h1
  rcases hJ.2.2.2.1 _ _ h1 with z | z
  · exact z
  · exact absurd z (lpr_nz hJ el U hn)
/-! the p-th power of a sum -/
def chs : Nat → Nat → Nat
  | _, 0 => 1
  | 0, _ + 1 => 0
  | n + 1, k + 1 => chs n k + chs n (k + 1)
theorem chs_0 : ∀ n k : Nat, n < k → chs n k = 0
  | 0, k + 1, _ => rfl
  | n + 1, k + 1, h => by
    show chs n k + chs n (k + 1) = 0
    rw [chs_0 n k (by omega), chs_0 n (k + 1) (by omega)]
theorem chs_n : ∀ n : Nat, chs n n = 1
  | 0 => rfl
  | n + 1 => by
    show chs n n + chs n (n + 1) = 1
    rw [chs_n n, chs_0 n (n + 1) (by omega)]
theorem chs_k : ∀ n k : Nat, (k + 1) * chs (n + 1) (k + 1) = (n + 1) * chs n k
  | 0, 0 => rfl
  | 0, k + 1 => by
    rw [chs_0 1 (k + 2) (by omega), chs_0 0 (k + 1) (by omega)]
    simp
  | n + 1, 0 => by
    have h := chs_k n 0
    show 1 * (chs (n + 1) 0 + chs (n + 1) 1) = (n + 2) * chs (n + 1) 0
    have e0 : chs (n + 1) 0 = 1 := rfl
    have e1 : chs n 0 = 1 := by cases n <;> rfl
    rw [e1, Nat.mul_one, Nat.zero_add, Nat.one_mul] at h
    rw [e0, h]
    omega
  | n + 1, k + 1 => by
    have h1 := chs_k n k
    have h2 := chs_k n (k + 1)
    have e : chs (n + 2) (k + 2) = chs (n + 1) (k + 1) + chs (n + 1) (k + 2) := rfl
    have e2 : chs (n + 1) (k + 1) = chs n k + chs n (k + 1) := rfl
    rw [e]
    grind
def rsum [Lean.Grind.CommRing R] (F : Nat → R) : Nat → R
  | 0 => 0
  | n + 1 => rsum F n + F n
def nr [Lean.Grind.CommRing R] : Nat → R
  | 0 => 0
  | n + 1 => nr n + 1
theorem nr_add [Lean.Grind.CommRing R] (a : Nat) : ∀ b : Nat, (nr (a + b) : R) = nr a + nr b
  | 0 => by show nr a = nr a + (0 : R); grind
  | b + 1 => by
    show nr (a + b) + (1 : R) = nr a + (nr b + 1)
    rw [nr_add a b]
    grind
theorem rsum_congr [Lean.Grind.CommRing R] {F G : Nat → R} : ∀ n : Nat, (∀ i, i < n → F i = G i) → rsum F n = rsum G n
  | 0, _ => rfl
  | n + 1, h => by
    show rsum F n + F n = rsum G n + G n
    rw [rsum_congr n (fun i hi => h i (by omega)), h n (by omega)]
theorem rsum_head [Lean.Grind.CommRing R] (F : Nat → R) : ∀ n : Nat, rsum F (n + 1) = F 0 + rsum (fun i => F (i + 1)) n
  | 0 => by show 0 + F 0 = F 0 + (0 : R); grind
  | n + 1 => by
    show rsum F (n + 1) + F (n + 1) = F 0 + (rsum (fun i => F (i + 1)) n + F (n + 1))
    rw [rsum_head F n]
    grind
theorem rsum_add [Lean.Grind.CommRing R] (F G : Nat → R) : ∀ n : Nat, rsum (fun i => F i + G i) n = rsum F n + rsum G n
  | 0 => by show (0 : R) = 0 + 0; grind
  | n + 1 => by
    show rsum (fun i => F i + G i) n + (F n + G n) = _
    rw [rsum_add F G n]
    show _ = rsum F n + F n + (rsum G n + G n)
    grind
theorem rsum_mul [Lean.Grind.CommRing R] (c : R) (F : Nat → R) : ∀ n : Nat, rsum (fun i => c * F i) n = c * rsum F n
  | 0 => by show (0 : R) = c * 0; grind
  | n + 1 => by
    show rsum (fun i => c * F i) n + c * F n = _
    rw [rsum_mul c F n]
    show _ = c * (rsum F n + F n)
    grind
theorem binom [Lean.Grind.CommRing R] (a b : R) : ∀ n : Nat, (a + b) ^ n = rsum (fun k => nr (chs n k) * (a ^ k * b ^ (n - k))) (n + 1)
  | 0 => by
    show (a + b) ^ 0 = 0 + nr 1 * (a ^ 0 * b ^ 0)
    show (a + b) ^ 0 = 0 + (0 + 1) * (a ^ 0 * b ^ 0)
    grind
  | n + 1 => by
    have ih := binom a b n
    rw [show (a + b) ^ (n + 1) = a * (a + b) ^ n + b * (a + b) ^ n from by grind, ih, ← rsum_mul, ← rsum_mul]
    -- the upper sum shifts by one place
    have e1 : rsum (fun k => nr (chs (n + 1) k) * (a ^ k * b ^ (n + 1 - k))) (n + 2) = nr (chs (n + 1) 0) * (a ^ 0 * b ^ (n + 1)) + rsum (fun k => nr (chs (n + 1) (k + 1)) * (a ^ (k + 1) * b ^ (n - k))) (n + 1) := by
      rw [rsum_head]
      congr 1
      exact rsum_congr _ (fun i _ => by rw [show n + 1 - (i + 1) = n - i from by omega])
    have e2 : rsum (fun k => nr (chs (n + 1) (k + 1)) * (a ^ (k + 1) * b ^ (n - k))) (n + 1) = rsum (fun k => a * (nr (chs n k) * (a ^ k * b ^ (n - k)))) (n + 1) + rsum (fun k => nr (chs n (k + 1)) * (a ^ (k + 1) * b ^ (n - k))) (n + 1) := by
      rw [← rsum_add]
      refine rsum_congr _ (fun i _ => ?_)
      rw [show chs (n + 1) (i + 1) = chs n i + chs n (i + 1) from rfl, nr_add]
      grind
    have e3 : rsum (fun k => b * (nr (chs n k) * (a ^ k * b ^ (n - k)))) (n + 1) = b * (nr (chs n 0) * (a ^ 0 * b ^ n)) + rsum (fun k => nr (chs n (k + 1)) * (a ^ (k + 1) * b ^ (n - k))) n := by
      rw [rsum_head]
      congr 1
      refine rsum_congr _ (fun i hi => ?_)
      have : b ^ (n - i) = b * b ^ (n - (i + 1)) := by
        rw [show n - i = (n - (i + 1)) + 1 from by omega]
        grind
      rw [this]
      grind
    have e4 : rsum (fun k => nr (chs n (k + 1)) * (a ^ (k + 1) * b ^ (n - k))) (n + 1) = rsum (fun k => nr (chs n (k + 1)) * (a ^ (k + 1) * b ^ (n - k))) n + (0 : R) := by
      show rsum _ n + nr (chs n (n + 1)) * (a ^ (n + 1) * b ^ (n - n)) = _
      rw [chs_0 n (n + 1) (by omega)]
      show _ + (0 : R) * _ = _
      grind
    have c0 : chs n 0 = 1 := by cases n <;> rfl
    have c1 : chs (n + 1) 0 = 1 := rfl
    rw [e1, e2, e3, e4, c0, c1]
    generalize rsum (fun k => nr (chs n (k + 1)) * (a ^ (k + 1) * b ^ (n - k))) n = S
    generalize rsum (fun k => a * (nr (chs n k) * (a ^ k * b ^ (n - k)))) (n + 1) = T
    have : (nr 1 : R) = 1 := by show (0 : R) + 1 = 1; grind
    rw [this]
    grind
end
