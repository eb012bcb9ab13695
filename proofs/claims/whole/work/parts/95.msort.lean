/-! the reference: what is left is taken, the factors are sorted -/
def swx (i k x : Nat) : Nat := if x = i then k else if x = k then i else x
theorem swx_all : ∀ c : Nat, c < 7 → ∀ k : Nat, k < c → ∀ i : Nat, i < k → ((List.range c).map (swx i k)).isPerm (List.range c) = true := by decide +kernel
theorem swx_perm {c i k : Nat} (hc : c ≤ 6) (hk : k < c) (hi : i < k) (F : Nat → E3) : ((List.range c).map (fun x => F (swx i k x))).Perm ((List.range c).map F) := by
  have := List.isPerm_iff.mp (swx_all c (by omega) k hk i hi)
  have e : (List.range c).map (fun x => F (swx i k x)) = ((List.range c).map (swx i k)).map F := by rw [List.map_map]; rfl
  rw [e]
  exact this.map F
theorem elM_at {m : rz_M} {k : Nat} {j : Int} (h0 : 0 ≤ j) (h1 : j < 7) : (elM m k).1 j = m 225 (7 * (k : Int) + j) := cutf_in (f := fun y => m 225 (7 * (k : Int) + y)) h0 h1
theorem l_M_ia39 {i k : Nat} (hi : i < 6) (hk : k < 6) {m : rz_M} (hd : m 226 i = m 226 k) {K : Int → rz_M → Prop} (h1 : bef (elM m i) (elM m k) → K 1 m) (h0 : ¬ bef (elM m i) (elM m k) → K 0 m) : ∀ n : Nat, n ≤ 7 → (∀ j : Int, n ≤ j → j < 7 → (elM m i).1 j = (elM m k).1 j) → rz_E y_M_isAhead 39 [rR 221, rI i, rI k, rI ((n : Int) - 1)] [] m K
  | 0, _, he => by
    refine T_M_isAhead_39 _ _ _ _ _ (bt (by omega) (h0 (fun z => ?_)))
    rcases z with z | ⟨_, l, l0, l1, l2, _⟩
    · have z' : m 226 i < m 226 k := z
      omega
    · have := he l (by omega) l1
      omega
  | n + 1, hn, he => by
    refine T_M_isAhead_39 _ _ _ _ _ (bf (by omega) ?_)
    rw [show ((n + 1 : Nat) : Int) - 1 = n from by omega, w32_id (z := 7 * (i : Int)) (by omega) (by omega), w32_id (z := 7 * (i : Int) + n) (by omega) (by omega), w32_id (z := 7 * (k : Int)) (by omega) (by omega), w32_id (z := 7 * (k : Int) + n) (by omega) (by omega), w32_id (z := (n : Int) + -1) (by omega) (by omega), show (n : Int) + -1 = (n : Int) - 1 from by omega, ← elM_at (m := m) (k := i) (j := n) (by omega) (by omega), ← elM_at (m := m) (k := k) (j := n) (by omega) (by omega)]
    refine ⟨⟨by omega, by omega⟩, ⟨by omega, by omega⟩, bb (fun q => ?_) (fun q => ⟨⟨by omega, by omega⟩, ⟨by omega, by omega⟩, bb (fun z => T_M_isAhead_99 _ _ (h0 (fun w => bef_as _ _ w (Or.inr ⟨hd.symm, n, by omega, by omega, by omega, fun j a b => (he j (by omega) b).symm⟩)))) (fun z => T_M_isAhead_95 _ _ (h1 (Or.inr ⟨hd, n, by omega, by omega, by omega, fun j a b => he j (by omega) b⟩)))⟩)⟩
    refine l_M_ia39 hi hk hd h1 h0 n (by omega) (fun j a b => ?_)
    by_cases w : j = n
    · rw [w]; exact q
    · exact he j (by omega) b
theorem c_M_isAhead {i k : Nat} (hi : i < 6) (hk : k < 6) {m : rz_M} {K : Int → rz_M → Prop} (h1 : bef (elM m i) (elM m k) → K 1 m) (h0 : ¬ bef (elM m i) (elM m k) → K 0 m) : rz_C y_M_isAhead [rR 221, rI i, rI k] m K := by
  refine T_M_isAhead_0 _ _ _ _ ⟨⟨by omega, by omega⟩, ⟨by omega, by omega⟩, bb (fun q => l_M_ia39 hi hk q h1 h0 7 (by decide) (fun j a b => by omega)) (fun q => ⟨⟨by omega, by omega⟩, ⟨by omega, by omega⟩, bb (fun z => h0 (fun w => ?_)) (fun z => h1 (Or.inl ?_))⟩)⟩
  · rcases w with w | ⟨w, _⟩
    · have w' : m 226 i < m 226 k := w
      omega
    · exact q w
  · show m 226 i < m 226 k
    omega
/-- b places of two rows are exchanged -/
def xch (f : Int → Int) (i k b : Int) : Int → Int := fun y => if 7 * i ≤ y ∧ y < 7 * i + b then f (y - 7 * i + 7 * k) else if 7 * k ≤ y ∧ y < 7 * k + b then f (y - 7 * k + 7 * i) else f y
theorem l_M_xc {i k : Nat} (hi : i < k) (hk : k < 6) {m0 : rz_M} {K : Int → rz_M → Prop} (h : ∀ m' : rz_M, (∀ x, x ≠ 225 → x ≠ 226 → x ≠ 227 → m' x = m0 x) → (∀ x : Nat, x < 6 → elM m' x = elM m0 (swx i k x)) → K 0 m') : ∀ (r : Nat) (b : Int) (m : rz_M), 7 - b = r → 0 ≤ b → (∀ x, x ≠ 225 → m x = m0 x) → (∀ y : Int, m 225 y = xch (m0 225) i k b y) → rz_E y_M_exchange 2 [rR 221, rI i, rI k, rI b, rX 0, rX 0] [] m K
  | 0, b, m, hr, b0, hf, hv => by
    have e : b = 7 := by omega
    subst e
    refine T_M_exchange_2 _ _ _ _ _ (bt (by decide) ⟨⟨by omega, by omega⟩, ⟨by omega, by omega⟩, ⟨by omega, by omega⟩, ⟨by omega, by omega⟩, ⟨by omega, by omega⟩, ⟨by omega, by omega⟩, ⟨by omega, by omega⟩, T_M_exchange_107 _ _ _ _ ⟨⟨by omega, by omega⟩, ?_⟩⟩)
    have e226 := hf 226 (by decide)
    have e227 := hf 227 (by decide)
    rw [e226, e227]
    refine h _ (fun x x1 x2 x3 => by rw [up_ne x3, up_ne x3, up_ne x2, up_ne x2]; exact hf x x1) (fun x hx => ?_)
    refine elM_of (f := fun y => m0 225 (7 * ((swx i k x : Nat) : Int) + y)) (fun y y0 y1 => ?_) ?_ ?_
    · rw [up_ne (by decide), up_ne (by decide), up_ne (by decide), up_ne (by decide), hv]
      unfold xch swx
      by_cases q1 : x = i
      · subst q1
        rw [if_pos ⟨by omega, by omega⟩, if_pos rfl]
        congr 1
        omega
      · by_cases q2 : x = k
        · subst q2
          rw [if_neg (by omega), if_pos ⟨by omega, by omega⟩, if_neg q1, if_pos rfl]
          congr 1
          omega
        · rw [if_neg (by omega), if_neg (by omega), if_neg q1, if_neg q2]
    · rw [up_ne (by decide), up_ne (by decide)]
      unfold swx
      by_cases q2 : x = k
      · subst q2
        rw [up_eq, if_neg (by omega), if_pos rfl]
      · rw [up_nj (by omega)]
        by_cases q1 : x = i
        · subst q1
          rw [up_eq, if_pos rfl]
        · rw [up_nj (by omega), if_neg q1, if_neg q2, e226]
    · unfold swx
      by_cases q2 : x = k
      · subst q2
        rw [up_eq, if_neg (by omega), if_pos rfl]
      · rw [up_nj (by omega)]
        by_cases q1 : x = i
        · subst q1
          rw [up_eq, if_pos rfl]
        · rw [up_nj (by omega), up_ne (by decide), up_ne (by decide), if_neg q1, if_neg q2, e227]
  | r + 1, b, m, hr, b0, hf, hv => by
    refine T_M_exchange_2 _ _ _ _ _ (bf (by omega) ?_)
    rw [w32_id (z := 7 * (i : Int)) (by omega) (by omega), w32_id (z := 7 * (i : Int) + b) (by omega) (by omega), w32_id (z := 7 * (k : Int)) (by omega) (by omega), w32_id (z := 7 * (k : Int) + b) (by omega) (by omega)]
    refine ⟨⟨by omega, by omega⟩, ⟨by omega, by omega⟩, ⟨by omega, by omega⟩, ⟨by omega, by omega⟩, T_M_exchange_56 _ _ _ _ _ ?_⟩
    rw [w32_id (by omega) (by omega)]
    refine l_M_xc hi hk h r (b + 1) _ (by omega) (by omega) (fun x hx => by rw [up_ne hx, up_ne hx]; exact hf x hx) (fun y => ?_)
    by_cases q2 : y = 7 * (k : Int) + b
    · rw [q2, up_eq, hv]
      unfold xch
      rw [if_neg (by omega), if_neg (by omega), if_neg (by omega), if_pos ⟨by omega, by omega⟩]
      congr 1
      omega
    · rw [up_nj q2]
      by_cases q1 : y = 7 * (i : Int) + b
      · rw [q1, up_eq, hv]
        unfold xch
        rw [if_neg (by omega), if_neg (by omega), if_pos ⟨by omega, by omega⟩]
        congr 1
        omega
      · rw [up_nj q1, hv]
        unfold xch
        by_cases z1 : 7 * (i : Int) ≤ y ∧ y < 7 * i + b
        · rw [if_pos z1, if_pos ⟨z1.1, by omega⟩]
        · rw [if_neg z1]
          by_cases z2 : 7 * (k : Int) ≤ y ∧ y < 7 * k + b
          · rw [if_pos z2, if_neg (by omega), if_pos ⟨z2.1, by omega⟩]
          · rw [if_neg z2, if_neg (by omega), if_neg (by omega)]
theorem c_M_exchange {i k : Nat} (hi : i < k) (hk : k < 6) {m0 : rz_M} {K : Int → rz_M → Prop} (h : ∀ m' : rz_M, (∀ x, x ≠ 225 → x ≠ 226 → x ≠ 227 → m' x = m0 x) → (∀ x : Nat, x < 6 → elM m' x = elM m0 (swx i k x)) → K 0 m') : rz_C y_M_exchange [rR 221, rI i, rI k] m0 K :=
  T_M_exchange_0 _ _ _ _ (l_M_xc hi hk h 7 0 m0 (by decide) (by decide) (fun _ _ => rfl) (fun y => by
    unfold xch
    rw [if_neg (by omega), if_neg (by omega)]))
