/-! the reference: what is made takes a factor so often (numbers up to a power of two) -/
theorem sg_trim {F : Nat → Int} {k : Nat} : ∀ r : Nat, (∀ i, k ≤ i → i < k + r → F i = 0) → sg F (k + r) = sg F k
  | 0, _ => rfl
  | r + 1, h => by
    show sg F (k + r) + F (k + r) = _
    rw [h (k + r) (by omega) (by omega), sg_trim r (fun i a b => h i a (by omega))]
    omega
section
variable {R : Type}
theorem l_M_mt22 {i : Nat} (hi : i < 6) {often v3 : Int} {n : Nat} (hn : n < 7) {m : rz_M} {F G : Nat → Int} {d : Nat} (hd : d ≤ 6) (ed : m 226 i = d) (hF : ∀ k : Nat, k ≤ d → m 225 (7 * (i : Int) + k) = F k) (hFz : ∀ k : Nat, d < k → F k = 0) (hG : ∀ k : Nat, k ≤ n → m 223 k = w64 (G k)) {K : Int → rz_M → Prop} (h : rz_E y_M_makeTimes 11 [rR 221, rI i, rI often, rI v3, rI ((n : Int) - 1), rX 0, rX 0, rX 0] [] (rz_up m 223 n (w64 (cv F G n))) K) : ∀ (r b : Nat), n + 1 - b = r → b ≤ n + 1 → rz_E y_M_makeTimes 22 [rR 221, rI i, rI often, rI v3, rI n, rL (w64 (sg (fun k => F k * G (n - k)) b)), rX 1, rI b] [] m K := by
  have fin : ∀ b : Nat, sg (fun k => F k * G (n - k)) b = cv F G n → rz_in (n : Int) 13 ∧ rz_E y_M_makeTimes 11 [rR 221, rI i, rI often, rI v3, rI (w32 ((n : Int) + (-1))), rX 0, rX 0, rX 0] [] (rz_up m 223 n (w64 (sg (fun k => F k * G (n - k)) b))) K := fun b e => by
    rw [e, w32_id (by omega) (by omega), show (n : Int) + -1 = (n : Int) - 1 from by omega]
    exact ⟨⟨by omega, by omega⟩, h⟩
  intro r
  induction r with
  | zero =>
    intro b hr hb
    have e : b = n + 1 := by omega
    subst e
    exact T_M_makeTimes_22 _ _ _ _ _ _ _ _ (bt (by omega) (fin (n + 1) rfl))
  | succ r ih =>
    intro b hr hb
    refine T_M_makeTimes_22 _ _ _ _ _ _ _ _ (bf (by omega) ⟨⟨by omega, by omega⟩, ?_⟩)
    rw [ed]
    refine bb (fun q => fin b ?_) (fun q => ?_)
    · have := sg_trim (F := fun k => F k * G (n - k)) (k := b) (n + 1 - b) (fun k a _ => by show F k * _ = 0; rw [hFz k (by omega), Int.zero_mul])
      rw [show b + (n + 1 - b) = n + 1 from by omega] at this
      exact this.symm
    · have e1 : m 225 (7 * (i : Int) + b) = F b := hF b (by omega)
      have e2 : m 223 ((n : Int) - b) = w64 (G (n - b)) := by
        have := hG (n - b) (by omega)
        rwa [show ((n - b : Nat) : Int) = (n : Int) - b from by omega] at this
      rw [w32_id (z := 7 * (i : Int)) (by omega) (by omega), w32_id (z := 7 * (i : Int) + b) (by omega) (by omega), w32_id (z := (n : Int) - b) (by omega) (by omega), w32_id (z := (b : Int) + 1) (by omega) (by omega), e1, e2, w64_mulr, w64_addr, w64_addl, show (b : Int) + 1 = ((b + 1 : Nat) : Int) from by omega]
      exact ⟨⟨by omega, by omega⟩, ⟨by omega, by omega⟩, ih (b + 1) (by omega) (by omega)⟩
theorem l_M_mt11 {i : Nat} (hi : i < 6) {often v3 : Int} {m0 : rz_M} {F G : Nat → Int} {d : Nat} (hd : d ≤ 6) (ed : m0 226 i = d) (hF : ∀ k : Nat, k ≤ d → m0 225 (7 * (i : Int) + k) = F k) (hFz : ∀ k : Nat, d < k → F k = 0) (hG : ∀ k : Nat, k < 7 → m0 223 k = w64 (G k)) {K : Int → rz_M → Prop} (h : ∀ m' : rz_M, (∀ x, x ≠ 223 → m' x = m0 x) → (∀ y : Int, 7 ≤ y → m' 223 y = m0 223 y) → (∀ k : Nat, k < 7 → m' 223 k = w64 (cv F G k)) → rz_E y_M_makeTimes 2 [rR 221, rI i, rI often, rI (w32 (v3 + 1)), rX 0, rX 0, rX 0, rX 0] [] m' K) : ∀ (n : Nat) (m : rz_M), n ≤ 7 → (∀ x, x ≠ 223 → m x = m0 x) → (∀ y : Int, 7 ≤ y → m 223 y = m0 223 y) → (∀ k : Nat, k < n → m 223 k = m0 223 k) → (∀ k : Nat, n ≤ k → k < 7 → m 223 k = w64 (cv F G k)) → rz_E y_M_makeTimes 11 [rR 221, rI i, rI often, rI v3, rI ((n : Int) - 1), rX 0, rX 0, rX 0] [] m K
  | 0, m, _, hf, h7, h1, h2 => T_M_makeTimes_11 _ _ _ _ _ _ (bt (by omega) (h m hf h7 (fun k hk => h2 k (Nat.zero_le _) hk)))
  | n + 1, m, hn, hf, h7, h1, h2 => by
    rw [show ((n + 1 : Nat) : Int) - 1 = n from by omega]
    refine T_M_makeTimes_11 _ _ _ _ _ _ (bf (by omega) ?_)
    have := l_M_mt22 (m := m) hi (often := often) (v3 := v3) (n := n) (by omega) hd (by rw [hf 226 (by decide)]; exact ed) (fun k hk => by rw [hf 225 (by decide)]; exact hF k hk) hFz (fun k hk => by rw [h1 k (by omega)]; exact hG k (by omega)) (K := K) (l_M_mt11 hi hd ed hF hFz hG h n _ (by omega) (fun x hx => by rw [up_ne hx]; exact hf x hx) (fun y hy => by rw [up_nj (by omega)]; exact h7 y hy) (fun k hk => by rw [up_nj (by omega)]; exact h1 k (by omega)) (fun k a b => by
      by_cases w : k = n
      · rw [w, up_eq]
      · rw [up_nj (by omega)]; exact h2 k (by omega) b)) (n + 1) 0 (by omega) (by omega)
    rwa [show w64 (sg (fun k => F k * G (n - k)) 0) = 0 from by show w64 0 = 0; decide +kernel] at this
theorem l_M_mt2 [Lean.Grind.CommRing R] {co : R → Nat → Int} {mk : Nat → (Nat → Int) → R} (H : PolyR co mk) {i : Nat} (hi : i < 6) {often : Int} (ho : often ≤ 100) {m0 : rz_M} {F : R} {d : Nat} (hd : d ≤ 6) (ed : m0 226 i = d) (hF : ∀ k : Nat, k ≤ d → m0 225 (7 * (i : Int) + k) = co F k) (hFz : ∀ k : Nat, d < k → co F k = 0) {K : Int → rz_M → Prop} {P : R} (h : ∀ m' : rz_M, (∀ x, x ≠ 223 → m' x = m0 x) → (∀ y : Int, 7 ≤ y → m' 223 y = m0 223 y) → (∀ k : Nat, k < 7 → m' 223 k = w64 (co (P * F ^ often.toNat) k)) → K 0 m') : ∀ (r : Nat) (t : Nat) (m : rz_M), (often - t).toNat = r → (t : Int) ≤ often ∨ t = 0 → (∀ x, x ≠ 223 → m x = m0 x) → (∀ y : Int, 7 ≤ y → m 223 y = m0 223 y) → (∀ k : Nat, k < 7 → m 223 k = w64 (co (P * F ^ t) k)) → rz_E y_M_makeTimes 2 [rR 221, rI i, rI often, rI t, rX 0, rX 0, rX 0, rX 0] [] m K := by
  intro r
  induction r with
  | zero =>
    intro t m hr ht hf h7 hv
    refine T_M_makeTimes_2 _ _ _ _ _ (bt (by omega) (h m hf h7 ?_))
    rw [show often.toNat = t from by omega]
    exact hv
  | succ r ih =>
    intro t m hr ht hf h7 hv
    refine T_M_makeTimes_2 _ _ _ _ _ (bf (by omega) ?_)
    have := l_M_mt11 (m0 := m) hi (often := often) (v3 := t) hd (by rw [hf 226 (by decide)]; exact ed) (fun k hk => by rw [hf 225 (by decide)]; exact hF k hk) hFz hv (K := K) (fun m' f' o' v' => by
      rw [w32_id (by omega) (by omega), show (t : Int) + 1 = ((t + 1 : Nat) : Int) from by omega]
      refine ih (t + 1) m' (by omega) (by omega) (fun x hx => by rw [f' x hx]; exact hf x hx) (fun y hy => by rw [o' y hy]; exact h7 y hy) (fun k hk => ?_)
      rw [v' k hk, ← H.2.2.1, Lean.Grind.Semiring.pow_succ, show F * (P * F ^ t) = P * (F ^ t * F) from by grind]) 7 m (by decide) (fun _ _ => rfl) (fun _ _ => rfl) (fun _ _ => rfl) (fun k a b => by omega)
    exact this
/-- the factor at place i, so often -/
theorem c_M_makeTimes [Lean.Grind.CommRing R] {co : R → Nat → Int} {mk : Nat → (Nat → Int) → R} (H : PolyR co mk) {i : Nat} (hi : i < 6) {often : Int} (ho : often ≤ 100) {m : rz_M} {F : R} {d : Nat} (hd : d ≤ 6) (ed : m 226 i = d) (hF : ∀ k : Nat, k ≤ d → m 225 (7 * (i : Int) + k) = co F k) (hFz : ∀ k : Nat, d < k → co F k = 0) {K : Int → rz_M → Prop} {P : R} (hP : ∀ k : Nat, k < 7 → m 223 k = w64 (co P k)) (h : ∀ m' : rz_M, (∀ x, x ≠ 223 → m' x = m x) → (∀ y : Int, 7 ≤ y → m' 223 y = m 223 y) → (∀ k : Nat, k < 7 → m' 223 k = w64 (co (P * F ^ often.toNat) k)) → K 0 m') : rz_C y_M_makeTimes [rR 221, rI i, rI often] m K :=
  T_M_makeTimes_0 _ _ _ _ (l_M_mt2 H hi ho hd ed hF hFz h often.toNat 0 m (by omega) (Or.inr rfl) (fun _ _ => rfl) (fun _ _ => rfl) (fun k hk => by
    rw [hP k hk, Lean.Grind.Semiring.pow_zero, show P * 1 = P from by grind]))
end
