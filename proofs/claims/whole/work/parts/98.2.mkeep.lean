/-! the reference: the other factors are kept, how often one of ours is there -/
def elO (m : rz_M) (k : Nat) : E3 := (cutf (fun y => m 234 (7 * (k : Int) + y)), m 235 k, m 236 k)
def otl (m : rz_M) : List E3 := (List.range (m 221 22).toNat).map (elO m)
theorem elO_at {m : rz_M} {k : Nat} {j : Int} (h0 : 0 ≤ j) (h1 : j < 7) : (elO m k).1 j = m 234 (7 * (k : Int) + j) := cutf_in (f := fun y => m 234 (7 * (k : Int) + y)) h0 h1
theorem l_M_ko44 {k : Int} (hk : 0 ≤ k ∧ k < 6) {m0 : rz_M} {K : Int → rz_M → Prop} (h : ∀ m' : rz_M, (∀ i, i ≠ 234 → m' i = m0 i) → (∀ j : Int, 0 ≤ j → j < 7 → m' 234 (7 * k + j) = m0 225 (7 * k + j)) → (∀ y : Int, y < 7 * k → m' 234 y = m0 234 y) → rz_E y_M_keepOther 10 [rR 221, rI (k + 1), rX 0] [] m' K) : ∀ (r : Nat) (j : Int) (m : rz_M), 7 - j = r → 0 ≤ j → (∀ i, i ≠ 234 → m i = m0 i) → (∀ i : Int, 0 ≤ i → i < j → m 234 (7 * k + i) = m0 225 (7 * k + i)) → (∀ y : Int, y < 7 * k → m 234 y = m0 234 y) → rz_E y_M_keepOther 44 [rR 221, rI k, rI j] [] m K
  | 0, j, m, hr, j0, hf, h1, h2 => by
    refine T_M_keepOther_44 _ _ _ _ (bt (by omega) ?_)
    rw [w32_id (by omega) (by omega)]
    exact h m hf (fun i i0 i1 => h1 i i0 (by omega)) h2
  | r + 1, j, m, hr, j0, hf, h1, h2 => by
    refine T_M_keepOther_44 _ _ _ _ (bf (by omega) ?_)
    rw [w32_id (z := 7 * k) (by omega) (by omega), w32_id (z := 7 * k + j) (by omega) (by omega), w32_id (z := j + 1) (by omega) (by omega), hf 225 (by decide)]
    refine ⟨⟨by omega, by omega⟩, ⟨by omega, by omega⟩, l_M_ko44 hk h r (j + 1) _ (by omega) (by omega) (fun i hi => by rw [up_ne hi]; exact hf i hi) (fun i i0 i1 => ?_) (fun y hy => by rw [up_nj (by omega)]; exact h2 y hy)⟩
    by_cases w : i = j
    · rw [w, up_eq]
    · rw [up_nj (by omega)]; exact h1 i i0 (by omega)
theorem l_M_ko10 {c : Int} (hc : 0 ≤ c ∧ c ≤ 6) {m0 : rz_M} (ec : m0 221 9 = c) {K : Int → rz_M → Prop} (h : ∀ m' : rz_M, (∀ i, i ≠ 234 → i ≠ 235 → i ≠ 236 → m' i = m0 i) → (∀ k : Int, 0 ≤ k → k < c → m' 235 k = m0 226 k ∧ m' 236 k = m0 227 k ∧ ∀ j : Int, 0 ≤ j → j < 7 → m' 234 (7 * k + j) = m0 225 (7 * k + j)) → K 0 m') : ∀ (r : Nat) (k : Int) (m : rz_M), c - k = r → 0 ≤ k → (∀ i, i ≠ 234 → i ≠ 235 → i ≠ 236 → m i = m0 i) → (∀ i : Int, 0 ≤ i → i < k → m 235 i = m0 226 i ∧ m 236 i = m0 227 i ∧ ∀ j : Int, 0 ≤ j → j < 7 → m 234 (7 * i + j) = m0 225 (7 * i + j)) → rz_E y_M_keepOther 10 [rR 221, rI k, rX 0] [] m K := by
  intro r
  induction r with
  | zero =>
    intro k m hr k0 hf hv
    refine T_M_keepOther_10 _ _ _ ?_
    rw [hf 221 (by decide) (by decide) (by decide), ec]
    exact bt (by omega) (h m hf (fun i i0 i1 => hv i i0 (by omega)))
  | succ r ih =>
    intro k m hr k0 hf hv
    refine T_M_keepOther_10 _ _ _ ?_
    rw [hf 221 (by decide) (by decide) (by decide), ec, hf 226 (by decide) (by decide) (by decide), hf 227 (by decide) (by decide) (by decide)]
    refine bf (by omega) ⟨⟨k0, by omega⟩, ⟨k0, by omega⟩, ⟨k0, by omega⟩, ⟨k0, by omega⟩, l_M_ko44 ⟨k0, by omega⟩ (fun m' f' v' o' => ih (k + 1) m' (by omega) (by omega) (fun i i1 i2 i3 => by rw [f' i i1, up_ne i3, up_ne i2]; exact hf i i1 i2 i3) (fun i i0 i1 => ?_)) 7 0 _ (by decide) (by decide) (fun _ _ => rfl) (fun i i0 i1 => by omega) (fun _ _ => rfl)⟩
    by_cases w : i = k
    · subst w
      refine ⟨?_, ?_, fun j j0 j1 => ?_⟩
      · rw [f' 235 (by decide), up_ne (by decide), up_eq]
      · rw [f' 236 (by decide), up_eq]
      · rw [v' j j0 j1, up_ne (by decide), up_ne (by decide), hf 225 (by decide) (by decide) (by decide)]
    · obtain ⟨x1, x2, x3⟩ := hv i i0 (by omega)
      refine ⟨?_, ?_, fun j j0 j1 => ?_⟩
      · rw [f' 235 (by decide), up_ne (by decide), up_nj w]; exact x1
      · rw [f' 236 (by decide), up_nj w, up_ne (by decide)]; exact x2
      · rw [o' _ (by omega), up_ne (by decide), up_ne (by decide)]; exact x3 j j0 j1
theorem c_M_keepOther {m : rz_M} (hc : 0 ≤ m 221 9 ∧ m 221 9 ≤ 6) {K : Int → rz_M → Prop} (h : ∀ m' : rz_M, (∀ i, i ≠ 221 → i ≠ 234 → i ≠ 235 → i ≠ 236 → m' i = m i) → (∀ y : Int, y ≠ 22 → m' 221 y = m 221 y) → m' 221 22 = m 221 9 → otl m' = mtl m → K 0 m') : rz_C y_M_keepOther [rR 221] m K := by
  refine T_M_keepOther_0 _ _ (l_M_ko10 (c := m 221 9) hc (m0 := rz_up m 221 22 (m 221 9)) (up_nj (by decide)) (fun m' f' v' => ?_) (m 221 9).toNat 0 _ (by omega) (by decide) (fun _ _ _ _ => rfl) (fun i i0 i1 => by omega))
  have e22 : m' 221 22 = m 221 9 := by rw [f' 221 (by decide) (by decide) (by decide), up_eq]
  refine h m' (fun i a b c d => by rw [f' i b c d, up_ne a]) (fun y hy => by rw [f' 221 (by decide) (by decide) (by decide), up_nj hy]) e22 ?_
  unfold otl mtl
  rw [e22]
  refine List.map_congr_left (fun k hk => ?_)
  have kc := List.mem_range.mp hk
  obtain ⟨x1, x2, x3⟩ := v' k (by omega) (by omega)
  rw [up_ne (by decide)] at x1 x2
  unfold elO elM
  rw [x1, x2]
  congr 1
  exact canon_ext (cutf_canon _) (cutf_canon _) (fun y y0 y1 => by
    rw [cutf_in y0 y1, cutf_in y0 y1]
    have := x3 y y0 y1
    rwa [up_ne (by decide)] at this)
