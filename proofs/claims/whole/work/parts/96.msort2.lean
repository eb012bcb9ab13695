/-! the reference: the factors are sorted, what is left is taken -/
theorem swx_lt {c i k x : Nat} (hi : i < c) (hk : k < c) (hx : x < c) : swx i k x < c := by
  unfold swx
  split
  · exact hk
  · split
    · exact hi
    · exact hx
theorem swx_ne {i k a b : Nat} (h : a ≠ b) : swx i k a ≠ swx i k b := by
  unfold swx
  by_cases a1 : a = i
  · rw [if_pos a1, if_neg (by omega)]
    by_cases b2 : b = k
    · rw [if_pos b2]; omega
    · rw [if_neg b2]; omega
  · rw [if_neg a1]
    by_cases a2 : a = k
    · rw [if_pos a2]
      by_cases b1 : b = i
      · rw [if_pos b1]; omega
      · rw [if_neg b1, if_neg (by omega)]; omega
    · rw [if_neg a2]
      by_cases b1 : b = i
      · rw [if_pos b1]; omega
      · rw [if_neg b1]
        by_cases b2 : b = k
        · rw [if_pos b2]; omega
        · rw [if_neg b2]; exact h
def sS (m0 m : rz_M) (c : Nat) : Prop := (∀ x, x ≠ 225 → x ≠ 226 → x ≠ 227 → m x = m0 x) ∧ ((List.range c).map (elM m)).Perm ((List.range c).map (elM m0)) ∧ ∀ a b : Nat, a < c → b < c → a ≠ b → (elM m a).1 ≠ (elM m b).1
theorem l_M_so14 {m0 : rz_M} {c : Nat} (ec : m0 221 9 = c) (hc6 : c ≤ 6) {K : Int → rz_M → Prop} {i : Nat} (hi : i < c) (h : ∀ m' : rz_M, sS m0 m' c → (∀ a b : Nat, a < i + 1 → a < b → b < c → bef (elM m' a) (elM m' b)) → rz_E y_M_sortFactors 2 [rR 221, rI ((i + 1 : Nat) : Int), rX 0] [] m' K) : ∀ (r k : Nat) (m : rz_M), c - k = r → i < k → k ≤ c → sS m0 m c → (∀ a b : Nat, a < i → a < b → b < c → bef (elM m a) (elM m b)) → (∀ b : Nat, i < b → b < k → bef (elM m i) (elM m b)) → rz_E y_M_sortFactors 14 [rR 221, rI i, rI k] [] m K := by
  intro r
  induction r with
  | zero =>
    intro k m hr hik hkc hS h1 h2
    have ek : k = c := by omega
    subst ek
    refine T_M_sortFactors_14 _ _ _ _ ?_
    rw [hS.1 221 (by decide) (by decide) (by decide), ec, w32_id (by omega) (by omega), show (i : Int) + 1 = ((i + 1 : Nat) : Int) from by omega]
    refine bt (by omega) (h m hS (fun a b a0 a1 a2 => ?_))
    by_cases w : a = i
    · rw [w]; exact h2 b (by omega) a2
    · exact h1 a b (by omega) a1 a2
  | succ r ih =>
    intro k m hr hik hkc hS h1 h2
    obtain ⟨S1, S2, S3⟩ := hS
    refine T_M_sortFactors_14 _ _ _ _ ?_
    have wk : w32 ((k : Int) + 1) = ((k + 1 : Nat) : Int) := by rw [w32_id (by omega) (by omega)]; omega
    rw [S1 221 (by decide) (by decide) (by decide), ec, wk]
    refine bf (by omega) (c_M_isAhead (by omega) (by omega) (fun q => b1t (c_M_exchange hik (by omega) (fun m' f' e' => ?_))) (fun q => b0t ?_))
    · have ne : ∀ x : Nat, x ≠ i → x ≠ k → x < c → elM m' x = elM m x := fun x x1 x2 x3 => by
        rw [e' x (by omega)]
        unfold swx
        rw [if_neg x1, if_neg x2]
      have ei : elM m' i = elM m k := by rw [e' i (by omega)]; unfold swx; rw [if_pos rfl]
      have ekk : elM m' k = elM m i := by rw [e' k (by omega)]; unfold swx; rw [if_neg (by omega), if_pos rfl]
      show rz_E y_M_sortFactors 14 [rR 221, rI (i : Int), rI ((k + 1 : Nat) : Int)] [] m' K
      refine ih (k + 1) m' (by omega) (by omega) (by omega) ⟨fun x x1 x2 x3 => by rw [f' x x1 x2 x3]; exact S1 x x1 x2 x3, ?_, fun a b a0 b0 ab => ?_⟩ (fun a b a0 a1 a2 => ?_) (fun b b0 b1 => ?_)
      · have e2 : (List.range c).map (elM m') = (List.range c).map (fun x => elM m (swx i k x)) := List.map_congr_left (fun x hx => e' x (by have := List.mem_range.mp hx; omega))
        rw [e2]
        exact (swx_perm hc6 (by omega) hik (elM m)).trans S2
      · rw [e' a (by omega), e' b (by omega)]
        exact S3 _ _ (swx_lt hi (by omega) a0) (swx_lt hi (by omega) b0) (swx_ne ab)
      · rw [ne a (by omega) (by omega) (by omega), e' b (by omega)]
        refine h1 a _ a0 ?_ (swx_lt hi (by omega) a2)
        unfold swx
        split
        · omega
        · split
          · omega
          · omega
      · rw [ei]
        by_cases w : b = k
        · rw [w, ekk]; exact q
        · rw [ne b (by omega) w (by omega)]
          exact bef_tr q (h2 b b0 (by omega))
    · show rz_E y_M_sortFactors 14 [rR 221, rI (i : Int), rI ((k + 1 : Nat) : Int)] [] m K
      refine ih (k + 1) m (by omega) (by omega) (by omega) ⟨S1, S2, S3⟩ h1 (fun b b0 b1 => ?_)
      by_cases w : b = k
      · rw [w]
        rcases bef_to (x := elM m i) (y := elM m k) (cutf_canon _) (cutf_canon _) (S3 i k hi (by omega) (by omega)) with z | z
        · exact z
        · exact absurd z q
      · exact h2 b b0 (by omega)
theorem l_M_so2 {m0 : rz_M} {c : Nat} (ec : m0 221 9 = c) (hc6 : c ≤ 6) {K : Int → rz_M → Prop} (h : ∀ m' : rz_M, sS m0 m' c → (∀ a b : Nat, a < b → b < c → bef (elM m' a) (elM m' b)) → K 0 m') : ∀ (r i : Nat) (m : rz_M), c - i = r → i ≤ c → sS m0 m c → (∀ a b : Nat, a < i → a < b → b < c → bef (elM m a) (elM m b)) → rz_E y_M_sortFactors 2 [rR 221, rI i, rX 0] [] m K := by
  intro r
  induction r with
  | zero =>
    intro i m hr hi hS h1
    refine T_M_sortFactors_2 _ _ _ ?_
    rw [hS.1 221 (by decide) (by decide) (by decide), ec]
    exact bt (by omega) (h m hS (fun a b a1 a2 => h1 a b (by omega) a1 a2))
  | succ r ih =>
    intro i m hr hi hS h1
    refine T_M_sortFactors_2 _ _ _ ?_
    rw [hS.1 221 (by decide) (by decide) (by decide), ec, w32_id (by omega) (by omega), show (i : Int) + 1 = ((i + 1 : Nat) : Int) from by omega]
    exact bf (by omega) (l_M_so14 ec hc6 (by omega) (fun m' hS' h1' => ih (i + 1) m' (by omega) (by omega) hS' h1') (c - (i + 1)) (i + 1) m rfl (by omega) (by omega) hS h1 (fun b b0 b1 => by omega))
theorem c_M_sortFactors {m0 : rz_M} {c : Nat} (ec : m0 221 9 = c) (hc6 : c ≤ 6) (dis : ∀ a b : Nat, a < c → b < c → a ≠ b → (elM m0 a).1 ≠ (elM m0 b).1) {K : Int → rz_M → Prop} (h : ∀ m' : rz_M, (∀ x, x ≠ 225 → x ≠ 226 → x ≠ 227 → m' x = m0 x) → (mtl m').Perm (mtl m0) → (mtl m').Pairwise bef → K 0 m') : rz_C y_M_sortFactors [rR 221] m0 K := by
  refine T_M_sortFactors_0 _ _ (l_M_so2 ec hc6 (fun m' hS hb => h m' hS.1 ?_ ?_) c 0 m0 rfl (Nat.zero_le _) ⟨fun _ _ _ _ => rfl, List.Perm.refl _, dis⟩ (fun a b a0 => by omega))
  · unfold mtl
    rw [hS.1 221 (by decide) (by decide) (by decide), ec, Int.toNat_natCast]
    exact hS.2.1
  · unfold mtl
    rw [hS.1 221 (by decide) (by decide) (by decide), ec, Int.toNat_natCast]
    exact pw_range hb
section
variable {R : Type}
theorem l_M_tl9 {m0 : rz_M} {K : Int → rz_M → Prop} (h : ∀ m' : rz_M, (∀ i, i ≠ 228 → m' i = m0 i) → (∀ y : Int, 0 ≤ y → y < 7 → m' 228 y = m0 224 y) → rz_C y_M_takesOut [rR 221, rI (m0 221 5)] m' (fun _ m2 => K 0 m2)) : ∀ (r : Nat) (k : Int) (m : rz_M), 7 - k = r → 0 ≤ k → (∀ i, i ≠ 228 → m i = m0 i) → (∀ y : Int, 0 ≤ y → y < k → m 228 y = m0 224 y) → rz_E y_M_takeLeft 9 [rR 221, rI k] [] m K
  | 0, k, m, hr, k0, hf, hv => by
    refine T_M_takeLeft_9 _ _ _ (bt (by omega) ?_)
    rw [hf 221 (by decide)]
    exact h m hf (fun y y0 y1 => hv y y0 (by omega))
  | r + 1, k, m, hr, k0, hf, hv => by
    refine T_M_takeLeft_9 _ _ _ (bf (by omega) ⟨⟨k0, by omega⟩, ⟨k0, by omega⟩, ?_⟩)
    rw [w32_id (by omega) (by omega), hf 224 (by decide)]
    refine l_M_tl9 h r (k + 1) _ (by omega) (by omega) (fun i hi => by rw [up_ne hi]; exact hf i hi) (fun y y0 y1 => ?_)
    by_cases w : y = k
    · rw [w, up_eq]
    · rw [up_nj w]; exact hv y y0 (by omega)
theorem c_M_takeLeft [Lean.Grind.CommRing R] {co : R → Nat → Int} {mk : Nat → (Nat → Int) → R} (H : PolyR co mk) {m0 m : rz_M} {A : R} {n : Int} (hI : mI co mk m0 m A n) (nl : nolin mk (pR mk 7 (m 224))) (h4 : 4 ≤ n → nof co 2 (pR mk 7 (m 224))) (h6 : n = 6 → nof co 3 (pR mk 7 (m 224))) {K : Int → rz_M → Prop} (h : ∀ m' : rz_M, mI co mk m0 m' A 0 → K 0 m') : rz_C y_M_takeLeft [rR 221] m K := by
  have hc := hI.2.2.2.1
  have n06 := hc.1
  have em : m 221 5 = n := hI.2.2.1
  refine T_M_takeLeft_0 _ _ ?_
  rw [em]
  refine bb (fun q => h m ?_) (fun q => l_M_tl9 (m0 := m) (fun m1 f1 v1 => ?_) 7 0 m (by decide) (by decide) (fun _ _ => rfl) (fun y y0 y1 => by omega))
  · have : n = 0 := by omega
    rw [← this]
    exact hI
  · rw [em]
    have e4 := f1 224 (by decide)
    have tb := tbn_le n
    have e0 : ev7 (m 224) 0 = m 224 0 := by unfold ev7; omega
    have c00 : m 224 0 ≠ 0 := by have := nl_ev H nl 0; rwa [e0] at this
    refine c_M_takesOut H (mI_228 hI (fun i i1 _ _ => f1 i i1)) (g := m 224) (G := tbn n) (fun y y0 y1 => v1 y y0 (by omega)) (by rw [e4]; exact ⟨⟨by omega, n06.2⟩, hc.2.1, hc.2.2.1, Or.inr nl, Or.inl c00⟩) ⟨by omega, by omega⟩ (fun y y0 y1 => hc.2.2.2.1 y y0 (by omega)) (fun nn a b => ?_) (fun _ => irz_end H hc (by omega) nl h4 h6) (fun r m' n' I' _ zr nz _ rr => ?_)
    · have : nn = n := by omega
      rw [this, show (n - n + 1).toNat = 1 from by omega, Int.pow_succ, Int.pow_zero, Int.one_mul]
      have := Int.mul_le_mul (show tbn n ≤ 96000 by omega) (show 1 + tbn n ≤ 96001 by omega) (by omega) (by decide)
      omega
    · rw [e4] at rr
      rcases rr with ⟨q1, q2, q3⟩ | ⟨q1, q2⟩
      · exact absurd (by rw [q3]; exact zd_rf _) nz
      · have := I'.2.2.2.1.1
        have e : n' = 0 := by omega
        rw [e] at I'
        exact h m' I'
end
