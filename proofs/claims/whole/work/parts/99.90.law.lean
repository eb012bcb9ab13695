/-! the law: from the ends of the constructors on -/
theorem lp {y1 y2 : Nat} {as : List rz_V} {m : rz_M} {K : Int → rz_M → Prop} (h : pairOK y1 y2 as m) (hk : ∀ r m1, m1 400 = m 400 → rz_C y2 (rR 221 :: as) m1 (fun r2 m2 => r = r2 ∧ Inv m2 ∧ m2 400 = m 400) → K r m1) : rz_C y1 (rR 0 :: as) m K := rz_C_fr h hk
theorem law_go {n : Int} {s : Int → Int} (hn0 : 0 ≤ n) (hn1 : n ≤ 2147483647) (hs0 : s (-1) = n) (hs1 : ∀ i : Int, 0 ≤ i → i < n → R32 (s i)) {Q : Int → rz_M → Prop} (hQ : ∀ m, Q 1 m) : ∀ (d : Nat) (v : Int) (m : rz_M), n - v < d → 0 ≤ v → v ≤ n → Inv m → m 400 = s → rz_E y_L_law 18 [rR 400, rR 0, rR 221, rI v] [] m Q
  | 0, v, m, hd, hv, hvn, hI, hm => absurd hd (by omega)
  | d + 1, v, m, hd, hv, hvn, hI, hm => by
    have hn : m 400 (-1) = n := by rw [hm]; exact hs0
    have hs : ∀ i : Int, 0 ≤ i → i < n → R32 (m 400 i) := by rw [hm]; exact hs1
    have hw9 : w32 (m 400 (-1) - 9) = m 400 (-1) - 9 := w32_id (by omega) (by omega)
    refine T_L_law_18 _ _ _ (bb (fun _ => hQ m) (fun hlt => ?_))
    rw [hw9] at hlt
    have next : ∀ m2 : rz_M, Inv m2 → m2 400 = m 400 → rz_E y_L_law 1011 [rR 400, rR 0, rR 221, rI v] [] m2 Q := fun m2 i e => by
      refine T_L_law_1011 _ _ _ ?_
      rw [w32_id (by omega) (by omega)]
      exact law_go hn0 hn1 hs0 hs1 hQ d (v + 9) m2 (by omega) (by omega) (by omega) i (e.trans hm)
    have fin : ∀ {y2 : Nat} {as : List rz_V} {m1 : rz_M} {r : Int} {X : rz_M → Prop}, rz_C y2 as m1 (fun r2 m2 => r = r2 ∧ Inv m2 ∧ m2 400 = m 400) → rz_C y2 as m1 (fun r2 m2 => (r = r2 → rz_E y_L_law 1011 [rR 400, rR 0, rR 221, rI v] [] m2 Q) ∧ (¬ r = r2 → X m2)) := fun c => rz_C_cs c (fun r2 m2 h => ⟨fun _ => next m2 h.2.1 h.2.2, fun ne => absurd h.1 ne⟩)
    have i1 : rz_in (v + 1) (m 400 (-1)) := ⟨by omega, by omega⟩
    have e1 : w32 (v + 1) = v + 1 := w32_id (by omega) (by omega)
    have i2 : rz_in (v + 2) (m 400 (-1)) := ⟨by omega, by omega⟩
    have e2 : w32 (v + 2) = v + 2 := w32_id (by omega) (by omega)
    have i3 : rz_in (v + 3) (m 400 (-1)) := ⟨by omega, by omega⟩
    have e3 : w32 (v + 3) = v + 3 := w32_id (by omega) (by omega)
    have i4 : rz_in (v + 4) (m 400 (-1)) := ⟨by omega, by omega⟩
    have e4 : w32 (v + 4) = v + 4 := w32_id (by omega) (by omega)
    have i5 : rz_in (v + 5) (m 400 (-1)) := ⟨by omega, by omega⟩
    have e5 : w32 (v + 5) = v + 5 := w32_id (by omega) (by omega)
    have i6 : rz_in (v + 6) (m 400 (-1)) := ⟨by omega, by omega⟩
    have e6 : w32 (v + 6) = v + 6 := w32_id (by omega) (by omega)
    have i7 : rz_in (v + 7) (m 400 (-1)) := ⟨by omega, by omega⟩
    have e7 : w32 (v + 7) = v + 7 := w32_id (by omega) (by omega)
    have i8 : rz_in (v + 8) (m 400 (-1)) := ⟨by omega, by omega⟩
    have e8 : w32 (v + 8) = v + 8 := w32_id (by omega) (by omega)
    simp only [e1, e2, e3, e4, e5, e6, e7, e8]
    refine ⟨⟨hv, by omega⟩, fun _ => next m hI rfl, fun _ => ?_, fun _ => ?_, fun _ => ?_, fun _ => ?_, fun _ => ?_, fun _ => ?_, fun _ => ?_, fun _ => ?_, fun _ => ?_, fun _ => ?_, fun _ => ?_, fun _ => ?_, fun _ => ?_, fun _ => ?_, fun _ => ?_, fun _ => ?_, fun _ => ?_, fun _ => ?_, fun _ => ?_, fun _ => ?_, fun _ => ?_, fun _ => ?_, fun _ => ?_, trivial⟩
    · exact ⟨i1, i2, i3, i4, i5, i6, i7, i8, lp (p_told _ _ _ _ _ _ _ _ m hI) (fun r m1 e c => by
        simp only [e]
        exact ⟨i1, i2, i3, i4, i5, i6, i7, i8, fin c⟩)⟩
    · exact ⟨i1, i2, lp (p_number _ _ m hI (hs _ (by omega) (by omega))) (fun r m1 e c => by
        simp only [e]
        exact ⟨i1, i2, fin c⟩)⟩
    · exact ⟨i1, lp (p_degree _ m hI) (fun r m1 e c => by
        simp only [e]
        exact ⟨i1, fin c⟩)⟩
    · exact ⟨i1, i2, lp (p_at _ _ m hI) (fun r m1 e c => by
        simp only [e]
        exact ⟨i1, i2, fin c⟩)⟩
    · exact ⟨i1, i2, i3, lp (p_times _ _ _ m hI) (fun r m1 e c => by
        simp only [e]
        exact ⟨i1, i2, i3, fin c⟩)⟩
    · exact ⟨i1, i2, i3, lp (p_plus _ _ _ m hI) (fun r m1 e c => by
        simp only [e]
        exact ⟨i1, i2, i3, fin c⟩)⟩
    · exact ⟨i1, i2, lp (p_derive _ _ m hI) (fun r m1 e c => by
        simp only [e]
        exact ⟨i1, i2, fin c⟩)⟩
    · exact ⟨i1, i2, i3, lp (p_shift _ _ _ m hI) (fun r m1 e c => by
        simp only [e]
        exact ⟨i1, i2, i3, fin c⟩)⟩
    · exact ⟨i1, i2, lp (p_turn _ _ m hI) (fun r m1 e c => by
        simp only [e]
        exact ⟨i1, i2, fin c⟩)⟩
    · exact ⟨i1, i2, i3, lp (p_common _ _ _ m hI ) (fun r m1 e c => by
        simp only [e]
        exact ⟨i1, i2, i3, fin c⟩)⟩
    · exact ⟨i1, i2, i3, lp (p_sums _ _ _ m hI ) (fun r m1 e c => by
        simp only [e]
        exact ⟨i1, i2, i3, fin c⟩)⟩
    · exact ⟨i1, lp (p_factors _ m hI ) (fun r m1 e c => by
        simp only [e]
        exact ⟨i1, fin c⟩)⟩
    · exact ⟨i1, i2, lp (p_factor _ _ m hI (hs _ (by omega) (by omega)) (hs _ (by omega) (by omega))) (fun r m1 e c => by
        simp only [e]
        exact ⟨i1, i2, fin c⟩)⟩
    · exact ⟨i1, i2, lp (p_type _ _ m hI (hs _ (by omega) (by omega))) (fun r m1 e c => by
        simp only [e]
        exact ⟨i1, i2, fin c⟩)⟩
    · exact ⟨i1, i2, i3, lp (p_tally _ _ _ m hI (hs _ (by omega) (by omega))) (fun r m1 e c => by
        simp only [e]
        exact ⟨i1, i2, i3, fin c⟩)⟩
    · exact ⟨i1, i2, lp (p_group _ _ m hI ) (fun r m1 e c => by
        simp only [e]
        exact ⟨i1, i2, fin c⟩)⟩
    · exact ⟨i1, i2, lp (p_changes _ _ m hI ) (fun r m1 e c => by
        simp only [e]
        exact ⟨i1, i2, fin c⟩)⟩
    · exact ⟨i1, lp (p_discriminant _ m hI) (fun r m1 e c => by
        simp only [e]
        exact ⟨i1, fin c⟩)⟩
    · exact ⟨i1, i2, i3, lp (p_count _ _ _ m hI ) (fun r m1 e c => by
        simp only [e]
        exact ⟨i1, i2, i3, fin c⟩)⟩
    · exact ⟨i1, lp (p_reals _ m hI ) (fun r m1 e c => by
        simp only [e]
        exact ⟨i1, fin c⟩)⟩
    · exact ⟨i1, i2, i3, lp (p_power _ _ _ m hI) (fun r m1 e c => by
        simp only [e]
        exact ⟨i1, i2, i3, fin c⟩)⟩
    · exact ⟨i1, i2, i3, i4, lp (p_pairs _ _ _ _ m hI (hs _ (by omega) (by omega))) (fun r m1 e c => by
        simp only [e]
        exact ⟨i1, i2, i3, i4, fin c⟩)⟩
    · exact lp (p_status m hI) (fun r m1 e c => fin c)
theorem law_ok {m : rz_M} (hI : Inv m) (h0 : 0 ≤ m 400 (-1)) (h1 : m 400 (-1) ≤ 2147483647) (h2 : ∀ i : Int, 0 ≤ i → i < m 400 (-1) → R32 (m 400 i)) : rz_E y_L_law 16 [rR 400, rR 0, rR 221, rX 0] [] m (fun z _ => z = 1) :=
  T_L_law_16 _ _ (law_go h0 h1 rfl h2 (fun _ => rfl) ((m 400 (-1)).toNat + 1) 0 m (by omega) (by decide) h0 hI rfl)
/-- the memory behind the constructors: all nought but the reference's sign that nothing is kept, the prime that PrimeView starts with, and the splitter's first parts, that lie outside the world (300); s: the script -/
def mem0 (s : Int → Int) : rz_M := fun x y => if x = 400 then s y else if x = 221 ∧ y = 17 then -1 else if x = 55 ∧ y = 9 then 300 else if x = 47 ∧ y = 7 then 2 else 0
theorem mem0_z (s : Int → Int) {x : Nat} (y : Int) (h1 : x ≠ 400) (h2 : x ≠ 221 ∨ y ≠ 17) (h3 : x ≠ 55 := by omega) (h4 : x ≠ 47 := by omega) : mem0 s x y = 0 := by
  unfold mem0
  rw [if_neg h1, if_neg (by omega), if_neg (by omega), if_neg (by omega)]
theorem Inv_mem0 (s : Int → Int) : Inv (mem0 s) := by
  refine ⟨fun r h0 h1 => ?_, ?_, Or.inl ⟨?_, ?_, ?_⟩⟩
  · have hr : rz_R 1 r = 2 + r.toNat := rfl
    have z : ∀ j : Int, mem0 s (rz_R 1 r) j = 0 := fun j => mem0_z s j (by omega) (Or.inl (by omega))
    refine ⟨fun j a b => ?_, fun j a b => ?_⟩
    · rw [z]
      exact ⟨by decide, by decide⟩
    · rw [z, mem0_z s _ (by decide) (Or.inl (by decide))]
  · rw [mem0_z s _ (by decide) (Or.inl (by decide)), mem0_z s _ (by decide) (Or.inr (by decide))]
  · rfl
  · rfl
  · rfl
theorem law_mem0 {s : Int → Int} (h0 : 0 ≤ s (-1)) (h1 : s (-1) ≤ 2147483647) (h2 : ∀ i : Int, 0 ≤ i → i < s (-1) → R32 (s i)) : rz_E y_L_law 16 [rR 400, rR 0, rR 221, rX 0] [] (mem0 s) (fun z _ => z = 1) :=
  law_ok (Inv_mem0 s) h0 h1 h2
