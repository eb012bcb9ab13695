/-! Sturm: changes of sign along a chain, one step -/
def vI (σ : Nat → Int) : Nat → Nat → Int → Int
  | 0, _, _ => 0
  | m + 1, i, b => if σ i = 0 then vI σ m (i + 1) b else (if σ i = -b then 1 else 0) + vI σ m (i + 1) (σ i)
theorem vI_z {σ : Nat → Int} {m i : Nat} {b : Int} (h : σ i = 0) : vI σ (m + 1) i b = vI σ m (i + 1) b := if_pos h
theorem vI_n {σ : Nat → Int} {m i : Nat} {b : Int} (h : σ i ≠ 0) : vI σ (m + 1) i b = (if σ i = -b then 1 else 0) + vI σ m (i + 1) (σ i) := if_neg h
theorem sgn3 (x : Int) : (x.sign = 0 ∧ x = 0) ∨ (x.sign = 1 ∧ 0 < x) ∨ (x.sign = -1 ∧ x < 0) := by
  rcases Int.lt_trichotomy x 0 with h | h | h
  · exact Or.inr (Or.inr ⟨Int.sign_eq_neg_one_of_neg h, h⟩)
  · exact Or.inl ⟨by rw [h]; rfl, h⟩
  · exact Or.inr (Or.inl ⟨Int.sign_eq_one_iff_pos.mpr h, h⟩)
theorem vI_mid {A : Nat → Int} {m i : Nat} {b : Int} (hb : b = 1 ∨ b = -1) (h : (A (i + 1)).sign = -b) : vI (fun j => (A j).sign) (m + 2) i b = 1 + vI (fun j => (A j).sign) m (i + 2) (-b) := by
  have n2 : (A (i + 1)).sign ≠ 0 := by rcases hb with z | z <;> omega
  rcases sgn3 (A i) with ⟨s, _⟩ | ⟨s, _⟩ | ⟨s, _⟩
  · rw [vI_z (by exact s), vI_n (by exact n2), h, if_pos rfl]
  · rw [vI_n (by show (A i).sign ≠ 0; omega), vI_n (by exact n2)]
    show (if (A i).sign = -b then (1 : Int) else 0) + ((if (A (i + 1)).sign = -(A i).sign then 1 else 0) + vI _ m (i + 2) (A (i + 1)).sign) = _
    rw [h, s]
    rcases hb with z | z
    · subst z
      rw [if_neg (by decide), if_pos rfl]
      omega
    · subst z
      rw [if_pos (by decide), if_neg (by decide)]
      omega
  · rw [vI_n (by show (A i).sign ≠ 0; omega), vI_n (by exact n2)]
    show (if (A i).sign = -b then (1 : Int) else 0) + ((if (A (i + 1)).sign = -(A i).sign then 1 else 0) + vI _ m (i + 2) (A (i + 1)).sign) = _
    rw [h, s]
    rcases hb with z | z
    · subst z
      rw [if_pos (by decide), if_neg (by decide)]
      omega
    · subst z
      rw [if_neg (by decide), if_pos (by decide)]
      omega
theorem vI_stab {A B : Nat → Int} {sm : Nat → Prop} {k : Nat} (f1 : ∀ i, i < k → sm i → ¬ sm (i + 1)) (f2 : ∀ i, i ≤ k → ¬ sm i → (A i).sign = (B i).sign ∧ A i ≠ 0) (f3 : ∀ i, 1 ≤ i → i < k → sm i → (A (i - 1)).sign = -(A (i + 1)).sign) (f5 : ¬ sm k) : ∀ (N m i : Nat), m ≤ N → i + m = k → ¬ sm i → vI (fun j => (A j).sign) m (i + 1) (A i).sign = vI (fun j => (B j).sign) m (i + 1) (A i).sign
  | 0, m, i, hN, hi, hs => by
    have e : m = 0 := by omega
    subst e
    rfl
  | N + 1, m, i, hN, hi, hs => by
    cases m with
    | zero => rfl
    | succ m =>
      rcases Classical.em (sm (i + 1)) with q | q
      · have lt : i + 1 < k := by
          rcases Nat.lt_or_ge (i + 1) k with z | z
          · exact z
          · have e : i + 1 = k := by omega
            rw [e] at q
            exact absurd q f5
        obtain ⟨m', rfl⟩ : ∃ m', m = m' + 1 := ⟨m - 1, by omega⟩
        have n2 := f1 (i + 1) lt q
        have s2 := f2 (i + 2) (by omega) n2
        have s0 := f2 i (by omega) hs
        have o := f3 (i + 1) (by omega) lt q
        rw [Nat.add_sub_cancel] at o
        have hb : (A i).sign = 1 ∨ (A i).sign = -1 := by
          rcases sgn3 (A i) with ⟨z, w⟩ | ⟨z, _⟩ | ⟨z, _⟩
          · exact absurd w s0.2
          · exact Or.inl z
          · exact Or.inr z
        have e1 : (A (i + 1 + 1)).sign = -(A i).sign := by omega
        rw [vI_mid (A := A) hb e1, vI_mid (A := B) hb (by rw [← s2.1]; exact e1)]
        have ih := vI_stab f1 f2 f3 f5 N m' (i + 2) (by omega) (by omega) n2
        have e2 : (A (i + 2)).sign = -(A i).sign := e1
        rw [e2] at ih
        rw [ih]
      · have s1 := f2 (i + 1) (by omega) q
        have nz : (A (i + 1)).sign ≠ 0 := by
          rcases sgn3 (A (i + 1)) with ⟨_, w⟩ | ⟨z, _⟩ | ⟨z, _⟩
          · exact absurd w s1.2
          · omega
          · omega
        have ih := vI_stab f1 f2 f3 f5 N m (i + 1) (by omega) (by omega) q
        rw [vI_n (by exact nz), vI_n (by show (B (i + 1)).sign ≠ 0; rw [← s1.1]; exact nz)]
        show (if (A (i + 1)).sign = _ then (1 : Int) else 0) + vI _ m (i + 1 + 1) (A (i + 1)).sign = (if (B (i + 1)).sign = _ then (1 : Int) else 0) + vI _ m (i + 1 + 1) (B (i + 1)).sign
        rw [← s1.1, ih]
/-- the sign to the right of a place -/
def eS (a b : Int) : Int := if a = 0 then b.sign else a.sign
theorem vI_step {A B : Nat → Int} {sm : Nat → Prop} {k : Nat} (k1 : 1 ≤ k) (f1 : ∀ i, i < k → sm i → ¬ sm (i + 1)) (f2 : ∀ i, i ≤ k → ¬ sm i → (A i).sign = (B i).sign ∧ A i ≠ 0) (f3 : ∀ i, 1 ≤ i → i < k → sm i → (A (i - 1)).sign = -(A (i + 1)).sign) (f4 : sm 0 → (B 0 - A 0).sign = (A 1).sign) (f5 : ¬ sm k) : vI (fun j => (A j).sign) (k + 1) 0 0 - vI (fun j => (B j).sign) (k + 1) 0 0 = if eS (A 0) (A 1) = eS (B 0) (B 1) then 0 else 1 := by
  have z0 : ∀ x : Int, x ≠ 0 → (if x = -0 then (1 : Int) else 0) = 0 := fun x hx => if_neg (by omega)
  rcases Classical.em (sm 0) with q | q
  · have n1 := f1 0 (by omega) q
    have s1 := f2 1 k1 n1
    have d := f4 q
    obtain ⟨k', rfl⟩ : ∃ k', k = k' + 1 := ⟨k - 1, by omega⟩
    have W := vI_stab f1 f2 f3 f5 k' k' 1 (Nat.le_refl _) (by omega) n1
    have b1 : (B 1).sign = (A 1).sign := s1.1.symm
    have nz1 : (A 1).sign ≠ 0 := fun w => s1.2 (Int.sign_eq_zero_iff_zero.mp w)
    have val : ∀ C : Nat → Int, (C 1).sign = (A 1).sign → vI (fun j => (C j).sign) k' 2 (A 1).sign = vI (fun j => (A j).sign) k' 2 (A 1).sign → vI (fun j => (C j).sign) (k' + 1 + 1) 0 0 = (if (C 0).sign ≠ 0 ∧ (A 1).sign = -(C 0).sign then 1 else 0) + vI (fun j => (A j).sign) k' 2 (A 1).sign := fun C c1 cw => by
      have nc1 : (C 1).sign ≠ 0 := by rw [c1]; exact nz1
      by_cases z : (C 0).sign = 0
      · rw [vI_z (by exact z), vI_n (by exact nc1), if_neg (show ¬ ((C 0).sign ≠ 0 ∧ _) from fun w => w.1 z)]
        show (if (C 1).sign = -0 then (1 : Int) else 0) + vI (fun j => (C j).sign) k' 2 (C 1).sign = _
        rw [z0 _ nc1, c1, cw]
      · rw [vI_n (by exact z), vI_n (by exact nc1)]
        show (if (C 0).sign = -0 then (1 : Int) else 0) + ((if (C 1).sign = -(C 0).sign then 1 else 0) + vI (fun j => (C j).sign) k' 2 (C 1).sign) = _
        rw [z0 _ z, c1, cw]
        by_cases w : (A 1).sign = -(C 0).sign
        · rw [if_pos w, if_pos ⟨z, w⟩]
          omega
        · rw [if_neg w, if_neg (fun v => w v.2)]
          omega
    rw [val A rfl rfl, val B b1 W.symm]
    unfold eS
    rw [b1]
    have c1 := sgn3 (A 0)
    have c2 := sgn3 (B 0)
    have c3 := sgn3 (A 1)
    have c4 := sgn3 (B 0 - A 0)
    rw [d] at c4
    clear W val b1 d
    generalize hx : A 0 = x at *
    generalize hy : B 0 = y at *
    generalize hz : A 1 = t at *
    generalize hX : x.sign = X at *
    generalize hY : y.sign = Y at *
    generalize hT : t.sign = T at *
    repeat' split
    all_goals omega
  · have s0 := f2 0 (by omega) q
    have b0 : B 0 ≠ 0 := fun w => by
      have := s0.1
      rw [w] at this
      exact s0.2 (Int.sign_eq_zero_iff_zero.mp this)
    have nz : (A 0).sign ≠ 0 := fun w => s0.2 (Int.sign_eq_zero_iff_zero.mp w)
    have W := vI_stab f1 f2 f3 f5 k k 0 (Nat.le_refl _) (by omega) q
    unfold eS
    rw [if_neg s0.2, if_neg b0, if_pos s0.1, vI_n (by exact nz), vI_n (by show (B 0).sign ≠ 0; rw [← s0.1]; exact nz)]
    show (if (A 0).sign = -0 then (1 : Int) else 0) + vI _ k (0 + 1) (A 0).sign - ((if (B 0).sign = -0 then (1 : Int) else 0) + vI _ k (0 + 1) (B 0).sign) = 0
    rw [← s0.1, W]
    omega
/-- how often the sign to the right changes -/
def cnS (e : Int → Int) (lo : Int) : Nat → Int
  | 0 => 0
  | r + 1 => cnS e lo r + if e (lo + r) = e (lo + r + 1) then 0 else 1
theorem cnt_tel {e V : Int → Int} {lo : Int} : ∀ r : Nat, (∀ i : Nat, i < r → V (lo + i) - V (lo + i + 1) = if e (lo + i) = e (lo + i + 1) then 0 else 1) → V lo - V (lo + r) = cnS e lo r
  | 0, _ => by
    show V lo - V (lo + ((0 : Nat) : Int)) = 0
    rw [show lo + ((0 : Nat) : Int) = lo from by omega]
    omega
  | r + 1, h => by
    have ih := cnt_tel r (fun i hi => h i (by omega))
    have h1 := h r (by omega)
    show _ = cnS e lo r + if e (lo + r) = e (lo + r + 1) then 0 else 1
    rw [← h1, ← ih, show lo + ((r + 1 : Nat) : Int) = lo + r + 1 from by omega]
    omega
theorem cnt_add {e f g : Int → Int} {lo : Int} : ∀ r : Nat, (∀ i : Nat, i < r → (if e (lo + i) = e (lo + i + 1) then (0 : Int) else 1) = (if f (lo + i) = f (lo + i + 1) then 0 else 1) + (if g (lo + i) = g (lo + i + 1) then 0 else 1)) → cnS e lo r = cnS f lo r + cnS g lo r
  | 0, _ => rfl
  | r + 1, h => by
    show cnS e lo r + _ = cnS f lo r + _ + (cnS g lo r + _)
    rw [cnt_add r (fun i hi => h i (by omega)), h r (by omega)]
    omega
