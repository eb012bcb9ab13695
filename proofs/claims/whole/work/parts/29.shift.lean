/-! wrapping numbers; both sides alike: shift -/
theorem w64_q (x : Int) : ∃ q : Int, w64 x = x + 18446744073709551616 * q := ⟨-(Int.bdiv x 18446744073709551616), by
  have := Int.bdiv_add_bmod x 18446744073709551616
  unfold w64
  omega⟩
theorem w64_k (x q : Int) : w64 (x + 18446744073709551616 * q) = w64 x := by
  unfold w64
  exact Int.add_mul_bmod_self_left x 18446744073709551616 q
theorem w64_addl (x y : Int) : w64 (w64 x + y) = w64 (x + y) := by
  obtain ⟨q, e⟩ := w64_q x
  rw [e, show x + 18446744073709551616 * q + y = (x + y) + 18446744073709551616 * q from by omega, w64_k]
theorem w64_addr (x y : Int) : w64 (x + w64 y) = w64 (x + y) := by rw [Int.add_comm, w64_addl, Int.add_comm]
theorem w64_mull (x y : Int) : w64 (w64 x * y) = w64 (x * y) := by
  obtain ⟨q, e⟩ := w64_q x
  rw [e, Int.add_mul, Int.mul_assoc, w64_k]
theorem w64_mulr (x y : Int) : w64 (x * w64 y) = w64 (x * y) := by rw [Int.mul_comm, w64_mull, Int.mul_comm]
theorem w64_neg (x : Int) : w64 (-(w64 x)) = w64 (-x) := by
  obtain ⟨q, e⟩ := w64_q x
  rw [e, show -(x + 18446744073709551616 * q) = -x + 18446744073709551616 * (-q) from by omega, w64_k]
theorem w64_subl (x y : Int) : w64 (w64 x - y) = w64 (x - y) := by
  rw [Int.sub_eq_add_neg, w64_addl, ← Int.sub_eq_add_neg]
theorem w64_subr (x y : Int) : w64 (x - w64 y) = w64 (x - y) := by
  rw [Int.sub_eq_add_neg, ← w64_addr, w64_neg, w64_addr, ← Int.sub_eq_add_neg]
theorem w64_w64 (x : Int) : w64 (w64 x) = w64 x := by
  have := w64_addl x 0
  rwa [Int.add_zero, Int.add_zero] at this
/-- the class's way: made j += a times made j + 1 -/
def inC (a : Int) : Nat → (Int → Int) → (Int → Int)
  | 0, g => g
  | n + 1, g => upf (inC a n g) (5 - n) (w64 (inC a n g (5 - n) + w64 (a * inC a n g (5 - n + 1))))
def ouC (a : Int) : Nat → (Int → Int) → (Int → Int)
  | 0, g => g
  | l + 1, g => inC a (6 - l) (ouC a l g)
def inE (a : Int) : Nat → (Int → Int) → (Int → Int)
  | 0, g => g
  | n + 1, g => upf (inE a n g) (5 - n) (inE a n g (5 - n) + a * inE a n g (5 - n + 1))
def ouE (a : Int) : Nat → (Int → Int) → (Int → Int)
  | 0, g => g
  | l + 1, g => inE a (6 - l) (ouE a l g)
theorem upf_w {g h : Int → Int} (e : ∀ y, g y = w64 (h y)) {k v u : Int} (hv : v = w64 u) (y : Int) : upf g k v y = w64 (upf h k u y) := by
  unfold upf
  split
  · exact hv
  · exact e y
theorem inC_E (a : Int) : ∀ (n : Nat) (g h : Int → Int), (∀ y, g y = w64 (h y)) → ∀ y, inC a n g y = w64 (inE a n h y)
  | 0, _, _, e => e
  | n + 1, g, h, e => by
    have ih := inC_E a n g h e
    refine upf_w ih ?_
    rw [ih, ih, w64_mulr, w64_addr, w64_addl]
theorem ouC_E (a : Int) : ∀ (l : Nat) (g h : Int → Int), (∀ y, g y = w64 (h y)) → ∀ y, ouC a l g y = w64 (ouE a l h y)
  | 0, _, _, e => e
  | l + 1, g, h, e => inC_E a (6 - l) _ _ (ouC_E a l g h e)
/-- the reference's way: Horner -/
def inM (a : Int) : Nat → (Int → Int) → (Int → Int)
  | 0, g => g
  | n + 1, g => upf (inM a n g) (6 - n) (w64 (w64 (inM a n g (6 - n) * a) + (if (6 : Int) - n ≤ 0 then 0 else inM a n g (6 - n - 1))))
def ouM (a : Int) (c : Int → Int) : Nat → (Int → Int) → (Int → Int)
  | 0, g => g
  | l + 1, g => upf (inM a 7 (ouM a c l g)) 0 (w64 (inM a 7 (ouM a c l g) 0 + c (6 - l)))
def inF (a : Int) : Nat → (Int → Int) → (Int → Int)
  | 0, g => g
  | n + 1, g => upf (inF a n g) (6 - n) (inF a n g (6 - n) * a + (if (6 : Int) - n ≤ 0 then 0 else inF a n g (6 - n - 1)))
def ouF (a : Int) (c : Int → Int) : Nat → (Int → Int) → (Int → Int)
  | 0, g => g
  | l + 1, g => upf (inF a 7 (ouF a c l g)) 0 (inF a 7 (ouF a c l g) 0 + c (6 - l))
theorem inM_F (a : Int) : ∀ (n : Nat) (g h : Int → Int), (∀ y, g y = w64 (h y)) → ∀ y, inM a n g y = w64 (inF a n h y)
  | 0, _, _, e => e
  | n + 1, g, h, e => by
    have ih := inM_F a n g h e
    refine upf_w ih ?_
    rw [ih, ih, w64_mull, w64_addl]
    split
    · rfl
    · rw [w64_addr]
theorem ouM_F (a : Int) (c : Int → Int) : ∀ (l : Nat) (g h : Int → Int), (∀ y, g y = w64 (h y)) → ∀ y, ouM a c l g y = w64 (ouF a c l h y)
  | 0, _, _, e => e
  | l + 1, g, h, e => by
    have ih := inM_F a 7 _ _ (ouM_F a c l g h e)
    refine upf_w ih ?_
    rw [ih, w64_addl]
/-- one row of Horner, place by place -/
theorem inF_at (a : Int) (g : Int → Int) (y : Int) (h0 : 0 ≤ y) (h6 : y ≤ 6) : inF a 7 g y = g y * a + (if y = 0 then 0 else g (y - 1)) := by
  have h : y = 0 ∨ y = 1 ∨ y = 2 ∨ y = 3 ∨ y = 4 ∨ y = 5 ∨ y = 6 := by omega
  rcases h with rfl | rfl | rfl | rfl | rfl | rfl | rfl <;> simp [inF, upf]
theorem shift_eq (a : Int) (c : Int → Int) (y : Int) (h0 : 0 ≤ y) (h6 : y ≤ 6) : ouE a 6 c y = ouF a c 7 (fun _ => 0) y := by
  have hF : ∀ (l : Nat) (y : Int), 0 ≤ y → y ≤ 6 → ouF a c (l + 1) (fun _ => 0) y = ouF a c l (fun _ => 0) y * a + (if y = 0 then c (6 - l) else ouF a c l (fun _ => 0) (y - 1)) := by
    intro l y h0 h6
    show upf _ 0 _ y = _
    unfold upf
    by_cases e : y = 0
    · rw [if_pos e, inF_at _ _ _ (by decide) (by decide), if_pos rfl, if_pos e, e, Int.add_zero]
    · rw [if_neg e, inF_at _ _ _ h0 h6, if_neg e, if_neg e]
  have h : y = 0 ∨ y = 1 ∨ y = 2 ∨ y = 3 ∨ y = 4 ∨ y = 5 ∨ y = 6 := by omega
  rcases h with rfl | rfl | rfl | rfl | rfl | rfl | rfl
  all_goals simp [hF, ouE, inE, upf]
  all_goals simp [ouF]
  all_goals grind
