/-! the same, the law -/
theorem rz_chunk {P : Nat → Prop} (a n : Nat) (h : ∀ k, k < n → P (a + k)) : ∀ pc, a ≤ pc → pc < a + n → P pc := fun pc h1 h2 => by
  have := h (pc - a) (by omega)
  rwa [show a + (pc - a) = pc by omega] at this
set_option maxRecDepth 100000 in
theorem dk_law_0 : ∀ pc, 0 ≤ pc → pc < 0 + 102 → rz_ok1 code pc (pr_L_law pc) = true := rz_chunk 0 102 (by decide +kernel)
set_option maxRecDepth 100000 in
theorem dk_law_102 : ∀ pc, 102 ≤ pc → pc < 102 + 102 → rz_ok1 code pc (pr_L_law pc) = true := rz_chunk 102 102 (by decide +kernel)
set_option maxRecDepth 100000 in
theorem dk_law_204 : ∀ pc, 204 ≤ pc → pc < 204 + 102 → rz_ok1 code pc (pr_L_law pc) = true := rz_chunk 204 102 (by decide +kernel)
set_option maxRecDepth 100000 in
theorem dk_law_306 : ∀ pc, 306 ≤ pc → pc < 306 + 102 → rz_ok1 code pc (pr_L_law pc) = true := rz_chunk 306 102 (by decide +kernel)
set_option maxRecDepth 100000 in
theorem dk_law_408 : ∀ pc, 408 ≤ pc → pc < 408 + 102 → rz_ok1 code pc (pr_L_law pc) = true := rz_chunk 408 102 (by decide +kernel)
set_option maxRecDepth 100000 in
theorem dk_law_510 : ∀ pc, 510 ≤ pc → pc < 510 + 102 → rz_ok1 code pc (pr_L_law pc) = true := rz_chunk 510 102 (by decide +kernel)
set_option maxRecDepth 100000 in
theorem dk_law_612 : ∀ pc, 612 ≤ pc → pc < 612 + 102 → rz_ok1 code pc (pr_L_law pc) = true := rz_chunk 612 102 (by decide +kernel)
set_option maxRecDepth 100000 in
theorem dk_law_714 : ∀ pc, 714 ≤ pc → pc < 714 + 102 → rz_ok1 code pc (pr_L_law pc) = true := rz_chunk 714 102 (by decide +kernel)
set_option maxRecDepth 100000 in
theorem dk_law_816 : ∀ pc, 816 ≤ pc → pc < 816 + 102 → rz_ok1 code pc (pr_L_law pc) = true := rz_chunk 816 102 (by decide +kernel)
set_option maxRecDepth 100000 in
theorem dk_law_918 : ∀ pc, 918 ≤ pc → pc < 918 + 101 → rz_ok1 code pc (pr_L_law pc) = true := rz_chunk 918 101 (by decide +kernel)
theorem dk_L_law : ∀ pc, rz_ok1 code pc (pr_L_law pc) = true := rz_okall 1019 (fun pc h => by
  by_cases h0 : pc < 102
  · exact dk_law_0 pc (by omega) (by omega)
  by_cases h102 : pc < 204
  · exact dk_law_102 pc (by omega) (by omega)
  by_cases h204 : pc < 306
  · exact dk_law_204 pc (by omega) (by omega)
  by_cases h306 : pc < 408
  · exact dk_law_306 pc (by omega) (by omega)
  by_cases h408 : pc < 510
  · exact dk_law_408 pc (by omega) (by omega)
  by_cases h510 : pc < 612
  · exact dk_law_510 pc (by omega) (by omega)
  by_cases h612 : pc < 714
  · exact dk_law_612 pc (by omega) (by omega)
  by_cases h714 : pc < 816
  · exact dk_law_714 pc (by omega) (by omega)
  by_cases h816 : pc < 918
  · exact dk_law_816 pc (by omega) (by omega)
  exact dk_law_918 pc (by omega) (by omega)) (fun pc h => by unfold pr_L_law; rw [h]; rfl)
theorem dk_all (y : Nat) (h : y < 213) (pc : Nat) : rz_ok1 (rz_mB y) pc (rz_p y pc) = true := by
  by_cases h0 : y < 82
  · exact dk_all_0 y (by simp only [List.mem_cons, List.not_mem_nil, or_false]; omega) pc
  by_cases h1 : y < 140
  · exact dk_all_1 y (by simp only [List.mem_cons, List.not_mem_nil, or_false]; omega) pc
  by_cases h2 : y < 180
  · exact dk_all_2 y (by simp only [List.mem_cons, List.not_mem_nil, or_false]; omega) pc
  by_cases h3 : y < 212
  · exact dk_all_3 y (by simp only [List.mem_cons, List.not_mem_nil, or_false]; omega) pc
  have e : y = 212 := by omega
  subst e
  exact dk_L_law pc
