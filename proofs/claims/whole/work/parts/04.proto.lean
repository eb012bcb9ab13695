set_option maxRecDepth 10000 in
theorem tt_deg0 (r : Int) (m : rz_M) (Q : Int → rz_M → Prop) (h : rz_E y_M_degreeOf 3 [rR 221, rI r, rI 6] [] m Q) : rz_E y_M_degreeOf 0 [rR 221, rI r, rX 0] [] m Q := rz_run [(3, [])] 30 h
set_option maxRecDepth 10000 in
theorem tt_deg3 (r n : Int) (m : rz_M) (Q : Int → rz_M → Prop) (h : (n < 0 → Q n m) ∧ (¬ n < 0 → (rz_in (w32 (w32 (7 * r) + n)) 70 ∧ ((rz_cmp (m 222 (w32 (w32 (7 * r) + n))) 0 ≠ 0 → Q n m) ∧ (¬ rz_cmp (m 222 (w32 (w32 (7 * r) + n))) 0 ≠ 0 → rz_E y_M_degreeOf 3 [rR 221, rI r, rI (w32 (n + -1))] [] m Q))))) : rz_E y_M_degreeOf 3 [rR 221, rI r, rI n] [] m Q := rz_run [(3, [])] 30 h
