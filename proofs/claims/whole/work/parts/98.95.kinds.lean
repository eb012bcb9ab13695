/-! the kinds of groups: what both sides tell of them -/
def on : Nat → Int
  | 0 => 0
  | k + 1 => on k * 10 + 1
theorem on_bd : ∀ k : Nat, k ≤ 4 → 0 ≤ on k ∧ on k ≤ 1111 := by decide
theorem l_Kd_ones {n : Nat} (hn : n ≤ 4) {m : rz_M} {K : Int → rz_M → Prop} (h : K (on n) m) : ∀ (r k : Nat), n - k = r → k ≤ n → rz_E y_Kind_ones 4 [rI n, rI (on k), rI k] [] m K
  | 0, k, hr, hk => by
    have e : k = n := by omega
    subst e
    exact T_Kind_ones_4 _ _ _ _ _ (bt (by omega) h)
  | r + 1, k, hr, hk => by
    have b := on_bd k (by omega)
    refine T_Kind_ones_4 _ _ _ _ _ (bf (by omega) ?_)
    rw [w32_id (z := on k * 10) (by omega) (by omega), w32_id (z := on k * 10 + 1) (by omega) (by omega), w32_id (z := (k : Int) + 1) (by omega) (by omega)]
    exact l_Kd_ones hn h r (k + 1) (by omega) (by omega)
theorem c_Kd_ones {n : Nat} (hn : n ≤ 4) {m : rz_M} {K : Int → rz_M → Prop} (h : K (on n) m) : rz_C y_Kind_ones [rI n] m K :=
  T_Kind_ones_0 _ _ _ (l_Kd_ones hn h n 0 rfl (Nat.zero_le _))
theorem isC_K : ∀ i : Nat, i < 11 → rz_isC (249 + i) 8 = true := by decide +kernel
theorem kv_bd : ∀ i : Nat, i < 11 → ∀ k : Nat, k < 5 → 0 ≤ rz_kv i k ∧ rz_kv i k ≤ 30 := by decide +kernel
/-- how many changes of a kind have a type -/
def szC (i : Nat) (t : Int) (r : Nat) : Int := if t = on r then 1 else if 2 ≤ r ∧ t = on (r - 2) * 10 + 2 then rz_kv i 1 else if 3 ≤ r ∧ t = on (r - 3) * 10 + 3 then rz_kv i 3 else if r = 4 ∧ t = 22 then rz_kv i 2 else if r = 4 ∧ t = 4 then rz_kv i 4 else 0
theorem c_Kd_size {i : Nat} (hi : i < 11) {m : rz_M} {K : Int → rz_M → Prop} (h : K (1 + rz_kv i 1 + rz_kv i 2 + rz_kv i 3 + rz_kv i 4) m) : rz_C y_Kind_size [rR (249 + i)] m K := by
  have c := isC_K i hi
  have b1 := kv_bd i hi 1 (by decide)
  have b2 := kv_bd i hi 2 (by decide)
  have b3 := kv_bd i hi 3 (by decide)
  have b4 := kv_bd i hi 4 (by decide)
  have e : 249 + i - rz_NX = i := Nat.add_sub_cancel_left _ _
  refine T_Kind_size_0 _ _ _ ⟨c, c, c, c, ?_⟩
  rw [e, w32_id (z := 1 + rz_kv i 1) (by omega) (by omega), w32_id (z := 1 + rz_kv i 1 + rz_kv i 2) (by omega) (by omega), w32_id (z := 1 + rz_kv i 1 + rz_kv i 2 + rz_kv i 3) (by omega) (by omega), w32_id (z := 1 + rz_kv i 1 + rz_kv i 2 + rz_kv i 3 + rz_kv i 4) (by omega) (by omega)]
  exact h
theorem c_Kd_isEven {i : Nat} (hi : i < 11) {m : rz_M} {K : Int → rz_M → Prop} (h : K (if rz_kv i 1 = 0 ∧ rz_kv i 4 = 0 then 1 else 0) m) : rz_C y_Kind_isEven [rR (249 + i)] m K := by
  have c := isC_K i hi
  have e : 249 + i - rz_NX = i := Nat.add_sub_cancel_left _ _
  refine T_Kind_isEven_0 _ _ _ ⟨c, ?_⟩
  rw [e]
  refine bb (fun q => ?_) (fun q => ⟨c, bb (fun q2 => ?_) (fun q2 => ?_)⟩)
  · rwa [if_neg (fun w => q w.1)] at h
  · rwa [if_neg (fun w => q2 w.2)] at h
  · rwa [if_pos ⟨Classical.not_not.mp q, Classical.not_not.mp q2⟩] at h
theorem c_Kd_sizeOfType {i : Nat} (hi : i < 11) {t : Int} {r : Nat} (hr : r ≤ 4) {m : rz_M} {K : Int → rz_M → Prop} (h : K (szC i t r) m) : rz_C y_Kind_sizeOfType [rR (249 + i), rI t, rI r] m K := by
  have c := isC_K i hi
  have e : 249 + i - rz_NX = i := Nat.add_sub_cancel_left _ _
  unfold szC at h
  refine T_Kind_sizeOfType_0 _ _ _ _ _ (c_Kd_ones hr ?_)
  refine bb (fun q => ?_) (fun q => ?_)
  · rw [if_neg q] at h
    have go60 : ¬ (2 ≤ r ∧ t = on (r - 2) * 10 + 2) → ¬ (3 ≤ r ∧ t = on (r - 3) * 10 + 3) → rz_E y_Kind_sizeOfType 60 [rR (249 + i), rI t, rI r] [] m K := fun n2 n3 => by
      rw [if_neg n2, if_neg n3] at h
      refine T_Kind_sizeOfType_60 _ _ _ _ _ ?_
      rw [e]
      have tl : ¬ (r = 4 ∧ t = 22) → ((((r : Int) ≠ 4) → K 0 m) ∧ (¬ ((r : Int) ≠ 4) → (((t ≠ 4) → K 0 m) ∧ (¬ (t ≠ 4) → (rz_isC (249 + i) 8 = true ∧ K (rz_kv i 4) m))))) := fun n22 => by
        rw [if_neg n22] at h
        refine bb (fun z => ?_) (fun z => bb (fun z2 => ?_) (fun z2 => ⟨c, ?_⟩))
        · rwa [if_neg (by omega)] at h
        · rwa [if_neg (by omega)] at h
        · rwa [if_pos (by omega)] at h
      refine bb (fun z => tl (by omega)) (fun z => bb (fun z2 => tl (by omega)) (fun z2 => ⟨c, ?_⟩))
      rwa [if_pos (by omega)] at h
    have go35 : ¬ (2 ≤ r ∧ t = on (r - 2) * 10 + 2) → rz_E y_Kind_sizeOfType 35 [rR (249 + i), rI t, rI r] [] m K := fun n2 => by
      refine T_Kind_sizeOfType_35 _ _ _ _ _ (bb (fun z => go60 n2 (by omega)) (fun z => ?_))
      have b := on_bd (r - 3) (by omega)
      rw [w32_id (by omega) (by omega), show (r : Int) - 3 = ((r - 3 : Nat) : Int) from by omega]
      refine c_Kd_ones (by omega) ?_
      rw [w32_id (z := on (r - 3) * 10) (by omega) (by omega), w32_id (by omega) (by omega), e]
      refine bb (fun z2 => go60 n2 (fun w => z2 w.2)) (fun z2 => ⟨c, ?_⟩)
      rwa [if_neg n2, if_pos ⟨by omega, Classical.not_not.mp z2⟩] at h
    refine bb (fun z => go35 (by omega)) (fun z => ?_)
    have b := on_bd (r - 2) (by omega)
    rw [w32_id (by omega) (by omega), show (r : Int) - 2 = ((r - 2 : Nat) : Int) from by omega]
    refine c_Kd_ones (by omega) ?_
    rw [w32_id (z := on (r - 2) * 10) (by omega) (by omega), w32_id (by omega) (by omega), e]
    refine bb (fun z2 => go35 (fun w => z2 w.2)) (fun z2 => ⟨c, ?_⟩)
    rwa [if_pos ⟨by omega, Classical.not_not.mp z2⟩] at h
  · rwa [if_pos (Classical.not_not.mp q)] at h
theorem lt11 {i : Nat} (h : i < 11) : i = 0 ∨ i = 1 ∨ i = 2 ∨ i = 3 ∨ i = 4 ∨ i = 5 ∨ i = 6 ∨ i = 7 ∨ i = 8 ∨ i = 9 ∨ i = 10 := by omega
theorem c_M_manyOf {i w : Nat} (hi : i < 11) (hw : w < 4) {m : rz_M} {K : Int → rz_M → Prop} (h : K (rz_kv i (w + 1)) m) : rz_C y_M_manyOf [rI ((phK i : Nat) : Int), rI w] m K := by
  have hw' : w = 0 ∨ w = 1 ∨ w = 2 ∨ w = 3 := by omega
  rcases lt11 hi with rfl | rfl | rfl | rfl | rfl | rfl | rfl | rfl | rfl | rfl | rfl <;> rcases hw' with rfl | rfl | rfl | rfl <;> refine T_M_manyOf_0 _ _ _ _ ?_ <;> simp [phK] <;> exact h
theorem c_M_orderOf {i : Nat} (hi : i < 11) {m : rz_M} {K : Int → rz_M → Prop} (h : K (1 + rz_kv i 1 + rz_kv i 2 + rz_kv i 3 + rz_kv i 4) m) : rz_C y_M_orderOf [rI ((phK i : Nat) : Int)] m K := by
  rcases lt11 hi with rfl | rfl | rfl | rfl | rfl | rfl | rfl | rfl | rfl | rfl | rfl <;> refine T_M_orderOf_0 _ _ _ ?_ <;> simp [phK] <;> exact h
theorem c_M_fieldsOf {i : Nat} (hi : i < 11) {m : rz_M} {K : Int → rz_M → Prop} (h : K (rz_kv i 0) m) : rz_C y_M_fieldsOf [rI ((phK i : Nat) : Int)] m K := by
  rcases lt11 hi with rfl | rfl | rfl | rfl | rfl | rfl | rfl | rfl | rfl | rfl | rfl <;> refine T_M_fieldsOf_0 _ _ _ ?_ <;> simp [phK] <;> exact h
/-- the order and whether it is a power of two -/
theorem ordK : ∀ i : Nat, i < 11 → ∃ o : Nat, (1 + rz_kv i 1 + rz_kv i 2 + rz_kv i 3 + rz_kv i 4 = o) ∧ o ∈ [1, 2, 3, 4, 6, 8, 12, 24] := fun i hi => ⟨(1 + rz_kv i 1 + rz_kv i 2 + rz_kv i 3 + rz_kv i 4).toNat, by
  revert i
  decide +kernel⟩
theorem c_J_bitCount {o : Nat} (ho : o ∈ [1, 2, 3, 4, 6, 8, 12, 24]) {m : rz_M} {K : Int → rz_M → Prop} (h : K (if o % 3 = 0 then 2 else 1) m) : rz_C y_J_bitCount [rI o] m K := by
  have st : ∀ x y : Int, x = y → K y m → K x m := fun x y e k => e ▸ k
  simp only [List.mem_cons, List.not_mem_nil, or_false] at ho
  rcases ho with rfl | rfl | rfl | rfl | rfl | rfl | rfl | rfl <;> refine T_J_bitCount_0 _ _ _ (T_J_bitCount_48 _ _ _ (st _ _ ?_ h)) <;> decide +kernel
/-- a change's type, by the reference -/
def tyM (w r : Nat) : Int := if w = 0 then on (r - 2) * 10 + 2 else if w = 1 then on (r - 4) * 100 + 22 else if w = 2 then on (r - 3) * 10 + 3 else on (r - 4) * 10 + 4
theorem l_M_to54 {w r mv : Nat} (hr : r ≤ 4) (hmv : mv ≤ 4) {s : Int} (hs : 0 ≤ s ∧ s ≤ 22) {m : rz_M} (er : m 221 34 = r) {K : Int → rz_M → Prop} (h : K (if w = 1 then on (r - mv) * 100 + s else on (r - mv) * 10 + s) m) : ∀ (n k : Nat), r - mv - k = n → k ≤ r - mv → rz_E y_M_typeOf 54 [rR 221, rI w, rI s, rX 0, rI (on k), rI ((mv + k : Nat) : Int)] [] m K
  | 0, k, hn, hk => by
    have e : r - mv = k := by omega
    rw [e] at h
    have b := on_bd k (by omega)
    refine T_M_typeOf_54 _ _ _ _ _ _ (bt (by omega) ?_)
    rw [w32_id (z := 10 * on k) (by omega) (by omega), w32_id (z := 10 * on k + s) (by omega) (by omega), w32_id (z := 100 * on k) (by omega) (by omega), w32_id (z := 100 * on k + s) (by omega) (by omega)]
    refine bb (fun q => ?_) (fun q => ?_)
    · rw [if_neg (by omega), Int.mul_comm] at h
      exact h
    · rw [if_pos (by omega), Int.mul_comm] at h
      exact h
  | n + 1, k, hn, hk => by
    have b := on_bd k (by omega)
    refine T_M_typeOf_54 _ _ _ _ _ _ (bf (by omega) ?_)
    rw [w32_id (z := 10 * on k) (by omega) (by omega), w32_id (z := 10 * on k + 1) (by omega) (by omega), w32_id (z := ((mv + k : Nat) : Int) + 1) (by omega) (by omega), show 10 * on k + 1 = on (k + 1) from by show _ = on k * 10 + 1; omega, show ((mv + k : Nat) : Int) + 1 = ((mv + (k + 1) : Nat) : Int) from by omega]
    exact l_M_to54 hr hmv hs er h n (k + 1) (by omega) (by omega)
theorem c_M_typeOf {w r : Nat} (hw : w < 4) (hr : r ≤ 4) {m : rz_M} (er : m 221 34 = r) {K : Int → rz_M → Prop} (h : K (tyM w r) m) : rz_C y_M_typeOf [rR 221, rI w] m K := by
  have go : ∀ (mv : Nat) (s : Int), mv ≤ 4 → 0 ≤ s → s ≤ 22 → tyM w r = (if w = 1 then on (r - mv) * 100 + s else on (r - mv) * 10 + s) → rz_E y_M_typeOf 54 [rR 221, rI w, rI s, rX 0, rI 0, rI mv] [] m K := fun mv s hmv s0 s1 e => by
    rw [e] at h
    exact l_M_to54 hr hmv ⟨s0, s1⟩ er h (r - mv) 0 rfl (Nat.zero_le _)
  have hw' : w = 0 ∨ w = 1 ∨ w = 2 ∨ w = 3 := by omega
  rcases hw' with rfl | rfl | rfl | rfl
  · exact T_M_typeOf_0 _ _ _ (bf (by decide) (T_M_typeOf_28 _ _ _ _ (bf (by decide) (go 2 2 (by decide) (by decide) (by decide) rfl))))
  · exact T_M_typeOf_0 _ _ _ (bt (by decide) (bf (by decide) (T_M_typeOf_28 _ _ _ _ (bt (by decide) (bt (by decide) (go 4 22 (by decide) (by decide) (by decide) rfl))))))
  · exact T_M_typeOf_0 _ _ _ (bt (by decide) (bt (by decide) (bf (by decide) (T_M_typeOf_28 _ _ _ _ (bt (by decide) (bf (by decide) (go 3 3 (by decide) (by decide) (by decide) rfl)))))))
  · exact T_M_typeOf_0 _ _ _ (bt (by decide) (bt (by decide) (bt (by decide) (T_M_typeOf_28 _ _ _ _ (bt (by decide) (bt (by decide) (go 4 4 (by decide) (by decide) (by decide) rfl)))))))
/-- the reference's count of changes -/
def chM (i : Nat) (t : Int) (r : Nat) : Nat → Int
  | 0 => 0
  | n + 1 => if 0 < rz_kv i (4 - (n + 1) + 1) ∧ tyM (4 - (n + 1)) r = t then rz_kv i (4 - (n + 1) + 1) else chM i t r n
theorem l_M_ch72 {i r : Nat} (hi : i < 11) (hr : r ≤ 4) {t : Int} {m : rz_M} (er : m 221 34 = r) {K : Int → rz_M → Prop} : ∀ n : Nat, n ≤ 4 → K (chM i t r n) m → rz_E y_M_changes 72 [rR 221, rX 0, rI t, rI ((phK i : Nat) : Int), rX 0, rI ((4 - n : Nat) : Int)] [] m K
  | 0, _, h => T_M_changes_72 _ _ _ _ _ (bt (by decide) h)
  | n + 1, hn, h => by
    have nx : ¬ (0 < rz_kv i (4 - (n + 1) + 1) ∧ tyM (4 - (n + 1)) r = t) → rz_E y_M_changes 72 [rR 221, rX 0, rI t, rI ((phK i : Nat) : Int), rX 0, rI (w32 (((4 - (n + 1) : Nat) : Int) + 1))] [] m K := fun q => by
      have h' : K (if 0 < rz_kv i (4 - (n + 1) + 1) ∧ tyM (4 - (n + 1)) r = t then rz_kv i (4 - (n + 1) + 1) else chM i t r n) m := h
      rw [if_neg q] at h'
      rw [w32_id (by omega) (by omega), show ((4 - (n + 1) : Nat) : Int) + 1 = ((4 - n : Nat) : Int) from by omega]
      exact l_M_ch72 hi hr er n (by omega) h'
    refine T_M_changes_72 _ _ _ _ _ (bf (by omega) (c_M_manyOf hi (by omega) (bb (fun q => nx (by omega)) (fun q => c_M_typeOf (by omega) hr er (bb (fun q2 => nx (fun w => q2 w.2)) (fun q2 => c_M_manyOf hi (by omega) ?_))))))
    have h' : K (if 0 < rz_kv i (4 - (n + 1) + 1) ∧ tyM (4 - (n + 1)) r = t then rz_kv i (4 - (n + 1) + 1) else chM i t r n) m := h
    rw [if_pos ⟨by omega, Classical.not_not.mp q2⟩] at h'
    exact h'
theorem l_M_ch37 {i r : Nat} (hi : i < 11) (hr : r ≤ 4) {t : Int} {m : rz_M} (er : m 221 34 = r) {K : Int → rz_M → Prop} (h : K (if t = on r then 1 else chM i t r 4) m) : ∀ (n k : Nat), r - k = n → k ≤ r → rz_E y_M_changes 37 [rR 221, rX 0, rI t, rI ((phK i : Nat) : Int), rI (on k), rI k] [] m K
  | 0, k, hn, hk => by
    have e : k = r := by omega
    subst e
    refine T_M_changes_37 _ _ _ _ _ _ (bt (by omega) (bb (fun q => ?_) (fun q => ?_)))
    · rw [if_neg q] at h
      exact l_M_ch72 hi hr er 4 (by decide) h
    · rwa [if_pos (Classical.not_not.mp q)] at h
  | n + 1, k, hn, hk => by
    have b := on_bd k (by omega)
    refine T_M_changes_37 _ _ _ _ _ _ (bf (by omega) ?_)
    rw [w32_id (z := 10 * on k) (by omega) (by omega), w32_id (z := 10 * on k + 1) (by omega) (by omega), w32_id (z := (k : Int) + 1) (by omega) (by omega), show 10 * on k + 1 = on (k + 1) from by show _ = on k * 10 + 1; omega]
    exact l_M_ch37 hi hr er h n (k + 1) (by omega) (by omega)
/-- which numbers of roots a kind can have -/
def okRt (i r : Nat) : Bool := Nat.ble 1 r && Nat.ble r 4 && (Nat.beq i 0 || (Nat.beq i 1 && Nat.ble 2 r) || ((Nat.beq i 4 || Nat.beq i 5) && Nat.ble 3 r) || Nat.beq r 4)
/-- on the types that count at all both agree -/
def chS (r : Nat) : List Int := [on r, on (r - 2) * 10 + 2, on (r - 3) * 10 + 3, 22, 4, on (r - 4) * 100 + 22, on (r - 4) * 10 + 4]
theorem ch_in : ∀ i : Nat, i < 11 → ∀ r : Nat, r < 5 → okRt i r = true → ∀ t ∈ chS r, szC i t r = (if t = on r then 1 else chM i t r 4) := by decide +kernel
theorem ch_eq {i r : Nat} (hi : i < 11) (hr : okRt i r = true) (t : Int) : szC i t r = (if t = on r then 1 else chM i t r 4) := by
  have r4 : r < 5 := by
    unfold okRt at hr
    rw [Bool.and_eq_true, Bool.and_eq_true] at hr
    have := Nat.le_of_ble_eq_true hr.1.2
    omega
  by_cases q : t ∈ chS r
  · exact ch_in i hi r r4 hr t q
  · unfold chS at q
    simp only [List.mem_cons, List.not_mem_nil, or_false, not_or] at q
    obtain ⟨q1, q2, q3, q4, q5, q6, q7⟩ := q
    have e1 : szC i t r = 0 := by
      unfold szC
      rw [if_neg q1, if_neg (fun w => q2 w.2), if_neg (fun w => q3 w.2), if_neg (fun w => q4 w.2), if_neg (fun w => q5 w.2)]
    have e2 : chM i t r 4 = 0 := by
      show (if _ ∧ tyM 0 r = t then _ else if _ ∧ tyM 1 r = t then _ else if _ ∧ tyM 2 r = t then _ else if _ ∧ tyM 3 r = t then _ else (0 : Int)) = 0
      rw [if_neg (fun w => q2 w.2.symm), if_neg (fun w => q6 w.2.symm), if_neg (fun w => q3 w.2.symm), if_neg (fun w => q7 w.2.symm)]
    rw [e1, if_neg q1, e2]
