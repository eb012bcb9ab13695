/-! the constructors' run is computed; its world is the one of the walk -/
set_option maxRecDepth 100000 in
theorem in_run : in_fin (in_go 2000 212 in_T0) = true := by decide +kernel
theorem in_all_at : ∀ {W : List in_C} {i0 j : Nat} {q : in_C}, in_all W i0 = true → W[j]? = some q → in_gb (i0 + j) = false → in_eq (in_pi (i0 + j)) q = true
  | [], _, _, _, _, h, _ => by simp at h
  | u :: r, i0, 0, q, h, hj, hg => by
    cases hj
    unfold in_all at h
    rw [Bool.and_eq_true] at h
    have h := h.1
    rw [Nat.add_zero] at hg ⊢
    rw [hg, Bool.false_or] at h
    exact h
  | u :: r, i0, j + 1, q, h, hj, hg => by
    unfold in_all at h
    rw [Bool.and_eq_true] at h
    rw [show i0 + (j + 1) = i0 + 1 + j from by omega] at hg ⊢
    exact in_all_at (j := j) h.2 (by simpa using hj) hg
theorem in_po_gb : ∀ i, i < 249 → in_gb (in_po i) = false ∧ in_pi (in_po i) = i ∧ in_po i < 260 := by decide +kernel
theorem in_po_inj {i j : Nat} (hi : i < 249) (hj : j < 249) (h : in_po i = in_po j) : i = j := by
  rw [← (in_po_gb i hi).2.1, ← (in_po_gb j hj).2.1, h]
theorem in_po_K (k : Nat) (h : k < 11) : in_po (249 + k) = 349 + k := (by decide +kernel : ∀ k, k < 11 → in_po (249 + k) = 349 + k) k h
theorem in_is_eq : ∀ {l : List rz_V} {m : List Nat}, in_is l m = true → l = m.map rR
  | [], [], _ => rfl
  | [], _ :: _, h => by cases h
  | .inl _ :: _, _, h => by cases h
  | .inr (.inl _) :: _, _, h => by cases h
  | .inr (.inr (.inr _)) :: _, _, h => by cases h
  | .inr (.inr (.inl k)) :: r, [], h => by cases h
  | .inr (.inr (.inl k)) :: r, q :: s, h => by
    unfold in_is at h
    simp only [Bool.and_eq_true] at h
    rw [List.map_cons, ← in_is_eq h.2, Nat.eq_of_beq_eq_true h.1]
theorem in_fin_of {o : Option in_T} (h : in_fin o = true) : ∃ (v : rz_V) (W : List in_C) (k n : Nat), o = some (16, [rR 400, rR 0, rR 232, v], [], W, k, n) ∧ W.length = 260 ∧ in_all W 0 = true ∧ k ≤ 600000 ∧ n ≤ 7302250 := by
  cases o with
  | none => cases h
  | some T =>
    obtain ⟨pc, ls, st, W, k, n⟩ := T
    unfold in_fin at h
    simp only [Bool.and_eq_true] at h
    obtain ⟨h1, h2, h3, h4, h5, h6, h7, h8⟩ := h
    have h1 := Nat.eq_of_beq_eq_true h1
    have h3 := Nat.eq_of_beq_eq_true h3
    have h4 := List.eq_nil_of_length_eq_zero (Nat.eq_of_beq_eq_true h4)
    have h2 := in_is_eq h2
    subst h1; subst h4
    rcases ls with _ | ⟨a, _ | ⟨b, _ | ⟨c, _ | ⟨v, _ | ⟨z, r⟩⟩⟩⟩⟩
    · cases h3
    · cases h3
    · cases h3
    · cases h3
    · simp only [List.take_succ_cons, List.take_zero, List.map_cons, List.map_nil, List.cons.injEq, and_true] at h2
      obtain ⟨rfl, rfl, rfl⟩ := h2
      exact ⟨v, W, k, n, rfl, Nat.eq_of_beq_eq_true h5, h6, Nat.le_of_ble_eq_true h7, Nat.le_of_ble_eq_true h8⟩
    · simp at h3
theorem in_arrV {cA : ClassId} {n : Nat} {f g : Nat → Value} (h : ∀ j, j < n → f j = g j) : arrV cA n f = arrV cA n g := by
  unfold arrV
  congr 1
  refine Array.ext (by simp) fun i h1 h2 => ?_
  simp only [Array.getElem_ofFn]
  exact h i (by simpa using h1)
theorem in_b2 (i a j b : Nat) : (Nat.beq i a && Nat.beq j b) = decide (i = a ∧ (j : Int) = b) := by
  by_cases h : i = a ∧ (j : Int) = b
  · rw [decide_eq_true h]
    obtain ⟨rfl, h2⟩ := h
    rw [show j = b from by omega, Nat.beq_refl, Nat.beq_refl]
    rfl
  · rw [decide_eq_false h]
    cases e : Nat.beq i a && Nat.beq j b with
    | false => rfl
    | true =>
      obtain ⟨q1, q2⟩ := Bool.and_eq_true_iff.mp e
      exact absurd ⟨Nat.eq_of_beq_eq_true q1, by rw [Nat.eq_of_beq_eq_true q2]⟩ h
theorem in_bd2 {α : Type} (c : Prop) [Decidable c] (x y : α) : (bif decide c then x else y) = if c then x else y := by
  by_cases h : c
  · rw [decide_eq_true h, if_pos h]
    rfl
  · rw [decide_eq_false h, if_neg h]
    rfl
theorem mem0_at (sc : Int → Int) {i : Nat} (hi : i < 249) (j : Nat) : mem0 sc i j = in_m i j := by
  unfold mem0
  rw [if_neg (by omega)]
  unfold in_m
  rw [in_b2, in_b2, in_b2, in_bd2, in_bd2, in_bd2]
  rfl
theorem mem0_z0 (sc : Int → Int) {i : Nat} (hi : i < 249) (h : (rz_S i).1 < 4) (j : Int) : mem0 sc i j = 0 := by
  have n : ∀ k, ¬ (rz_S k).1 < 4 → i ≠ k := fun k hk q => hk (by rw [← q]; exact h)
  exact mem0_z sc j (by omega) (Or.inl (n 221 (by decide))) (n 55 (by decide)) (n 47 (by decide))
section RZU
variable {D : va_G} {ids : in_I} {A : Nat → Prop} {ad : Nat → Nat} {H : Heap} {W : List in_C}
/-- one cell -/
theorem in_conv1 (sc : Int → Int) {i : Nat} (hi : i < 249) {q : in_C} (h : in_eq i q = true) (hP : va_at D rz_cls (ad (in_po i), in_e ids ad q) H) : va_at D rz_cls (ad (in_po i), rz_ce ids.1 ids.2.1 ids.2.2.1 ids.2.2.2 (fun k => ad (in_po k)) (mem0 sc) i) H := by
  obtain ⟨c, n, vs⟩ := q
  have refs : ∀ (hall : (List.range n).all (fun j => match vs[j]? with
    | some (.inr (.inr (.inl k))) => Nat.beq k (in_po (rz_R i j))
    | _ => false) = true) (j : Nat), j < n → va_rf (in_rf ad (vs.getD j (rX 0))) = va_rf (some (ad (in_po (rz_R i j)))) := by
    intro hall j hj
    have h1 := List.all_eq_true.mp hall j (List.mem_range.mpr hj)
    rw [List.getD_eq_getElem?_getD]
    cases e : vs[j]? with
    | none => rw [e] at h1; cases h1
    | some v =>
      rw [e] at h1
      rcases v with v | v | v | v
      · cases h1
      · cases h1
      · have h1 : Nat.beq v (in_po (rz_R i j)) = true := h1
        show va_rf (some (ad v)) = _
        rw [Nat.eq_of_beq_eq_true h1]
      · cases h1
  match c with
  | 0 =>
    have hlit : (0 : Nat) < 4 := by decide
    have h : (Nat.beq (rz_S i).1 0 && Nat.beq (rz_S i).2 n) = true := h
    simp only [Bool.and_eq_true] at h
    have e : rz_S i = (0, n) := Prod.ext (Nat.eq_of_beq_eq_true h.1) (Nat.eq_of_beq_eq_true h.2)
    rw [ce_0 e, show (fun j : Nat => Int32.ofInt (mem0 sc i j)) = (fun _ => 0) from funext fun j => by rw [mem0_z0 sc hi (by rw [e]; exact hlit)]; rfl]
    exact hP
  | 1 =>
    have hlit : (1 : Nat) < 4 := by decide
    have h : (Nat.beq (rz_S i).1 1 && Nat.beq (rz_S i).2 n) = true := h
    simp only [Bool.and_eq_true] at h
    have e : rz_S i = (1, n) := Prod.ext (Nat.eq_of_beq_eq_true h.1) (Nat.eq_of_beq_eq_true h.2)
    rw [ce_1 e, show (fun j : Nat => Int64.ofInt (mem0 sc i j)) = (fun _ => 0) from funext fun j => by rw [mem0_z0 sc hi (by rw [e]; exact hlit)]; rfl]
    exact hP
  | 2 =>
    have h : (Nat.beq (rz_S i).1 2 && (Nat.beq (rz_S i).2 n && (List.range n).all (fun j => match vs[j]? with
      | some (.inr (.inr (.inl k))) => Nat.beq k (in_po (rz_R i j))
      | _ => false))) = true := h
    rw [Bool.and_eq_true, Bool.and_eq_true] at h
    have e : rz_S i = (2, n) := Prod.ext (Nat.eq_of_beq_eq_true h.1) (Nat.eq_of_beq_eq_true h.2.1)
    rw [ce_2 e]
    have g : H[ad (in_po i)]? = some (arrV ids.2.2.1 n (fun j => va_rf (in_rf ad (vs.getD j (rX 0))))) := hP
    rw [in_arrV (refs h.2.2)] at g
    exact g
  | 3 =>
    have h : (Nat.beq (rz_S i).1 3 && (Nat.beq (rz_S i).2 n && (List.range n).all (fun j => match vs[j]? with
      | some (.inr (.inr (.inl k))) => Nat.beq k (in_po (rz_R i j))
      | _ => false))) = true := h
    rw [Bool.and_eq_true, Bool.and_eq_true] at h
    have e : rz_S i = (3, n) := Prod.ext (Nat.eq_of_beq_eq_true h.1) (Nat.eq_of_beq_eq_true h.2.1)
    rw [ce_3 e]
    have g : H[ad (in_po i)]? = some (arrV ids.2.2.2 n (fun j => va_rf (in_rf ad (vs.getD j (rX 0))))) := hP
    rw [in_arrV (refs h.2.2)] at g
    exact g
  | c + 4 =>
    have h : (Nat.beq (rz_S i).1 (c + 4) && (Nat.beq vs.length (rz_nf c) && (List.range (rz_nf c)).all (fun j => match rz_ft c j, vs[j]? with
      | 0, some (.inl z) => decide (z = in_m i j)
      | 1, some (.inr (.inl z)) => decide (z = in_m i j)
      | 2, some (.inr (.inr (.inl k))) => Nat.beq k (in_po (rz_R i j))
      | 3, some (.inr (.inr (.inr _))) => decide (in_m i j < 0)
      | 3, some (.inr (.inr (.inl k))) => decide (¬ in_m i j < 0) && Nat.beq k (in_po (in_m i j).toNat)
      | _, _ => false))) = true := h
    rw [Bool.and_eq_true, Bool.and_eq_true] at h
    obtain ⟨h1, h2, h3⟩ := h
    have e : rz_S i = (c + 4, (rz_S i).2) := Prod.ext (Nat.eq_of_beq_eq_true h1) rfl
    have h2 := Nat.eq_of_beq_eq_true h2
    rw [ce_4 e]
    have hv : vs.map (rz_cv ad) = rz_fv (fun k => ad (in_po k)) (mem0 sc) i c := by
      refine List.ext_getElem? fun j => ?_
      by_cases hj : j < rz_nf c
      · rw [fv_get hj, List.getElem?_map]
        have g := List.all_eq_true.mp h3 j (List.mem_range.mpr hj)
        rw [mem0_at sc hi]
        split at g
        · next hf hvj =>
          rw [hvj, hf]
          have g := of_decide_eq_true g
          rw [g]
          rfl
        · next hf hvj =>
          rw [hvj, hf]
          have g := of_decide_eq_true g
          rw [g]
          rfl
        · next hf hvj =>
          rw [hvj, hf]
          have g := Nat.eq_of_beq_eq_true g
          rw [g]
          rfl
        · next hf hvj =>
          rw [hvj, hf]
          have g := of_decide_eq_true g
          rw [if_pos g]
          rfl
        · next hf hvj =>
          rw [hvj, hf]
          rw [Bool.and_eq_true] at g
          obtain ⟨g, g2⟩ := g
          have g := of_decide_eq_true g
          rw [if_neg g, Nat.eq_of_beq_eq_true g2]
          rfl
        · cases g
      · rw [List.getElem?_eq_none (by rw [List.length_map, h2]; omega), List.getElem?_eq_none (by rw [fv_len]; omega)]
    rw [← hv]
    exact hP
theorem in_conv (sc : Int → Int) (hW : W.length = 260) (h : in_all W 0 = true) (hP : va_P D rz_cls (in_w ids ad W) H) (hD : va_D A (in_w ids ad W)) :
    va_P D rz_cls (rz_ws ids.1 ids.2.1 ids.2.2.1 ids.2.2.2 (fun k => ad (in_po k)) (mem0 sc)) H ∧ va_D A (rz_ws ids.1 ids.2.1 ids.2.2.1 ids.2.2.2 (fun k => ad (in_po k)) (mem0 sc)) := by
  have key : ∀ (i : Nat) (q : Nat × va_E), (rz_ws ids.1 ids.2.1 ids.2.2.1 ids.2.2.2 (fun k => ad (in_po k)) (mem0 sc))[i]? = some q → i < 249 ∧ q = (ad (in_po i), rz_ce ids.1 ids.2.1 ids.2.2.1 ids.2.2.2 (fun k => ad (in_po k)) (mem0 sc) i) ∧ ∃ u, W[in_po i]? = some u := by
    intro i q hq
    have hi : i < 249 := by
      have := (List.getElem?_eq_some_iff.mp hq).1
      unfold rz_ws at this
      simpa using this
    rw [ws_get hi] at hq
    exact ⟨hi, (Option.some.inj hq).symm, _, List.getElem?_eq_getElem (by have := (in_po_gb i hi).2.2; omega)⟩
  refine ⟨fun i q hq => ?_, fun i j x z hx hz hxz => ?_, fun i q hq => ?_⟩
  · obtain ⟨hi, rfl, u, hu⟩ := key i q hq
    obtain ⟨g1, g2, -⟩ := in_po_gb i hi
    have g := in_all_at h hu (by rw [Nat.zero_add]; exact g1)
    rw [Nat.zero_add, g2] at g
    exact in_conv1 sc hi g (hP (in_po i) _ (in_w_get hu))
  · obtain ⟨hi, rfl, u, hu⟩ := key i x hx
    obtain ⟨hj, rfl, u2, hu2⟩ := key j z hz
    exact in_po_inj hi hj (hD.1 (in_po i) (in_po j) _ _ (in_w_get hu) (in_w_get hu2) hxz)
  · obtain ⟨hi, rfl, u, hu⟩ := key i q hq
    have g := hD.2 (in_po i) _ (in_w_get (ids := ids) (ad := ad) hu)
    exact g
end RZU
theorem okm_0 (i : Nat) (j z : Int) (h1 : R32 z) (h2 : R64 z) : rz_okm i j z := by
  unfold rz_okm
  split
  · exact h1
  · exact h2
  · trivial
  · trivial
  · split
    · exact h1
    · exact h2
    · trivial
theorem mo_mem0 (sc : Int → Int) : rz_mo (mem0 sc) := by
  intro i j
  by_cases h : i = 400
  · subst h
    exact trivial
  · unfold mem0
    rw [if_neg h]
    split
    · exact okm_0 i j _ ⟨by decide, by decide⟩ ⟨by decide, by decide⟩
    · split
      · exact okm_0 i j _ ⟨by decide, by decide⟩ ⟨by decide, by decide⟩
      · split
        · exact okm_0 i j _ ⟨by decide, by decide⟩ ⟨by decide, by decide⟩
        · exact okm_0 i j _ ⟨by decide, by decide⟩ ⟨by decide, by decide⟩
