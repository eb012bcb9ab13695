/-! the constructors' machine: the words that it rests on, worlds that grow -/
def in_zf (z : Nat) : Prop := Cond.code (rz_mN z) (rz_mB z) (rz_mi z).2.2.2 (rz_mR z) ∈ lw_tbl ∧ Cond.initialized (rz_mN z).cls ∈ lw_tbl ∧ ((rz_mN z).cls ≠ "java/lang/invoke/MethodHandle" ∧ (rz_mN z).cls ≠ "java/lang/invoke/VarHandle" ∧ (parseMethodDescriptor (rz_mN z).desc).map (fun d => d.parameters.length) = some ((rz_mi z).2.1 - 1)) ∧
  Cond.instanceMethod (rz_mN z) ∈ lw_tbl ∧ plainName (rz_mN z).cls = true ∧ (rz_mN z).cls = rz_cn (rz_mi z).1 ∧ rz_mR z = none ∧ (rz_mN z).name = "<init>" ∧ z < 212 ∧ (rz_p z (in_end z)).1 = .return_
theorem in_zf_0 : in_zf 0 := ⟨rz_nth 223 (by decide +kernel), rz_nth 86 (by decide +kernel), ⟨by decide +kernel, by decide +kernel, by decide +kernel⟩, rz_nth 222 (by decide +kernel), by decide +kernel, by decide +kernel, rfl, by decide +kernel, by decide, rfl⟩
theorem in_zf_19 : in_zf 19 := ⟨rz_nth 109 (by decide +kernel), rz_nth 82 (by decide +kernel), ⟨by decide +kernel, by decide +kernel, by decide +kernel⟩, rz_nth 108 (by decide +kernel), by decide +kernel, by decide +kernel, rfl, by decide +kernel, by decide, rfl⟩
theorem in_zf_26 : in_zf 26 := ⟨rz_nth 142 (by decide +kernel), rz_nth 83 (by decide +kernel), ⟨by decide +kernel, by decide +kernel, by decide +kernel⟩, rz_nth 141 (by decide +kernel), by decide +kernel, by decide +kernel, rfl, by decide +kernel, by decide, rfl⟩
theorem in_zf_41 : in_zf 41 := ⟨rz_nth 258 (by decide +kernel), rz_nth 87 (by decide +kernel), ⟨by decide +kernel, by decide +kernel, by decide +kernel⟩, rz_nth 257 (by decide +kernel), by decide +kernel, by decide +kernel, rfl, by decide +kernel, by decide, rfl⟩
theorem in_zf_45 : in_zf 45 := ⟨rz_nth 216 (by decide +kernel), rz_nth 85 (by decide +kernel), ⟨by decide +kernel, by decide +kernel, by decide +kernel⟩, rz_nth 215 (by decide +kernel), by decide +kernel, by decide +kernel, rfl, by decide +kernel, by decide, rfl⟩
theorem in_zf_52 : in_zf 52 := ⟨rz_nth 174 (by decide +kernel), rz_nth 84 (by decide +kernel), ⟨by decide +kernel, by decide +kernel, by decide +kernel⟩, rz_nth 173 (by decide +kernel), by decide +kernel, by decide +kernel, rfl, by decide +kernel, by decide, rfl⟩
theorem in_zf_66 : in_zf 66 := ⟨rz_nth 99 (by decide +kernel), rz_nth 81 (by decide +kernel), ⟨by decide +kernel, by decide +kernel, by decide +kernel⟩, rz_nth 98 (by decide +kernel), by decide +kernel, by decide +kernel, rfl, by decide +kernel, by decide, rfl⟩
theorem in_zf_119 : in_zf 119 := ⟨rz_nth 833 (by decide +kernel), rz_nth 88 (by decide +kernel), ⟨by decide +kernel, by decide +kernel, by decide +kernel⟩, rz_nth 832 (by decide +kernel), by decide +kernel, by decide +kernel, rfl, by decide +kernel, by decide, rfl⟩
theorem in_ol_all : ∀ q ∈ in_ol, Cond.methodLink (rz_cn q.1) q.2.1 Lib.objectInit ∈ lw_tbl := List.forall_mem_cons.mpr ⟨rz_nth 224 (by decide +kernel), List.forall_mem_cons.mpr ⟨rz_nth 110 (by decide +kernel), List.forall_mem_cons.mpr ⟨rz_nth 143 (by decide +kernel), List.forall_mem_cons.mpr ⟨rz_nth 259 (by decide +kernel), List.forall_mem_cons.mpr ⟨rz_nth 217 (by decide +kernel), List.forall_mem_cons.mpr ⟨rz_nth 175 (by decide +kernel), List.forall_mem_cons.mpr ⟨rz_nth 100 (by decide +kernel), List.forall_mem_cons.mpr ⟨rz_nth 834 (by decide +kernel), fun _ h => absurd h List.not_mem_nil⟩⟩⟩⟩⟩⟩⟩⟩
theorem in_vl_all : ∀ q ∈ in_vl, in_zf q.2.2 ∧ Cond.methodLink (rz_cn q.1) q.2.1 (rz_mN q.2.2) ∈ lw_tbl := List.forall_mem_cons.mpr ⟨⟨in_zf_52, rz_nth 172 (by decide +kernel)⟩, List.forall_mem_cons.mpr ⟨⟨in_zf_45, rz_nth 214 (by decide +kernel)⟩, List.forall_mem_cons.mpr ⟨⟨in_zf_41, rz_nth 256 (by decide +kernel)⟩, List.forall_mem_cons.mpr ⟨⟨in_zf_119, rz_nth 831 (by decide +kernel)⟩, List.forall_mem_cons.mpr ⟨⟨in_zf_66, rz_nth 97 (by decide +kernel)⟩, fun _ h => absurd h List.not_mem_nil⟩⟩⟩⟩⟩
theorem in_nl_all : ∀ q ∈ in_nl, in_zf q.2.2 ∧ Cond.methodLinkNest (rz_cn q.1) q.2.1 (rz_mN q.2.2) "RootChanges" ∈ lw_tbl := List.forall_mem_cons.mpr ⟨⟨in_zf_19, rz_nth 107 (by decide +kernel)⟩, List.forall_mem_cons.mpr ⟨⟨in_zf_26, rz_nth 140 (by decide +kernel)⟩, List.forall_mem_cons.mpr ⟨⟨in_zf_19, rz_nth 177 (by decide +kernel)⟩, List.forall_mem_cons.mpr ⟨⟨in_zf_0, rz_nth 261 (by decide +kernel)⟩, List.forall_mem_cons.mpr ⟨⟨in_zf_0, rz_nth 221 (by decide +kernel)⟩, fun _ h => absurd h List.not_mem_nil⟩⟩⟩⟩⟩
theorem in_cl_all : ∀ q ∈ in_cl, q.2.2 < 8 ∧ Cond.classLink (rz_cn q.1) q.2.1 (rz_cn q.2.2) ∈ lw_tbl ∧ Cond.instantiable (rz_cn q.2.2) (rz_nf q.2.2) ∈ lw_tbl ∧ Cond.initialized (rz_cn q.2.2) ∈ lw_tbl := List.forall_mem_cons.mpr ⟨⟨by decide, rz_nth 105 (by decide +kernel), rz_nth 106 (by decide +kernel), rz_nth 82 (by decide +kernel)⟩, List.forall_mem_cons.mpr ⟨⟨by decide, rz_nth 176 (by decide +kernel), rz_nth 106 (by decide +kernel), rz_nth 82 (by decide +kernel)⟩, List.forall_mem_cons.mpr ⟨⟨by decide, rz_nth 138 (by decide +kernel), rz_nth 139 (by decide +kernel), rz_nth 83 (by decide +kernel)⟩, List.forall_mem_cons.mpr ⟨⟨by decide, rz_nth 170 (by decide +kernel), rz_nth 171 (by decide +kernel), rz_nth 84 (by decide +kernel)⟩, List.forall_mem_cons.mpr ⟨⟨by decide, rz_nth 212 (by decide +kernel), rz_nth 213 (by decide +kernel), rz_nth 85 (by decide +kernel)⟩, List.forall_mem_cons.mpr ⟨⟨by decide, rz_nth 254 (by decide +kernel), rz_nth 255 (by decide +kernel), rz_nth 87 (by decide +kernel)⟩, List.forall_mem_cons.mpr ⟨⟨by decide, rz_nth 260 (by decide +kernel), rz_nth 220 (by decide +kernel), rz_nth 86 (by decide +kernel)⟩, List.forall_mem_cons.mpr ⟨⟨by decide, rz_nth 218 (by decide +kernel), rz_nth 220 (by decide +kernel), rz_nth 86 (by decide +kernel)⟩, List.forall_mem_cons.mpr ⟨⟨by decide, rz_nth 829 (by decide +kernel), rz_nth 830 (by decide +kernel), rz_nth 88 (by decide +kernel)⟩, List.forall_mem_cons.mpr ⟨⟨by decide, rz_nth 95 (by decide +kernel), rz_nth 96 (by decide +kernel), rz_nth 81 (by decide +kernel)⟩, fun _ h => absurd h List.not_mem_nil⟩⟩⟩⟩⟩⟩⟩⟩⟩⟩
theorem in_al_all : ∀ q ∈ in_al, Cond.classLink (rz_cn q.1) q.2.1 "RootChanges$Big" ∈ lw_tbl := List.forall_mem_cons.mpr ⟨rz_nth 260 (by decide +kernel), List.forall_mem_cons.mpr ⟨rz_nth 218 (by decide +kernel), fun _ h => absurd h List.not_mem_nil⟩⟩
theorem in_ml_all : ∀ q ∈ in_ml, Cond.classLink (rz_cn q.1) q.2.1 ("[" ++ (FieldType.array .long).toString) ∈ lw_tbl := List.forall_mem_cons.mpr ⟨rz_nth 103 (by decide +kernel), List.forall_mem_cons.mpr ⟨rz_nth 111 (by decide +kernel), fun _ h => absurd h List.not_mem_nil⟩⟩
theorem in_w_long : Cond.arrayClass .long ∈ lw_tbl := rz_nth 136 (by decide +kernel)
theorem in_w_int : Cond.arrayClass .int ∈ lw_tbl := rz_nth 137 (by decide +kernel)
theorem in_w_big : Cond.arrayOver (.object "RootChanges$Big") ∈ lw_tbl := rz_nth 219 (by decide +kernel)
theorem in_w_ll : Cond.arrayOver (.array .long) ∈ lw_tbl := rz_nth 104 (by decide +kernel)
theorem in_w_om : Cond.instanceMethod Lib.objectInit ∈ lw_tbl := rz_nth 101 (by decide +kernel)
theorem in_w_oc : Cond.code Lib.objectInit ⟨#[0xb1]⟩ 1 none ∈ lw_tbl := rz_nth 102 (by decide +kernel)
theorem in_dft : ∀ c, c < 8 → ∀ j, j < rz_nf c → defaultValue (rz_yt c j) = (match rz_ft c j with
  | 0 => .int 0
  | 1 => .long 0
  | _ => .null) := by decide +kernel
def in_rf (ad : Nat → Nat) (v : rz_V) : Option Nat := match v with
  | .inr (.inr (.inl k)) => some (ad k)
  | _ => none
abbrev in_I : Type := ClassId × ClassId × ClassId × ClassId
def in_e (ids : in_I) (ad : Nat → Nat) (q : in_C) : va_E := match q with
  | (0, n, _) => .inl (ids.1, n, .inl (fun _ => 0))
  | (1, n, _) => .inl (ids.2.1, n, .inr (.inl (fun _ => 0)))
  | (2, n, vs) => .inl (ids.2.2.1, n, .inr (.inr (.inr (.inr (fun j => in_rf ad (vs.getD j (rX 0)))))))
  | (3, n, vs) => .inl (ids.2.2.2, n, .inr (.inr (.inr (.inr (fun j => in_rf ad (vs.getD j (rX 0)))))))
  | (c + 4, _, vs) => .inr (c, vs.map (rz_cv ad))
def in_w (ids : in_I) (ad : Nat → Nat) (W : List in_C) : va_W := W.mapIdx (fun i q => (ad i, in_e ids ad q))
section RZI
variable {ids : in_I} {ad ad' : Nat → Nat} {W : List in_C} {n : Nat}
theorem in_w_at (i : Nat) : (in_w ids ad W)[i]? = (W[i]?).map (fun q => (ad i, in_e ids ad q)) := by
  unfold in_w
  rw [List.getElem?_mapIdx]
theorem in_w_get {i : Nat} {q : in_C} (h : W[i]? = some q) : (in_w ids ad W)[i]? = some (ad i, in_e ids ad q) := by
  rw [in_w_at, h]
  rfl
theorem in_w_len : (in_w ids ad W).length = W.length := by
  unfold in_w
  rw [List.length_mapIdx]
theorem in_w_set {o : Nat} {q' : in_C} : (in_w ids ad W).set o (ad o, in_e ids ad q') = in_w ids ad (W.set o q') := by
  refine List.ext_getElem? fun k => ?_
  rw [in_w_at]
  by_cases e : o = k
  · subst e
    by_cases h : o < W.length
    · rw [List.getElem?_set_self (by rw [in_w_len]; exact h), List.getElem?_set_self h]
      rfl
    · rw [List.getElem?_eq_none (by rw [List.length_set, in_w_len]; omega), List.getElem?_eq_none (by rw [List.length_set]; omega)]
      rfl
  · rw [List.getElem?_set_ne e, List.getElem?_set_ne e, in_w_at]
theorem in_w_snoc {q : in_C} : in_w ids ad (W ++ [q]) = in_w ids ad W ++ [(ad W.length, in_e ids ad q)] := by
  refine List.ext_getElem? fun k => ?_
  rw [in_w_at]
  by_cases h : k < W.length
  · rw [List.getElem?_append_left h, List.getElem?_append_left (by rw [in_w_len]; exact h), in_w_at]
  · rw [List.getElem?_append_right (by omega), List.getElem?_append_right (by rw [in_w_len]; omega), in_w_len]
    cases e : k - W.length with
    | zero => rw [show k = W.length from by omega]; rfl
    | succ j => rfl
/-- ad' goes on from ad -/
def in_ex (ad ad' : Nat → Nat) (n : Nat) : Prop := ∀ k, k < n ∨ 300 ≤ k → ad' k = ad k
theorem in_ex_rf : in_ex ad ad n := fun _ _ => rfl
theorem in_ex_tr {ad2 : Nat → Nat} {n2 : Nat} (h : in_ex ad ad' n) (h2 : in_ex ad' ad2 n2) (hn : n ≤ n2) : in_ex ad ad2 n := fun k hk => (h2 k (hk.imp_left fun q => Nat.lt_of_lt_of_le q hn)).trans (h k hk)
theorem in_cv (h : in_ex ad ad' n) {v : rz_V} (hv : in_vk n v = true) : rz_cv ad' v = rz_cv ad v := by
  rcases v with v | v | v | v
  · rfl
  · rfl
  · have hv : (Nat.blt v n || Nat.ble 300 v) = true := hv
    refine congrArg Value.ref (h v ?_)
    rcases Bool.or_eq_true_iff.mp hv with q | q
    · exact Or.inl (by simpa [Nat.blt_eq] using q)
    · exact Or.inr (Nat.le_of_ble_eq_true q)
  · rfl
theorem in_cvs (h : in_ex ad ad' n) {l : List rz_V} (hv : in_vs n l = true) : l.map (rz_cv ad') = l.map (rz_cv ad) := by
  refine List.map_congr_left fun v hm => in_cv h ?_
  unfold in_vs at hv
  exact List.all_eq_true.mp hv v hm
theorem in_rfs (h : in_ex ad ad' n) {l : List rz_V} (hv : in_vs n l = true) (j : Nat) : in_rf ad' (l.getD j (rX 0)) = in_rf ad (l.getD j (rX 0)) := by
  rw [List.getD_eq_getElem?_getD]
  cases hq : l[j]? with
  | none => rfl
  | some v =>
    unfold in_vs at hv
    have h2 := in_cv h (List.all_eq_true.mp hv v (List.mem_of_getElem? hq))
    rcases v with v | v | v | v
    · rfl
    · rfl
    · exact congrArg some (Value.ref.inj h2)
    · rfl
theorem in_ee (h : in_ex ad ad' n) {q : in_C} (hq : in_vs n q.2.2 = true) : in_e ids ad' q = in_e ids ad q := by
  obtain ⟨c, x, vs⟩ := q
  have hq : in_vs n vs = true := hq
  match c with
  | 0 => rfl
  | 1 => rfl
  | 2 => show (Sum.inl _ : va_E) = Sum.inl _; rw [show (fun j => in_rf ad' (vs.getD j (rX 0))) = (fun j => in_rf ad (vs.getD j (rX 0))) from funext (in_rfs h hq)]
  | 3 => show (Sum.inl _ : va_E) = Sum.inl _; rw [show (fun j => in_rf ad' (vs.getD j (rX 0))) = (fun j => in_rf ad (vs.getD j (rX 0))) from funext (in_rfs h hq)]
  | c + 4 => show (Sum.inr (c, vs.map (rz_cv ad')) : va_E) = Sum.inr (c, vs.map (rz_cv ad)); rw [in_cvs h hq]
theorem in_we (h : in_ex ad ad' W.length) (hq : W.all (fun q => in_vs W.length q.2.2) = true) : in_w ids ad' W = in_w ids ad W := by
  refine List.ext_getElem? fun k => ?_
  rw [in_w_at, in_w_at]
  cases e : W[k]? with
  | none => rfl
  | some q =>
    have h1 := (List.getElem?_eq_some_iff.mp e).1
    have h2 := List.all_eq_true.mp hq q (List.mem_of_getElem? e)
    show some (ad' k, in_e ids ad' q) = some (ad k, in_e ids ad q)
    rw [h k (Or.inl h1), in_ee h h2]
theorem in_Lr {c : Code} {la : Array Slot} {ls : List rz_V} (h : in_ex ad ad' n) (hv : in_vs n ls = true) (hL : rz_Lr ad c ls la) : rz_Lr ad' c ls la := by
  refine ⟨hL.1, hL.2.1, hL.2.2.1, fun k v hk hn => ?_⟩
  unfold in_vs at hv
  rw [in_cv h (List.all_eq_true.mp hv v (List.mem_of_getElem? hk))]
  exact hL.2.2.2 k v hk hn
end RZI
