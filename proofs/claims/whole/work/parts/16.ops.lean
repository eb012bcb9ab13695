/-! each instruction's meaning, held against the JVM's: locals, stack, numbers, branches -/
def rz_nx (v : rz_V) : Bool := match v with
  | .inr (.inr (.inr _)) => false
  | _ => true
def rz_Lr (ad : Nat → Nat) (c : Code) (ls : List rz_V) (la : Array Slot) : Prop := c.maxLocals = la.size ∧ ls.length = la.size ∧ lv_wf la ∧ ∀ (k : Nat) (v : rz_V), ls[k]? = some v → rz_nx v = true → la[k]? = some (.val (rz_cv ad v)) ∧ rz_ok v
theorem s1_len : ∀ (ls : List rz_V) (i : Nat) (v : rz_V), (rz_s1 ls i v).length = ls.length
  | [], i, v => by cases i <;> rfl
  | _ :: _, 0, v => rfl
  | a :: r, i + 1, v => by simp [rz_s1, s1_len r i v]
theorem s1_get : ∀ (ls : List rz_V) (i : Nat) (v : rz_V) (k : Nat), (rz_s1 ls i v)[k]? = if k = i then (ls[k]?).map (fun _ => v) else if k + 1 = i then (ls[k]?).map rz_dl else ls[k]?
  | [], i, v, k => by cases i <;> simp [rz_s1]
  | a :: r, 0, v, k => by
    cases k with
    | zero => simp [rz_s1]
    | succ k => simp [rz_s1]
  | a :: r, i + 1, v, k => by
    cases k with
    | zero => cases i <;> simp [rz_s1]
    | succ k =>
      have h := s1_get r i v k
      simp only [rz_s1, List.getElem?_cons_succ, h, Nat.add_right_cancel_iff]
theorem s2_len : ∀ (ls : List rz_V) (i : Nat) (v : rz_V), (rz_s2 ls i v).length = ls.length
  | [], i, v => by cases i <;> rfl
  | [_], 0, v => rfl
  | _ :: _ :: _, 0, v => rfl
  | [a], i + 1, v => by simp [rz_s2, s2_len [] i v]
  | a :: b :: r, i + 1, v => by simp [rz_s2, s2_len (b :: r) i v]
theorem s2_get : ∀ (ls : List rz_V) (i : Nat) (v : rz_V) (k : Nat), i + 1 < ls.length → (rz_s2 ls i v)[k]? = if k = i then some v else if k = i + 1 then some (rX 1) else if k + 1 = i then (ls[k]?).map rz_dl else ls[k]?
  | [], i, v, k, h => absurd h (Nat.not_lt_zero _)
  | [_], 0, v, k, h => absurd h (by simp)
  | a :: b :: r, 0, v, k, h => by
    cases k with
    | zero => simp [rz_s2]
    | succ k =>
      cases k with
      | zero => simp [rz_s2]
      | succ k => simp [rz_s2]
  | [a], i + 1, v, k, h => absurd h (by simp)
  | a :: b :: r, i + 1, v, k, h => by
    cases k with
    | zero => cases i <;> simp [rz_s2]
    | succ k =>
      have h := s2_get (b :: r) i v k (by simpa using h)
      simp only [rz_s2, List.getElem?_cons_succ, h, Nat.add_right_cancel_iff]
theorem cv_cat {ad : Nat → Nat} {v : rz_V} : (rz_cv ad v).category = rz_cat v := by
  rcases v with v | v | v | v <;> rfl
theorem dl_key {v u : rz_V} (h : rz_dl v = u) (hu : rz_nx u = true) : v = u ∧ ¬ rz_cat u = 2 := by
  subst h
  rcases v with v | v | v | v
  · exact ⟨rfl, fun q => absurd (show (1 : Nat) = 2 from q) (by decide)⟩
  · exact absurd (show false = true from hu) (by decide)
  · exact ⟨rfl, fun q => absurd (show (1 : Nat) = 2 from q) (by decide)⟩
  · exact absurd (show false = true from hu) (by decide)
/-- the locals that are known -/
def rz_kn (ad : Nat → Nat) (ls : List rz_V) : List (Nat × Value) := (List.range ls.length).filterMap (fun k => match ls[k]? with
  | some v => if rz_nx v = true then some (k, rz_cv ad v) else none
  | none => none)
theorem kn_mem {ad : Nat → Nat} {ls : List rz_V} {q : Nat × Value} : q ∈ rz_kn ad ls ↔ ∃ v, ls[q.1]? = some v ∧ rz_nx v = true ∧ q.2 = rz_cv ad v := by
  unfold rz_kn
  rw [List.mem_filterMap]
  constructor
  · rintro ⟨k, hk, h⟩
    split at h
    · next v hv =>
      split at h
      · next hn =>
        cases h
        exact ⟨v, hv, hn, rfl⟩
      · cases h
    · cases h
  · rintro ⟨v, h1, h2, h3⟩
    refine ⟨q.1, List.mem_range.mpr (List.getElem?_eq_some_iff.mp h1).1, ?_⟩
    rw [h1]
    simp only [h2, if_true]
    rw [← h3]
theorem Lr_has {ad : Nat → Nat} {c : Code} {ls : List rz_V} {la : Array Slot} (h : rz_Lr ad c ls la) : lv_has la la.size (rz_kn ad ls) := by
  refine ⟨rfl, h.2.2.1, fun q hq => ?_⟩
  obtain ⟨v, h1, h2, h3⟩ := kn_mem.mp hq
  rw [h3]
  exact (h.2.2.2 _ _ h1 h2).1
theorem Lr_s1 {ad : Nat → Nat} {c : Code} {ls : List rz_V} {la la' : Array Slot} (h : rz_Lr ad c ls la) {i : Nat} {v : rz_V} (hv : rz_ok v) (hi : i < ls.length)
    (h' : lv_has la' la.size ((i, rz_cv ad v) :: (rz_kn ad ls).filter (fun q => !(q.1 == i) && !(q.1 + 1 == i && q.2.category == 2)))) : rz_Lr ad c (rz_s1 ls i v) la' := by
  obtain ⟨g1, g2, g3⟩ := h'
  refine ⟨by rw [h.1, g1], by rw [s1_len, h.2.1, g1], g2, fun k u hk hu => ?_⟩
  rw [s1_get] at hk
  split at hk
  · next e =>
    subst e
    rw [List.getElem?_eq_getElem hi] at hk
    cases hk
    exact ⟨g3 _ List.mem_cons_self, hv⟩
  · next e =>
    have key : ls[k]? = some u ∧ ¬ (k + 1 = i ∧ rz_cat u = 2) := by
      split at hk
      · next e2 =>
        cases hq : ls[k]? with
        | none => rw [hq] at hk; cases hk
        | some w =>
          rw [hq] at hk
          have d := dl_key (Option.some.inj hk) hu
          exact ⟨congrArg some d.1, fun q => d.2 q.2⟩
      · next e2 => exact ⟨hk, fun q => e2 q.1⟩
    have h1 := h.2.2.2 k u key.1 hu
    refine ⟨g3 (k, rz_cv ad u) (List.mem_cons_of_mem _ (List.mem_filter.mpr ⟨kn_mem.mpr ⟨u, key.1, hu, rfl⟩, ?_⟩)), h1.2⟩
    simp only [Bool.and_eq_true, Bool.not_eq_true', beq_eq_false_iff_ne, ne_eq, e, not_false_eq_true, true_and, Bool.and_eq_false_imp, beq_iff_eq, cv_cat]
    intro q q2
    exact key.2 ⟨q, q2⟩
theorem Lr_s2 {ad : Nat → Nat} {c : Code} {ls : List rz_V} {la la' : Array Slot} (h : rz_Lr ad c ls la) {i : Nat} {v : rz_V} (hv : rz_ok v) (hi : i + 1 < ls.length)
    (h' : lv_has la' la.size ((i, rz_cv ad v) :: (rz_kn ad ls).filter (fun q => !(q.1 == i) && (!(q.1 == i + 1) && !(q.1 + 1 == i && q.2.category == 2))))) : rz_Lr ad c (rz_s2 ls i v) la' := by
  obtain ⟨g1, g2, g3⟩ := h'
  refine ⟨by rw [h.1, g1], by rw [s2_len, h.2.1, g1], g2, fun k u hk hu => ?_⟩
  rw [s2_get _ _ _ _ hi] at hk
  split at hk
  · next e =>
    subst e
    cases hk
    exact ⟨g3 _ List.mem_cons_self, hv⟩
  · next e =>
    split at hk
    · cases hk
      exact absurd hu (by decide)
    · next e3 =>
      have key : ls[k]? = some u ∧ ¬ (k + 1 = i ∧ rz_cat u = 2) := by
        split at hk
        · next e2 =>
          cases hq : ls[k]? with
          | none => rw [hq] at hk; cases hk
          | some w =>
            rw [hq] at hk
            have d := dl_key (Option.some.inj hk) hu
            exact ⟨congrArg some d.1, fun q => d.2 q.2⟩
        · next e2 => exact ⟨hk, fun q => e2 q.1⟩
      have h1 := h.2.2.2 k u key.1 hu
      refine ⟨g3 (k, rz_cv ad u) (List.mem_cons_of_mem _ (List.mem_filter.mpr ⟨kn_mem.mpr ⟨u, key.1, hu, rfl⟩, ?_⟩)), h1.2⟩
      simp only [Bool.and_eq_true, Bool.not_eq_true', beq_eq_false_iff_ne, ne_eq, e, e3, not_false_eq_true, true_and, Bool.and_eq_false_imp, beq_iff_eq, cv_cat]
      intro q q2
      exact key.2 ⟨q, q2⟩
theorem Lr_inc {ad : Nat → Nat} {c : Code} {ls : List rz_V} {la la' : Array Slot} (h : rz_Lr ad c ls la) {i : Nat} {z z' : Int} (hz : ls[i]? = some (rI z)) (hv : R32 z')
    (h' : lv_has la' la.size ((i, rz_cv ad (rI z')) :: (rz_kn ad ls).filter (fun q => !(q.1 == i) && !(q.1 + 1 == i && q.2.category == 2)))) : rz_Lr ad c (ls.set i (rI z')) la' := by
  obtain ⟨g1, g2, g3⟩ := h'
  refine ⟨by rw [h.1, g1], by rw [List.length_set, h.2.1, g1], g2, fun k u hk hu => ?_⟩
  by_cases e : i = k
  · subst e
    rw [List.getElem?_set_self (List.getElem?_eq_some_iff.mp hz).1] at hk
    cases hk
    exact ⟨g3 _ List.mem_cons_self, hv⟩
  · rw [List.getElem?_set_ne e] at hk
    have h1 := h.2.2.2 k u hk hu
    refine ⟨g3 (k, rz_cv ad u) (List.mem_cons_of_mem _ (List.mem_filter.mpr ⟨kn_mem.mpr ⟨u, hk, hu, rfl⟩, ?_⟩)), h1.2⟩
    have e' : ¬ k = i := fun q => e q.symm
    simp only [Bool.and_eq_true, Bool.not_eq_true', beq_eq_false_iff_ne, ne_eq, e', not_false_eq_true, true_and, Bool.and_eq_false_imp, beq_iff_eq]
    intro q q2
    have a1 := h.2.2.1.1 k _ h1.1 q2
    rw [q, (h.2.2.2 i _ hz rfl).1] at a1
    cases a1
abbrev rz_Wt : Type := ((Nat → ClassId) × (Nat → Nat → Nat)) × (Nat → Nat) × (ClassId × ClassId × ClassId × ClassId) × (Nat → Prop) × (Nat × Nat × (Nat → Int32))
def wWs (w : rz_Wt) (M : rz_M) : va_W := rz_ws w.2.2.1.1 w.2.2.1.2.1 w.2.2.1.2.2.1 w.2.2.1.2.2.2 w.2.1 M
def wTy (w : rz_Wt) : List (ClassId × FieldType) := rz_ty w.2.2.1.1 w.2.2.1.2.1 w.2.2.1.2.2.1 w.2.2.1.2.2.2
/-- the world at a heap -/
def rz_Wd (w : rz_Wt) (H0 H : Heap) (locs : List Loc) (M : rz_M) : Prop := va_P w.1 rz_cls (wWs w M) H ∧ va_D w.2.2.2.1 (wWs w M) ∧ va_S w.2.2.2.1 H0 H locs ∧ rz_mo M ∧ M 400 (-1) = w.2.2.2.2.2.1 ∧ w.2.2.2.2.2.1 < 2 ^ 31 ∧ ∀ j : Nat, j < w.2.2.2.2.2.1 → M 400 j = (w.2.2.2.2.2.2 j).toInt
section RZO
variable {w : rz_Wt} {p : Program} {l : Launch} {e : Env} {R : Room} {s : State} {m : MethodId} {args : Array Value} {below : List Frame} {meth : Method} {c : Code} {H : Heap} {locs : List Loc} {cells slots : Nat} {QW : State → Prop}
variable {cc : ByteArray} {pc n t : Nat} {ls st : List rz_V} {la : Array Slot} {M : rz_M} {P : Nat → List rz_V → List rz_V → rz_M → Prop}
def rz_K (w : rz_Wt) (p : Program) (l : Launch) (e : Env) (R : Room) (s : State) (m : MethodId) (args : Array Value) (below : List Frame) (meth : Method) (c : Code) (cells slots : Nat) (QW : State → Prop) (P : Nat → List rz_V → List rz_V → rz_M → Prop) : Prop :=
  ∀ (pc : Nat) (ls st : List rz_V) (M : rz_M) (H : Heap) (locs : List Loc) (la : Array Slot), rz_Wd w s.heap H locs M → rz_Lr w.2.1 c ls la → (∀ v ∈ st, rz_ok v) → P pc ls st M →
    W p l e R s m args below meth c H locs cells slots QW (F0 m pc la (st.map (rz_cv w.2.1)))
variable (K : rz_K w p l e R s m args below meth c cells slots QW P) (hW : rz_Wd w s.heap H locs M) (hL : rz_Lr w.2.1 c ls la) (hS : ∀ v ∈ st, rz_ok v)
theorem so_push (K : rz_K w p l e R s m args below meth c cells slots QW P) (hW : rz_Wd w s.heap H locs M) (hL : rz_Lr w.2.1 c ls la) (hS : ∀ v ∈ st, rz_ok v) {v : rz_V} (hv : rz_ok v) {x : Value} (hx : rz_cv w.2.1 v = x) (h : P n ls (v :: st) M) : W p l e R s m args below meth c H locs cells slots QW (F0 m n la (x :: st.map (rz_cv w.2.1))) := by
  subst hx
  exact K n ls (v :: st) M H locs la hW hL (List.forall_mem_cons.mpr ⟨hv, hS⟩) h
theorem so_b32 (K : rz_K w p l e R s m args below meth c cells slots QW P) (hW : rz_Wd w s.heap H locs M) (hL : rz_Lr w.2.1 c ls la) (hS : ∀ v ∈ st, rz_ok v) {f : Int → Int → Int} (g : Int32 → Int32 → Int32) (hf : ∀ a b, R32 a → R32 b → R32 (f a b) ∧ Int32.ofInt (f a b) = g (Int32.ofInt a) (Int32.ofInt b))
    (row : ∀ (x y : Int32) (rest : List Value), W p l e R s m args below meth c H locs cells slots QW (F0 m n la (.int (g x y) :: rest)) → W p l e R s m args below meth c H locs cells slots QW (F0 m pc la (.int y :: .int x :: rest)))
    (h : rz_b32 n ls st M P f) : W p l e R s m args below meth c H locs cells slots QW (F0 m pc la (st.map (rz_cv w.2.1))) := by
  unfold rz_b32 at h
  split at h
  · next b a r =>
    obtain ⟨hb', h2⟩ := List.forall_mem_cons.mp hS
    obtain ⟨ha', hr⟩ := List.forall_mem_cons.mp h2
    exact row _ _ _ (so_push K hW hL hr (v := rI (f a b)) (hf a b ha' hb').1 (congrArg Value.int (hf a b ha' hb').2) h)
  · exact h.elim
theorem so_b64 (K : rz_K w p l e R s m args below meth c cells slots QW P) (hW : rz_Wd w s.heap H locs M) (hL : rz_Lr w.2.1 c ls la) (hS : ∀ v ∈ st, rz_ok v) {f : Int → Int → Int} (g : Int64 → Int64 → Int64) (hf : ∀ a b, R64 a → R64 b → R64 (f a b) ∧ Int64.ofInt (f a b) = g (Int64.ofInt a) (Int64.ofInt b))
    (row : ∀ (x y : Int64) (rest : List Value), W p l e R s m args below meth c H locs cells slots QW (F0 m n la (.long (g x y) :: rest)) → W p l e R s m args below meth c H locs cells slots QW (F0 m pc la (.long y :: .long x :: rest)))
    (h : rz_b64 n ls st M P f) : W p l e R s m args below meth c H locs cells slots QW (F0 m pc la (st.map (rz_cv w.2.1))) := by
  unfold rz_b64 at h
  split at h
  · next b a r =>
    obtain ⟨hb', h2⟩ := List.forall_mem_cons.mp hS
    obtain ⟨ha', hr⟩ := List.forall_mem_cons.mp h2
    exact row _ _ _ (so_push K hW hL hr (v := rL (f a b)) (hf a b ha' hb').1 (congrArg Value.long (hf a b ha' hb').2) h)
  · exact h.elim
theorem of32_ne0 {b : Int} (h : R32 b) (h0 : b ≠ 0) : ¬ Int32.ofInt b = 0 := fun q => h0 (by
  have := congrArg Int32.toInt q
  rwa [to32_of h] at this)
theorem of64_ne0 {b : Int} (h : R64 b) (h0 : b ≠ 0) : ¬ Int64.ofInt b = 0 := fun q => h0 (by
  have := congrArg Int64.toInt q
  rwa [to64_of h] at this)
theorem so_d32 (K : rz_K w p l e R s m args below meth c cells slots QW P) (hW : rz_Wd w s.heap H locs M) (hL : rz_Lr w.2.1 c ls la) (hS : ∀ v ∈ st, rz_ok v) {f : Int → Int → Int} (g : Int32 → Int32 → Int32) (hf : ∀ a b, R32 a → R32 b → b ≠ 0 → R32 (f a b) ∧ Int32.ofInt (f a b) = g (Int32.ofInt a) (Int32.ofInt b))
    (row : ∀ (x y : Int32) (rest : List Value), ¬ y = 0 → W p l e R s m args below meth c H locs cells slots QW (F0 m n la (.int (g x y) :: rest)) → W p l e R s m args below meth c H locs cells slots QW (F0 m pc la (.int y :: .int x :: rest)))
    (h : rz_d32 n ls st M P f) : W p l e R s m args below meth c H locs cells slots QW (F0 m pc la (st.map (rz_cv w.2.1))) := by
  unfold rz_d32 at h
  split at h
  · next b a r =>
    obtain ⟨hb', h2⟩ := List.forall_mem_cons.mp hS
    obtain ⟨ha', hr⟩ := List.forall_mem_cons.mp h2
    exact row _ _ _ (of32_ne0 hb' h.1) (so_push K hW hL hr (v := rI (f a b)) (hf a b ha' hb' h.1).1 (congrArg Value.int (hf a b ha' hb' h.1).2) h.2)
  · exact h.elim
theorem so_d64 (K : rz_K w p l e R s m args below meth c cells slots QW P) (hW : rz_Wd w s.heap H locs M) (hL : rz_Lr w.2.1 c ls la) (hS : ∀ v ∈ st, rz_ok v) {f : Int → Int → Int} (g : Int64 → Int64 → Int64) (hf : ∀ a b, R64 a → R64 b → b ≠ 0 → R64 (f a b) ∧ Int64.ofInt (f a b) = g (Int64.ofInt a) (Int64.ofInt b))
    (row : ∀ (x y : Int64) (rest : List Value), ¬ y = 0 → W p l e R s m args below meth c H locs cells slots QW (F0 m n la (.long (g x y) :: rest)) → W p l e R s m args below meth c H locs cells slots QW (F0 m pc la (.long y :: .long x :: rest)))
    (h : rz_d64 n ls st M P f) : W p l e R s m args below meth c H locs cells slots QW (F0 m pc la (st.map (rz_cv w.2.1))) := by
  unfold rz_d64 at h
  split at h
  · next b a r =>
    obtain ⟨hb', h2⟩ := List.forall_mem_cons.mp hS
    obtain ⟨ha', hr⟩ := List.forall_mem_cons.mp h2
    exact row _ _ _ (of64_ne0 hb' h.1) (so_push K hW hL hr (v := rL (f a b)) (hf a b ha' hb' h.1).1 (congrArg Value.long (hf a b ha' hb' h.1).2) h.2)
  · exact h.elim
theorem so_h64 (K : rz_K w p l e R s m args below meth c cells slots QW P) (hW : rz_Wd w s.heap H locs M) (hL : rz_Lr w.2.1 c ls la) (hS : ∀ v ∈ st, rz_ok v) {f : Int → Int → Int} (g : Int64 → Int32 → Int64) (hf : ∀ a b, R64 a → R32 b → R64 (f a b) ∧ Int64.ofInt (f a b) = g (Int64.ofInt a) (Int32.ofInt b))
    (row : ∀ (x : Int64) (y : Int32) (rest : List Value), W p l e R s m args below meth c H locs cells slots QW (F0 m n la (.long (g x y) :: rest)) → W p l e R s m args below meth c H locs cells slots QW (F0 m pc la (.int y :: .long x :: rest)))
    (h : rz_h64 n ls st M P f) : W p l e R s m args below meth c H locs cells slots QW (F0 m pc la (st.map (rz_cv w.2.1))) := by
  unfold rz_h64 at h
  split at h
  · next b a r =>
    obtain ⟨hb', h2⟩ := List.forall_mem_cons.mp hS
    obtain ⟨ha', hr⟩ := List.forall_mem_cons.mp h2
    exact row _ _ _ (so_push K hW hL hr (v := rL (f a b)) (hf a b ha' hb').1 (congrArg Value.long (hf a b ha' hb').2) h)
  · exact h.elim
theorem Lr_ld (hL : rz_Lr w.2.1 c ls la) {k : Nat} {v : rz_V} (h : ls.getD k (rX 0) = v) (hn : rz_nx v = true) : la[k]? = some (.val (rz_cv w.2.1 v)) ∧ rz_ok v := by
  have h2 : ls[k]? = some v := by
    rw [List.getD_eq_getElem?_getD] at h
    cases hq : ls[k]? with
    | none => rw [hq] at h; subst h; exact absurd hn (by decide)
    | some u => rw [hq] at h; exact congrArg some h
  exact hL.2.2.2 k v h2 hn
theorem so_ldi (K : rz_K w p l e R s m args below meth c cells slots QW P) (hW : rz_Wd w s.heap H locs M) (hL : rz_Lr w.2.1 c ls la) (hS : ∀ v ∈ st, rz_ok v) {k : Nat}
    (row : ∀ (x : Int32) (rest : List Value), la[k]? = some (.val (.int x)) → W p l e R s m args below meth c H locs cells slots QW (F0 m n la (.int x :: rest)) → W p l e R s m args below meth c H locs cells slots QW (F0 m pc la rest))
    (h : rz_ldi n ls st M P k) : W p l e R s m args below meth c H locs cells slots QW (F0 m pc la (st.map (rz_cv w.2.1))) := by
  unfold rz_ldi at h
  split at h
  · next z hz =>
    obtain ⟨h1, h2⟩ := Lr_ld hL hz rfl
    exact row _ _ h1 (so_push K hW hL hS (v := rI z) h2 rfl h)
  · exact h.elim
theorem so_ldl (K : rz_K w p l e R s m args below meth c cells slots QW P) (hW : rz_Wd w s.heap H locs M) (hL : rz_Lr w.2.1 c ls la) (hS : ∀ v ∈ st, rz_ok v) {k : Nat}
    (row : ∀ (x : Int64) (rest : List Value), la[k]? = some (.val (.long x)) → W p l e R s m args below meth c H locs cells slots QW (F0 m n la (.long x :: rest)) → W p l e R s m args below meth c H locs cells slots QW (F0 m pc la rest))
    (h : rz_ldl n ls st M P k) : W p l e R s m args below meth c H locs cells slots QW (F0 m pc la (st.map (rz_cv w.2.1))) := by
  unfold rz_ldl at h
  split at h
  · next z hz =>
    obtain ⟨h1, h2⟩ := Lr_ld hL hz rfl
    exact row _ _ h1 (so_push K hW hL hS (v := rL z) h2 rfl h)
  · exact h.elim
theorem so_lda (K : rz_K w p l e R s m args below meth c cells slots QW P) (hW : rz_Wd w s.heap H locs M) (hL : rz_Lr w.2.1 c ls la) (hS : ∀ v ∈ st, rz_ok v) {k : Nat}
    (row : ∀ (x : Nat) (rest : List Value), la[k]? = some (.val (.ref x)) → W p l e R s m args below meth c H locs cells slots QW (F0 m n la (.ref x :: rest)) → W p l e R s m args below meth c H locs cells slots QW (F0 m pc la rest))
    (h : rz_lda n ls st M P k) : W p l e R s m args below meth c H locs cells slots QW (F0 m pc la (st.map (rz_cv w.2.1))) := by
  unfold rz_lda at h
  split at h
  · next z hz =>
    obtain ⟨h1, h2⟩ := Lr_ld hL hz rfl
    exact row _ _ h1 (so_push K hW hL hS (v := rR z) h2 rfl h)
  · exact h.elim
theorem so_sti (K : rz_K w p l e R s m args below meth c cells slots QW P) (hW : rz_Wd w s.heap H locs M) (hL : rz_Lr w.2.1 c ls la) (hS : ∀ v ∈ st, rz_ok v) {k : Nat}
    (row : ∀ (x : Int32) (rest : List Value) (lv lv' : List (Nat × Value)), lv_has la la.size lv → k < la.size → (k, Value.int x) :: lv.filter (fun q => !(q.1 == k) && !(q.1 + 1 == k && q.2.category == 2)) = lv' → (∀ ls' : Array Slot, lv_has ls' la.size lv' → W p l e R s m args below meth c H locs cells slots QW (F0 m n ls' rest)) → W p l e R s m args below meth c H locs cells slots QW (F0 m pc la (.int x :: rest)))
    (h : rz_sti n ls st M P k) : W p l e R s m args below meth c H locs cells slots QW (F0 m pc la (st.map (rz_cv w.2.1))) := by
  unfold rz_sti at h
  split at h
  · next z r =>
    obtain ⟨hz, hr⟩ := List.forall_mem_cons.mp hS
    cases hk : Nat.blt k ls.length with
    | false => rw [hk] at h; exact h.elim
    | true =>
      rw [hk] at h
      have hk : k < ls.length := by simpa [Nat.blt_eq] using hk
      exact row _ _ _ _ (Lr_has hL) (by rw [← hL.2.1]; exact hk) rfl (fun la' h' => K _ _ _ _ _ _ _ hW (Lr_s1 hL (v := rI z) hz hk h') hr h)
  · exact h.elim
theorem so_stl (K : rz_K w p l e R s m args below meth c cells slots QW P) (hW : rz_Wd w s.heap H locs M) (hL : rz_Lr w.2.1 c ls la) (hS : ∀ v ∈ st, rz_ok v) {k : Nat}
    (row : ∀ (x : Int64) (rest : List Value) (lv lv' : List (Nat × Value)), lv_has la la.size lv → k + 1 < la.size → (k, Value.long x) :: lv.filter (fun q => !(q.1 == k) && (!(q.1 == k + 1) && !(q.1 + 1 == k && q.2.category == 2))) = lv' → (∀ ls' : Array Slot, lv_has ls' la.size lv' → W p l e R s m args below meth c H locs cells slots QW (F0 m n ls' rest)) → W p l e R s m args below meth c H locs cells slots QW (F0 m pc la (.long x :: rest)))
    (h : rz_stl n ls st M P k) : W p l e R s m args below meth c H locs cells slots QW (F0 m pc la (st.map (rz_cv w.2.1))) := by
  unfold rz_stl at h
  split at h
  · next z r =>
    obtain ⟨hz, hr⟩ := List.forall_mem_cons.mp hS
    cases hk : Nat.blt (k + 1) ls.length with
    | false => rw [hk] at h; exact h.elim
    | true =>
      rw [hk] at h
      have hk : k + 1 < ls.length := by simpa [Nat.blt_eq] using hk
      exact row _ _ _ _ (Lr_has hL) (by rw [← hL.2.1]; exact hk) rfl (fun la' h' => K _ _ _ _ _ _ _ hW (Lr_s2 hL (v := rL z) hz hk h') hr h)
  · exact h.elim
theorem so_sta (K : rz_K w p l e R s m args below meth c cells slots QW P) (hW : rz_Wd w s.heap H locs M) (hL : rz_Lr w.2.1 c ls la) (hS : ∀ v ∈ st, rz_ok v) {k : Nat}
    (row : ∀ (x : Nat) (rest : List Value) (lv lv' : List (Nat × Value)), lv_has la la.size lv → k < la.size → (k, Value.ref x) :: lv.filter (fun q => !(q.1 == k) && !(q.1 + 1 == k && q.2.category == 2)) = lv' → (∀ ls' : Array Slot, lv_has ls' la.size lv' → W p l e R s m args below meth c H locs cells slots QW (F0 m n ls' rest)) → W p l e R s m args below meth c H locs cells slots QW (F0 m pc la (.ref x :: rest)))
    (h : rz_sta n ls st M P k) : W p l e R s m args below meth c H locs cells slots QW (F0 m pc la (st.map (rz_cv w.2.1))) := by
  unfold rz_sta at h
  split at h
  · next z r =>
    obtain ⟨hz, hr⟩ := List.forall_mem_cons.mp hS
    cases hk : Nat.blt k ls.length with
    | false => rw [hk] at h; exact h.elim
    | true =>
      rw [hk] at h
      have hk : k < ls.length := by simpa [Nat.blt_eq] using hk
      exact row _ _ _ _ (Lr_has hL) (by rw [← hL.2.1]; exact hk) rfl (fun la' h' => K _ _ _ _ _ _ _ hW (Lr_s1 hL (v := rR z) hz hk h') hr h)
  · exact h.elim
end RZO
