/-! the constructors' machine is right: one step -/
theorem in_bif {b : Bool} {o : Option in_T} {T : in_T} (h : (bif b then o else none) = some T) : b = true ∧ o = some T := by
  cases b with
  | false => cases h
  | true => exact ⟨rfl, h⟩
theorem in_bf {b : Bool} {o : Option in_T} {T : in_T} (h : (bif b then none else o) = some T) : b = false ∧ o = some T := by
  cases b with
  | false => exact ⟨rfl, h⟩
  | true => cases h
def in_Ty (ids : in_I) : List (ClassId × FieldType) := rz_ty ids.1 ids.2.1 ids.2.2.1 ids.2.2.2
/-- what stays from before -/
def in_Ol (D : va_G) (ids : in_I) (A : Nat → Prop) (s : State) : Prop := va_K D rz_cls (in_Ty ids) s ∧ (∀ q, s.heap.size ≤ q → A q) ∧ (∀ (a : String) (i : Nat) (x : MethodName) (h : String), Cond.methodLinkNest a i x h ∈ lw_tbl → va_Nw (.methodLinkNest a i x h) s) ∧ va_AO "RootChanges$Big" s ∧ (Cond.arrayOver (.array .long)).before #[] s = true
def in_X (D : va_G) (ids : in_I) (A : Nat → Prop) (y : Nat) (p : Program) (R : Room) (s : State) (m : MethodId) (args : Array Value) (meth : Method) (c : Code) : Prop :=
  p.tables.exec = Jvm.exec ∧ c.code = rz_mB y ∧ s.vm.findClass (rz_cn (rz_mi y).1) = some m.cls ∧ (∀ q ∈ rz_tb, q.before args s = true) ∧ ((in_rm y).1 ≤ R.frames ∧ (in_rm y).2.1 ≤ R.cells ∧ (in_rm y).2.2.1 ≤ R.slots ∧ (in_rm y).2.2.2 ≤ R.locals) ∧ y < 213 ∧ (y < 212 → meth.name = "<init>") ∧ in_Ol D ids A s
def in_St (D : va_G) (ids : in_I) (A : Nat → Prop) (H0 H : Heap) (locs : List Loc) (ad : Nat → Nat) (c : Code) (la : Array Slot) (T : in_T) : Prop :=
  va_P D rz_cls (in_w ids ad T.2.2.2.1) H ∧ va_D A (in_w ids ad T.2.2.2.1) ∧ va_S A H0 H locs ∧ rz_Lr ad c T.2.1 la ∧ ∀ v ∈ T.2.2.1, rz_ok v
/-- the run goes on from T -/
def in_K (D : va_G) (ids : in_I) (A : Nat → Prop) (p : Program) (l : Launch) (e : Env) (R : Room) (s : State) (m : MethodId) (args : Array Value) (below : List Frame) (meth : Method) (c : Code) (QW : State → Prop) (ad : Nat → Nat) (n : Nat) (T : in_T) : Prop :=
  ∀ (ad' : Nat → Nat) (H : Heap) (locs : List Loc) (la : Array Slot), n ≤ T.2.2.2.1.length → in_ex ad ad' n → in_St D ids A s.heap H locs ad' c la T →
    W p l e R s m args below meth c H locs T.2.2.2.2.1 T.2.2.2.2.2 QW (F0 m T.1 la (T.2.2.1.map (rz_cv ad')))
section RZJ
variable {D : va_G} {ids : in_I} {A : Nat → Prop} {p : Program} {l : Launch} {e : Env} {R : Room} {s : State} {m : MethodId} {args : Array Value} {below : List Frame} {meth : Method} {c : Code} {QW : State → Prop}
variable {y pc n k d : Nat} {ls st : List rz_V} {Wl : List in_C} {la : Array Slot} {H : Heap} {locs : List Loc} {ad : Nat → Nat} {T : in_T}
theorem io_psh {v : rz_V} {x : Value} (K : in_K D ids A p l e R s m args below meth c QW ad Wl.length (pc, ls, v :: st, Wl, k, n)) (hP : va_P D rz_cls (in_w ids ad Wl) H) (hD : va_D A (in_w ids ad Wl)) (hSS : va_S A s.heap H locs) (hL : rz_Lr ad c ls la) (hS : ∀ v ∈ st, rz_ok v) (hv : rz_ok v) (hx : rz_cv ad v = x) :
    W p l e R s m args below meth c H locs k n QW (F0 m pc la (x :: st.map (rz_cv ad))) := by
  subst hx
  exact K ad H locs la (Nat.le_refl _) in_ex_rf ⟨hP, hD, hSS, hL, List.forall_mem_cons.mpr ⟨hv, hS⟩⟩
theorem io_mkr {q : in_C} (h : in_mk y pc ls st Wl k n q d = some T) : k + 1 ≤ (in_rm y).2.1 ∧ n + d ≤ (in_rm y).2.2.1 := by
  unfold in_mk at h
  obtain ⟨hc, -⟩ := in_bif h
  simp only [Bool.and_eq_true] at hc
  exact ⟨Nat.le_of_ble_eq_true hc.2.2.2.1, Nat.le_of_ble_eq_true hc.2.2.2.2⟩
theorem io_mk {q : in_C} {a0 : Nat} (h : in_mk y pc ls st Wl k n q d = some T) (K : in_K D ids A p l e R s m args below meth c QW ad Wl.length T) (hP : va_P D rz_cls (in_w ids ad Wl ++ [(a0, in_e ids ad q)]) H) (hD : va_D A (in_w ids ad Wl ++ [(a0, in_e ids ad q)])) (hSS : va_S A s.heap H locs) (hL : rz_Lr ad c ls la) (hS : ∀ v ∈ st, rz_ok v) :
    W p l e R s m args below meth c H locs (k + 1) (n + d) QW (F0 m pc la (.ref a0 :: st.map (rz_cv ad))) := by
  unfold in_mk at h
  obtain ⟨hc, h⟩ := in_bif h
  cases h
  unfold in_ok at hc
  simp only [Bool.and_eq_true] at hc
  obtain ⟨⟨h1, h2, h3⟩, h4, h5, -, -⟩ := hc
  have h5 : Wl.length < 260 := by simpa [Nat.blt_eq] using h5
  obtain ⟨ad', had⟩ : ∃ f : Nat → Nat, f = fun j => if j = Wl.length then a0 else ad j := ⟨_, rfl⟩
  have hex : in_ex ad ad' Wl.length := fun j hj => by
    rw [had]
    exact if_neg (by omega)
  have h0 : ad' Wl.length = a0 := by rw [had]; exact if_pos rfl
  have hw : in_w ids ad' (Wl ++ [q]) = in_w ids ad Wl ++ [(a0, in_e ids ad q)] := by rw [in_w_snoc, h0, in_we hex h3, in_ee hex h4]
  have g := K ad' H locs la (by simp) hex ⟨by show va_P D rz_cls (in_w ids ad' (Wl ++ [q])) H; rw [hw]; exact hP, by show va_D A (in_w ids ad' (Wl ++ [q])); rw [hw]; exact hD, hSS, in_Lr hex h1 hL, List.forall_mem_cons.mpr ⟨trivial, hS⟩⟩
  dsimp only at g
  rw [List.map_cons, in_cvs hex h2, show rz_cv ad' (rR Wl.length) = Value.ref a0 from congrArg Value.ref h0] at g
  exact g
theorem in_Ty0 : (in_Ty ids)[0]? = some (ids.1, .int) := rfl
theorem in_Ty1 : (in_Ty ids)[1]? = some (ids.2.1, .long) := rfl
theorem in_Ty2 : (in_Ty ids)[2]? = some (ids.2.2.1, .object "RootChanges$Big") := rfl
theorem in_Ty3 : (in_Ty ids)[3]? = some (ids.2.2.2, .array .long) := rfl
theorem in_clI {cA : ClassId} (hK : va_K D rz_cls (in_Ty ids) s) (h : va_K D rz_cls (in_Ty ids ++ [(cA, .int)]) s) : cA = ids.1 := by
  have h1 : s.vm.findClass ("[" ++ FieldType.int.toString) = some cA := (h.2 4 (cA, .int) rfl).2
  have h2 : s.vm.findClass ("[" ++ FieldType.int.toString) = some ids.1 := (hK.2 0 _ in_Ty0).2
  exact Option.some.inj (h1.symm.trans h2)
theorem in_clJ {cA : ClassId} (hK : va_K D rz_cls (in_Ty ids) s) (h : va_K D rz_cls (in_Ty ids ++ [(cA, .long)]) s) : cA = ids.2.1 := by
  have h1 : s.vm.findClass ("[" ++ FieldType.long.toString) = some cA := (h.2 4 (cA, .long) rfl).2
  have h2 : s.vm.findClass ("[" ++ FieldType.long.toString) = some ids.2.1 := (hK.2 1 _ in_Ty1).2
  exact Option.some.inj (h1.symm.trans h2)
theorem in_clB {cA : ClassId} (hK : va_K D rz_cls (in_Ty ids) s) (h : va_K D rz_cls (in_Ty ids ++ [(cA, .object "RootChanges$Big")]) s) : cA = ids.2.2.1 := by
  obtain ⟨_, _, -, -, -, h1⟩ := (h.2 4 (cA, .object "RootChanges$Big") rfl).2
  obtain ⟨_, _, -, -, -, h2⟩ := (hK.2 2 _ in_Ty2).2
  exact Option.some.inj (h1.symm.trans h2)
theorem in_na_ok (hX : in_X D ids A y p R s m args meth c) (hP : va_P D rz_cls (in_w ids ad Wl) H) (hD : va_D A (in_w ids ad Wl)) (hSS : va_S A s.heap H locs) (hL : rz_Lr ad c ls la) (hS : ∀ v ∈ st, rz_ok v) {t : ArrayType} (hdg : decode (rz_mB y) pc = .ok (.newarray t, 2))
    (h : in_na y (pc + 2) ls st Wl k n t = some T) (K : in_K D ids A p l e R s m args below meth c QW ad Wl.length T) : W p l e R s m args below meth c H locs k n QW (F0 m pc la (st.map (rz_cv ad))) := by
  obtain ⟨hx, hb, hown, hts, ⟨-, hr1, hr2, -⟩, hy, -, hK, hA, -⟩ := id hX
  unfold in_na at h
  split at h
  · next z r =>
    obtain ⟨hc, h⟩ := in_bif h
    simp only [Bool.and_eq_true, decide_eq_true_eq] at hc
    obtain ⟨hz, hr⟩ := List.forall_mem_cons.mp hS
    have hz : R32 z := hz
    have hlt : z.toNat < 10000 := by simpa [Nat.blt_eq] using hc.2
    have hneg : ¬ Int32.ofInt z < 0 := fun q => by
      have := (of32_lt hz (b := 0) ⟨by decide, by decide⟩).mp q
      omega
    split at h
    · have hmr := io_mkr h
      refine va_newa (atype := .int) (a0 := (z.toNat, .inl (fun _ => 0))) (N' := z.toNat) hx hb (hts _ (tb in_w_int)) rfl hK hP hD hSS hA (fun cA => rfl) hneg (cl32_of hz hc.1) ?_ (by omega) (by omega) hdg (fun q cA H1 hK1 hP1 hD1 hS1 => ?_)
      · show z.toNat * 4 ≤ _
        omega
      · rw [in_clI hK hK1] at hP1 hD1
        exact io_mk h K hP1 hD1 hS1 hL hr
    · have hmr := io_mkr h
      refine va_newa (atype := .long) (a0 := (z.toNat, .inr (.inl (fun _ => 0)))) (N' := z.toNat) hx hb (hts _ (tb in_w_long)) rfl hK hP hD hSS hA (fun cA => rfl) hneg (cl32_of hz hc.1) ?_ (by omega) (by omega) hdg (fun q cA H1 hK1 hP1 hD1 hS1 => ?_)
      · show z.toNat * 8 ≤ _
        omega
      · rw [in_clJ hK hK1] at hP1 hD1
        exact io_mk h K hP1 hD1 hS1 hL hr
    · cases h
  · cases h
theorem in_aa_ok (hX : in_X D ids A y p R s m args meth c) (hP : va_P D rz_cls (in_w ids ad Wl) H) (hD : va_D A (in_w ids ad Wl)) (hSS : va_S A s.heap H locs) (hL : rz_Lr ad c ls la) (hS : ∀ v ∈ st, rz_ok v) {i : Nat} (hdg : decode (rz_mB y) pc = .ok (.anewarray i, 3))
    (h : in_aa y (pc + 3) ls st Wl k n (in_f in_al (rz_mi y).1 i) = some T) (K : in_K D ids A p l e R s m args below meth c QW ad Wl.length T) : W p l e R s m args below meth c H locs k n QW (F0 m pc la (st.map (rz_cv ad))) := by
  obtain ⟨hx, hb, hown, hts, ⟨-, hr1, hr2, -⟩, hy, -, hK, hA, -, hBO, -⟩ := id hX
  cases hf : in_f in_al (rz_mi y).1 i with
  | none =>
    rw [hf] at h
    unfold in_aa at h
    split at h
    · next e => cases e
    · cases h
  | some w =>
    have hw := in_al_all _ (in_f_mem hf)
    dsimp only at hw
    rw [hf] at h
    unfold in_aa at h
    split at h
    · next z r _ _ =>
      obtain ⟨hc, h⟩ := in_bif h
      simp only [Bool.and_eq_true, decide_eq_true_eq] at hc
      obtain ⟨hz, hr⟩ := List.forall_mem_cons.mp hS
      have hz : R32 z := hz
      have hlt : z.toNat < 10000 := by simpa [Nat.blt_eq] using hc.2
      have hneg : ¬ Int32.ofInt z < 0 := fun q => by
        have := (of32_lt hz (b := 0) ⟨by decide, by decide⟩).mp q
        omega
      have hmr := io_mkr h
      refine va_newq (N' := z.toNat) hx hb hown (hts _ (tb hw)) hBO hK hP hD hSS hA hneg (cl32_of hz hc.1) (by omega) (by omega) (by omega) hdg (fun q cA H1 hK1 hP1 hD1 hS1 => ?_)
      rw [in_clB hK hK1] at hP1 hD1
      have he : in_e ids ad (2, z.toNat, List.replicate z.toNat (rX 0)) = .inl (ids.2.2.1, z.toNat, .inr (.inr (.inr (.inr (fun _ => none))))) := by
        show (Sum.inl _ : va_E) = Sum.inl _
        rw [show (fun j => in_rf ad ((List.replicate z.toNat (rX 0)).getD j (rX 0))) = (fun _ => none) from funext fun j => by
          rw [List.getD_eq_getElem?_getD, List.getElem?_replicate]
          split <;> rfl]
      rw [← he] at hP1 hD1
      exact io_mk h K hP1 hD1 hS1 hL hr
    · cases h
theorem in_nw_ok (hX : in_X D ids A y p R s m args meth c) (hP : va_P D rz_cls (in_w ids ad Wl) H) (hD : va_D A (in_w ids ad Wl)) (hSS : va_S A s.heap H locs) (hL : rz_Lr ad c ls la) (hS : ∀ v ∈ st, rz_ok v) {i : Nat} (hdg : decode (rz_mB y) pc = .ok (.new i, 3))
    (h : in_nw y (pc + 3) ls st Wl k n (in_f in_cl (rz_mi y).1 i) = some T) (K : in_K D ids A p l e R s m args below meth c QW ad Wl.length T) : W p l e R s m args below meth c H locs k n QW (F0 m pc la (st.map (rz_cv ad))) := by
  obtain ⟨hx, hb, hown, hts, ⟨-, hr1, hr2, -⟩, hy, -, hK, hA, -⟩ := id hX
  cases hf : in_f in_cl (rz_mi y).1 i with
  | none =>
    rw [hf] at h
    cases h
  | some w =>
    obtain ⟨h8, hw1, hw2, hw3⟩ := in_cl_all _ (in_f_mem hf)
    dsimp only at h8 hw1 hw2 hw3
    rw [hf] at h
    have h : in_mk y (pc + 3) ls st Wl k n (w + 4, 0, in_def w) (rz_nf w) = some T := h
    have hmr := io_mkr h
    refine va_new (ci := w) (fs := (in_def w).map (rz_cv ad)) (D := D) hx hb hts (ws_tb w h8) (rz_yt w) (cls_yo w h8) hown (hts _ (tb hw1)) (hts _ (tb hw2)) (hts _ (tb hw3)) hK hP hD hSS hA (cls_at w h8) (fun j hj => ?_) (by omega) (by omega) hdg (fun q H1 hP1 hD1 hS1 => ?_)
    · rw [in_dft w h8 j hj]
      unfold vp_V in_def
      rw [List.getD_eq_getElem?_getD, List.getElem?_map, List.getElem?_map, List.getElem?_range hj]
      simp only [Option.map_some, Option.getD_some]
      generalize rz_ft w j = q
      match q with
      | 0 => rfl
      | 1 => rfl
      | q + 2 => rfl
    · exact io_mk h K hP1 hD1 hS1 hL hS
end RZJ
