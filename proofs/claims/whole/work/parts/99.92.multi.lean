/-! an array of arrays is made: our own row, by an invariant of the loop that speaks of heap and frame -/
section RZMU
variable {E : CtlPost} {e : Env} {d : Bool} {acts : List Action} {s : State}
theorem in_wna {c comp : ClassId} {k : Class} {type : FieldType} {len : Nat} {init : Value} (hk : s.vm.classes[c]? = some k) (hkind : k.kind = .array comp type)
    (hl : ¬ len > e.platform.arrayLengthLimit) (hh : ¬ len * componentBytes type > e.platform.maxHeapBytes) (hfit : fits type init = true) (h1 : s.heap.size + 1 ≤ e.platform.maxCells) (h2 : s.slotsUsed + len ≤ e.platform.maxSlots)
    {Q : Addr → Pre} (hq : ∀ a', Q s.heap.size d a' (s.pushCell { cls := c, slots := Array.replicate len init, vm := .none })) : wp (Jvm.newArray c len init) Q E e d acts s := by
  simp only [Jvm.newArray, Jvm.arrayFits, wp_bind', W.ask, W.ite, hl, if_false, wp_pure', W.theClass, hk, hkind, hh, W.alloc, W.stop, Option.some.injEq, exists_eq_left', Array.size_replicate]
  rw [if_neg (by omega)]
  refine ⟨by omega, h2, fun i v hv => ?_, hq _⟩
  simp only [Array.getElem?_replicate] at hv
  split at hv
  · cases hv
    simp [State.fitsSlot, State.slotType?, hk, hkind, hfit]
  · cases hv
theorem in_fitr {t : FieldType} (h : t.isReference = true) {v : Value} (hv : v = .null ∨ ∃ a, v = .ref a) : fits t v = true := by
  rcases hv with rfl | ⟨a, rfl⟩ <;> (cases t <;> first | rfl | (simp [FieldType.isReference] at h))
def in_fl (T : State) (h0 : Nat) (cA comp : ClassId) (N K : Nat) (dv : Value) : Nat → State
  | 0 => T.pushCell { cls := cA, slots := Array.replicate N .null, vm := .none }
  | i + 1 => ((in_fl T h0 cA comp N K dv i).pushCell { cls := comp, slots := Array.replicate K dv, vm := .none }).setCell h0 ((arrV cA N (fun j => if j < i then .ref (h0 + 1 + j) else .null)).setSlot i (.ref (h0 + 1 + i)))
theorem in_fl_top (T : State) (f : JFrame) (h0 : Nat) (cA comp : ClassId) (N K : Nat) (dv : Value) : ∀ i, in_fl (T.setTop f) h0 cA comp N K dv i = (in_fl T h0 cA comp N K dv i).setTop f
  | 0 => rfl
  | i + 1 => by simp only [in_fl, in_fl_top T f h0 cA comp N K dv i, State.pushCell_setTop, State.setCell_setTop]
theorem in_wmk {cA comp cq : ClassId} {kA kC : Class} {ty : FieldType} {n k : Int32} (hkA : s.vm.classes[cA]? = some kA) (hkindA : kA.kind = .array comp (.array ty)) (hkC : s.vm.classes[comp]? = some kC) (hkindC : kC.kind = .array cq ty) (hn : ¬ n < 0) (hk : ¬ k < 0)
    (hl1 : ¬ n.toNatClampNeg > e.platform.arrayLengthLimit) (hh1 : ¬ n.toNatClampNeg * componentBytes (.array ty) > e.platform.maxHeapBytes) (hl2 : ¬ k.toNatClampNeg > e.platform.arrayLengthLimit) (hh2 : ¬ k.toNatClampNeg * componentBytes ty > e.platform.maxHeapBytes) (hdf : fits ty (defaultValue ty) = true)
    (h0 : s.heap.size + 1 ≤ e.platform.maxCells) (h1 : s.slotsUsed + n.toNatClampNeg ≤ e.platform.maxSlots)
    (hM : ∀ i, i ≤ n.toNatClampNeg → (in_fl s s.heap.size cA comp n.toNatClampNeg k.toNatClampNeg (defaultValue ty) i).vm = s.vm ∧ (in_fl s s.heap.size cA comp n.toNatClampNeg k.toNatClampNeg (defaultValue ty) i).heap.size = s.heap.size + 1 + i ∧
      (in_fl s s.heap.size cA comp n.toNatClampNeg k.toNatClampNeg (defaultValue ty) i).heap[s.heap.size]? = some (arrV cA n.toNatClampNeg (fun j => if j < i then .ref (s.heap.size + 1 + j) else .null)) ∧
      (i < n.toNatClampNeg → (in_fl s s.heap.size cA comp n.toNatClampNeg k.toNatClampNeg (defaultValue ty) i).heap.size + 1 ≤ e.platform.maxCells ∧ (in_fl s s.heap.size cA comp n.toNatClampNeg k.toNatClampNeg (defaultValue ty) i).slotsUsed + k.toNatClampNeg ≤ e.platform.maxSlots))
    {Q : Addr → Pre} (hq : ∀ d' acts', Q s.heap.size d' acts' (in_fl s s.heap.size cA comp n.toNatClampNeg k.toNatClampNeg (defaultValue ty) n.toNatClampNeg)) : wp (multianewarray.make cA [n, k]) Q E e d acts s := by
  have hfind : ([k].find? (· < 0)) = none := by simp [hk]
  rw [multianewarray.make]
  simp only [wp_bind', W.ite, hn, if_false, wp_pure', W.theClass, hkA, hkindA, Option.some.injEq, exists_eq_left']
  refine in_wna hkA hkindA hl1 hh1 (in_fitr rfl (Or.inl rfl)) h0 h1 (fun acts1 => ?_)
  simp only [hfind]
  rw [ite_self, wp_bind', Std.Legacy.Range.forIn_eq_forIn_range']
  rw [show ([:n.toNatClampNeg] : Std.Legacy.Range).size = n.toNatClampNeg from by simp [Std.Legacy.Range.size]]
  refine wp_forIn_inv (fun rest s' => ∃ i, i ≤ n.toNatClampNeg ∧ rest = List.range' i (n.toNatClampNeg - i) ∧ s' = in_fl s s.heap.size cA comp n.toNatClampNeg k.toNatClampNeg (defaultValue ty) i) _ _ ⟨0, Nat.zero_le _, rfl, rfl⟩ ?_ ?_
  · rintro x rest s' d' acts' Q' ⟨i, hi, hl, rfl⟩ hnext
    have hlt : i < n.toNatClampNeg := by
      refine Nat.lt_of_le_of_ne hi fun e => ?_
      rw [e, Nat.sub_self] at hl
      cases hl
    rw [show n.toNatClampNeg - i = (n.toNatClampNeg - (i + 1)) + 1 from by omega, List.range'_succ] at hl
    obtain ⟨rfl, hrest⟩ := List.cons.inj hl
    obtain ⟨f1, f2, f3, f4⟩ := hM x hi
    obtain ⟨f5, f6⟩ := f4 hlt
    simp only [wp_bind']
    rw [multianewarray.make]
    simp only [wp_bind', W.ite, hk, if_false, wp_pure', W.theClass, f1, hkC, hkindC, Option.some.injEq, exists_eq_left']
    refine in_wna (by rw [f1]; exact hkC) hkindC hl2 hh2 hdf f5 f6 (fun acts2 => ?_)
    simp only [wp_bind', W.writeLoc, wp_pure']
    have hlt0 : s.heap.size < (in_fl s s.heap.size cA comp n.toNatClampNeg k.toNatClampNeg (defaultValue ty) x).heap.size := by omega
    refine ⟨_, by rw [State.heap_pushCell_of_lt (h := hlt0)]; exact f3, fun q => (by cases q), by rw [arrV_size]; exact hlt, ?_, hnext _ _ _ ⟨x + 1, hlt, hrest, ?_⟩⟩
    · show State.fitsSlot _ cA .none x _ = true
      simp [State.fitsSlot, State.slotType?, f1, hkA, hkindA, in_fitr (t := .array ty) rfl (Or.inr ⟨_, rfl⟩)]
    · rw [f2]
      rfl
  · rintro s' d' acts' ⟨i, hi, hl, rfl⟩
    have e : i = n.toNatClampNeg := by
      refine Nat.le_antisymm hi (Nat.le_of_not_lt fun h => ?_)
      rw [show n.toNatClampNeg - i = (n.toNatClampNeg - (i + 1)) + 1 from by omega, List.range'_succ] at hl
      cases hl
    subst e
    simp only [wp_pure']
    exact hq _ _
end RZMU
section RZMW
variable {p : Program} {l : Launch} {e : Env} {R : Room} {s : State} {m : MethodId} {args : Array Value} {below : List Frame} {meth : Method} {c : Code} {H : Heap} {locs : List Loc} {cells slots : Nat} {Q : State → Prop}
variable {pc : Nat} {la : Array Slot} {rest : List Value}
/-- a state in the midst of the loop: i rows are made -/
def in_Mid (p : Program) (l : Launch) (e : Env) (R : Room) (s : State) (m : MethodId) (args : Array Value) (below : List Frame) (meth : Method) (c : Code) (locs : List Loc) (cells slots : Nat) (vm : Vm) (H : Heap) (cA comp : ClassId) (N K : Nat) (dv : Value) (i : Nat) (U : State) : Prop :=
  (∃ locs' : List Loc, Stand p l e R s m args below meth c U locs' (cells + 1 + i) (slots + N + i * K) ∧ ∀ q ∈ locs', q ∈ locs ∨ q.base = H.size) ∧ U.vm = vm ∧ U.heap.size = H.size + 1 + i ∧
  U.heap[H.size]? = some (arrV cA N (fun j => if j < i then .ref (H.size + 1 + j) else .null)) ∧ (∀ j, j < i → U.heap[H.size + 1 + j]? = some (arrV comp K (fun _ => dv))) ∧ ∀ q, q < H.size → U.heap[q]? = H[q]?
theorem in_mid0 {T : State} {vm : Vm} {cA comp : ClassId} {N K : Nat} {dv : Value} (hT : T.heap = H) (hvm : T.vm = vm) (X : Stand p l e R s m args below meth c T locs cells slots) :
    in_Mid p l e R s m args below meth c locs cells slots vm H cA comp N K dv 0 (T.pushCell { cls := cA, slots := Array.replicate N .null, vm := .none }) := by
  have h := X.pushed { cls := cA, slots := Array.replicate N .null, vm := .none }
  refine ⟨⟨locs, by simpa using h, fun q hq => Or.inl hq⟩, hvm, ?_, ?_, fun j hj => absurd hj (Nat.not_lt_zero _), fun q hq => ?_⟩
  · subst hT
    simp
  · subst hT
    rw [arrV_new]
    simp
  · subst hT
    exact State.heap_pushCell_of_lt _ _ hq
theorem in_mid1 {U : State} {vm : Vm} {cA comp : ClassId} {N K : Nat} {dv : Value} {i : Nat} (hi : i < N) (h : in_Mid p l e R s m args below meth c locs cells slots vm H cA comp N K dv i U) :
    in_Mid p l e R s m args below meth c locs cells slots vm H cA comp N K dv (i + 1) ((U.pushCell { cls := comp, slots := Array.replicate K dv, vm := .none }).setCell H.size ((arrV cA N (fun j => if j < i then .ref (H.size + 1 + j) else .null)).setSlot i (.ref U.heap.size))) := by
  obtain ⟨⟨locs', X, hl⟩, hvm, hz, h0, hj, ho⟩ := h
  have hlt : H.size < U.heap.size := by omega
  have hc : (U.pushCell { cls := comp, slots := Array.replicate K dv, vm := .none }).heap[H.size]? = some (arrV cA N (fun j => if j < i then .ref (H.size + 1 + j) else .null)) := by
    rw [State.heap_pushCell_of_lt (h := hlt)]
    exact h0
  have X2 := (X.pushed { cls := comp, slots := Array.replicate K dv, vm := .none }).stored hc i (.ref U.heap.size)
  refine ⟨⟨locs' ++ [⟨H.size, i⟩], ?_, ?_⟩, hvm, ?_, ?_, ?_, ?_⟩
  · have e1 : cells + 1 + (i + 1) = cells + 1 + i + 1 := by omega
    have e2 : slots + N + (i + 1) * K = slots + N + i * K + K := by rw [Nat.succ_mul]; omega
    rw [e1, e2]
    simpa using X2
  · intro q hq
    rcases List.mem_append.mp hq with h | h
    · exact hl q h
    · rw [List.mem_singleton.mp h]
      exact Or.inr rfl
  · simp [State.setCell, hz]
    omega
  · rw [State.heap_setCell_self hc, arrV_store]
    congr 2
    funext j
    unfold updV
    by_cases e : j = i
    · subst e
      rw [if_pos rfl, if_pos (by omega), hz]
    · rw [if_neg e]
      dsimp only
      by_cases h2 : j < i
      · rw [if_pos h2, if_pos (by omega)]
      · rw [if_neg h2, if_neg (by omega)]
  · intro j hj2
    rw [State.heap_setCell_other (show H.size ≠ H.size + 1 + j by omega)]
    by_cases h2 : j < i
    · have hl3 : H.size + 1 + j < U.heap.size := by omega
      rw [State.heap_pushCell_of_lt (h := hl3)]
      exact hj j h2
    · have e : j = i := by omega
      subst e
      rw [← hz, ← arrV_new]
      exact State.heap_pushCell_size _ _
  · intro q hq
    have hl3 : q < U.heap.size := by omega
    rw [State.heap_setCell_other (show H.size ≠ q by omega), State.heap_pushCell_of_lt (h := hl3)]
    exact ho q hq
theorem in_multi {cc : ByteArray} (hexec : p.tables.exec = Jvm.exec) (hb : c.code = cc) {own : String} {index : Nat} {ty : FieldType} (hown : s.vm.findClass own = some m.cls)
    (hclink : (Cond.classLink own index ("[" ++ (FieldType.array ty).toString)).before args s = true) (hover : (Cond.arrayOver (.array ty)).before args s = true) (harr : (Cond.arrayClass ty).before args s = true)
    (hdg : decode cc pc = .ok (.multianewarray index 2, 4)) {n k : Int32} {N K : Nat} (hn : ¬ n < 0) (hk : ¬ k < 0) (hN : n.toNatClampNeg = N) (hK : k.toNatClampNeg = K) (hb1 : N * 4 ≤ 536870912) (hb2 : K * componentBytes ty ≤ 536870912) (hb3 : K ≤ 536870912)
    (hdf : fits ty (defaultValue ty) = true) (hcells : cells + (1 + N) ≤ R.cells) (hslots : slots + (N + N * K) ≤ R.slots)
    (kk : ∀ (cA comp : ClassId) (H' : Heap) (locs' : List Loc), s.vm.findClass ("[" ++ (FieldType.array ty).toString) = some cA → s.vm.findClass (FieldType.array ty).toString = some comp → H'.size = H.size + 1 + N →
      H'[H.size]? = some (arrV cA N (fun j => if j < N then .ref (H.size + 1 + j) else .null)) → (∀ j, j < N → H'[H.size + 1 + j]? = some (arrV comp K (fun _ => defaultValue ty))) → (∀ q, q < H.size → H'[q]? = H[q]?) → (∀ q ∈ locs', q ∈ locs ∨ q.base = H.size) →
      W p l e R s m args below meth c H' locs' (cells + 1 + N) (slots + N + N * K) Q (F0 m (pc + 4) la (.ref H.size :: rest))) : W p l e R s m args below meth c H locs cells slots Q (F0 m pc la (.int k :: .int n :: rest)) := by
  intro T hT X
  subst hT; subst hb; subst hN; subst hK
  generalize hgE : F0 m pc la (.int k :: .int n :: rest) = g
  have hgm : g.method = m := by rw [← hgE]
  have hgp : g.pc = pc := by rw [← hgE]
  have hgs : g.stack = .int k :: .int n :: rest := by rw [← hgE]
  rw [← hgp] at hdg
  subst hgm
  have hpl : e.platform.magicAccessors = ({} : Platform).magicAccessors := by rw [X.admits.platform]
  obtain ⟨comp, cA, kA, hcomp, -, hkA, hkindA, hnameA⟩ := arrayOverA_spec hover
  obtain ⟨comp', kC, cq, hcomp', hkC, hkindC⟩ := Cond.arrayClass_spec harr
  have ecomp : comp' = comp := Option.some.inj (hcomp'.symm.trans hcomp)
  subst ecomp
  obtain ⟨c0, hfc0, hcl⟩ := Cond.classLink_spec hown hclink e.platform hpl
  cases hnameA.symm.trans hfc0
  obtain ⟨hg₁, hwarm₁, hready₁⟩ := State.classEntry (e := e) X.warmed hcl
  generalize T.vm.noted g.method.cls index (.cls cA) = vm₁ at hg₁ hwarm₁ hready₁
  obtain ⟨kA₁, hkA₁, heA⟩ := hwarm₁.alike.2.2 _ _ hkA
  obtain ⟨kC₁, hkC₁, heC⟩ := hwarm₁.alike.2.2 _ _ hkC
  have hkindA₁ : kA₁.kind = .array comp' (.array ty) := by rw [heA]; exact hkindA
  have hkindC₁ : kC₁.kind = .array cq ty := by rw [heC]; exact hkindC
  have X₁ := X.noted hwarm₁
  have hl1 : ¬ n.toNatClampNeg > e.platform.arrayLengthLimit := by rw [Launch.admits_arrayLengthLimit X.admits]; omega
  have hh1 : ¬ n.toNatClampNeg * componentBytes (.array ty) > e.platform.maxHeapBytes := by
    rw [Launch.admits_maxHeapBytes X.admits]; show ¬ n.toNatClampNeg * 4 > 536870912; omega
  have hl2 : ¬ k.toNatClampNeg > e.platform.arrayLengthLimit := by rw [Launch.admits_arrayLengthLimit X.admits]; omega
  have hh2 : ¬ k.toNatClampNeg * componentBytes ty > e.platform.maxHeapBytes := by rw [Launch.admits_maxHeapBytes X.admits]; omega
  have MN : ∀ i, i ≤ n.toNatClampNeg → in_Mid p l e R s g.method args below meth c locs cells slots vm₁ T.heap cA comp' n.toNatClampNeg k.toNatClampNeg (defaultValue ty) i (in_fl (T.setVm vm₁) T.heap.size cA comp' n.toNatClampNeg k.toNatClampNeg (defaultValue ty) i) := by
    intro i
    induction i with
    | zero => intro _; exact in_mid0 rfl rfl X₁
    | succ i ih =>
      intro hi
      have h := in_mid1 (by omega) (ih (by omega))
      rw [(ih (by omega)).2.2.1] at h
      exact h
  obtain ⟨⟨locs', XU, hl⟩, -, z1, z2, z3, z4⟩ := MN _ (Nat.le_refl _)
  obtain ⟨t, a1, b1⟩ := kk cA comp' _ locs' hnameA hcomp z1 z2 z3 z4 hl _ rfl XU
  refine ⟨t, ?_, b1⟩
  have hrest : Steps p.tables e below ((in_fl (T.setVm vm₁) T.heap.size cA comp' n.toNatClampNeg k.toNatClampNeg (defaultValue ty) n.toNatClampNeg).setTop { g with pc := g.pc + 4, stack := .ref T.heap.size :: rest }) t := by
    rw [← hgE]
    exact a1
  jvm_step X.here [hexec, hdg]
  simp only [multianewarray.sem, wp_bind', W.resolveClassAt_links (State.method?_setTop g X.here.top) hg₁]
  rw [W.popN, if_neg (by decide)]
  refine ⟨g, State.topJava?_setTop' (s := T.setVm vm₁) g X.here.top, [.int n, .int k], rest, rfl, hgs, ?_⟩
  simp only [List.mapM_cons, List.mapM_nil, wp_bind', wp_pure']
  rw [show ((T.setTop g).setVm vm₁).setTop { g with stack := rest } = (T.setVm vm₁).setTop { g with stack := rest } from by
    show ((T.setVm vm₁).setTop g).setTop _ = _
    rw [State.setTop_setTop]]
  obtain ⟨hr1, hr2⟩ := X.roomAbove (a := 1) (b := n.toNatClampNeg) (by omega) (by omega)
  refine in_wmk (s := (T.setVm vm₁).setTop { g with stack := rest }) (kA := kA₁) (kC := kC₁) (comp := comp') (cq := cq) (ty := ty) hkA₁ hkindA₁ hkC₁ hkindC₁ hn hk hl1 hh1 hl2 hh2 hdf (by show T.heap.size + 1 ≤ _; exact hr1) (by show T.slotsUsed + _ ≤ _; exact hr2) (fun i hi => ?_) (fun d' acts' => ?_)
  · obtain ⟨⟨locs2, X2, -⟩, y1, y2, y3, -, -⟩ := MN i hi
    rw [in_fl_top]
    refine ⟨y1, y2, y3, fun hlt => ?_⟩
    have hm : i * k.toNatClampNeg + k.toNatClampNeg ≤ n.toNatClampNeg * k.toNatClampNeg := by
      have := Nat.mul_le_mul_right k.toNatClampNeg (show i + 1 ≤ n.toNatClampNeg from hlt)
      rw [Nat.succ_mul] at this
      exact this
    exact X2.roomAbove (a := 1) (b := k.toNatClampNeg) (by omega) (by omega)
  · rw [in_fl_top]
    simp only [wp_bind', W.mark, W.pushRef, State.setTop_setTop, State.heap_setTop]
    refine ⟨{ g with stack := rest }, State.topJava?_setTop' _ XU.here.top, fun acts => ?_⟩
    simp [jvm, XU.here.top]
    exact hrest
end RZMW
