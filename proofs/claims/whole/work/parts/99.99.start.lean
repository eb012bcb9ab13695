/-! THE CLAIM OUT OF ONE WALK OF THE LAW'S BODY. Your part is whole_start (and what it stands on); all else here is the same for every law, but numbers. -/
def R_law : String := "RootChangesLaw"
def lw_P (b : Addr) (xs : List Int32) (args : Array Value) (s : State) : Prop := args = #[.ref b] ∧ s.IntsAt b xs ∧ xs.length ≤ 4608 ∧ (Jvm.Cond.and given_1 narrow_1).before args s = true
def lw_Q (_ : Array Value) (s : State) (o : Outcome) (t : State) : Prop := o = .returned (some (.int 1)) ∧ Framed s o t [] 600000 7302250
def lw_Z (below : List Frame) (a : Array Value) (s : State) : State → Prop := fun t => ∃ o, t.status = .running ∧ Ended t below o ∧ lw_Q a s o t
/-- the law's own end, with 1 on the stack, nothing written that was there before, its room as the claim has it -/
theorem lw_ret {p : Program} {l : Launch} {e : Env} {s : State} {m : MethodId} {below : List Frame} {meth : Method} {c : Code} {b : Nat} (hx : p.tables.exec = Jvm.exec) (hb : c.code = code) (hr : meth.sig.returnType = ret) (hlocks : meth.locks = false) {pc : Nat} {H : Heap} {ls : Array Slot} (hdg : decode code pc = .ok (.ireturn, 1)) : W p l e room_1 s m #[Value.ref b] below meth c H [] 600000 7302250 (lw_Z below #[Value.ref b] s) (F0 m pc ls [.int 1]) := by
  intro T hT X
  obtain ⟨fs, hret, hrun, hended, hW, hframe⟩ := X.leave (v := some (.int 1)) (hlocks := hlocks) (fun h => by rw [hr] at h; cases h)
  have hmeth' : T.vm.method? m = some meth := X.method'
  refine ⟨T.setFrames fs, ?_, .returned (some (.int 1)), hrun, hended, rfl, ⟨_, rfl⟩, hW, hframe⟩
  jvm_step X.here [X.here.top, hx, hb, hdg, hmeth', hr, ret, narrow_b1]
  (try refine ⟨rfl, ?_⟩); (try refine ⟨rfl, ?_⟩)
  first | (intro acts; rw [hret _ acts rfl rfl rfl]) | rw [hret _ _ rfl rfl rfl]
  exact Steps.refl _
/-- what holds at the law's entry: the machine, the code, the tables' words (any of lw_tbl by 'hts w (by decide +kernel)'), the script of L ints xs at the cell b, what the Statement gives of the start (any of its parts by flat_of_before) -/
def lw_At (p : Program) (s : State) (m : MethodId) (meth : Method) (c : Code) (b L : Nat) (xs : Nat → Int32) : Prop :=
  p.tables.exec = Jvm.exec ∧ c.code = code ∧ meth.sig.returnType = ret ∧ c.maxLocals = 4 ∧ s.vm.findClass R_law = some m.cls ∧ (∀ w ∈ lw_tbl, w.before #[Value.ref b] s = true) ∧ va_X b L xs s s.heap ∧ b < s.heap.size ∧ meth.locks = false ∧ (Jvm.Cond.and given_1 narrow_1).before #[Value.ref b] s = true
/-! the start: the classes, the constants of Kind, the constructors, the law's loop -/
def st_nm : List String := (List.range 11).map rz_kst
def st_F : List (String × String × String × List Int32) := (List.range 5).map (fun f => ("RootChanges$Kind", rz_kn5 f, "I", (List.range 11).map (fun k => Int32.ofInt (rz_kv k f))))
theorem st_len : st_nm.length = 11 := rfl
theorem st_lay : ∀ i, i < 11 → Cond.laysStatic "RootChanges$Kind" (st_nm.getD i "") "LRootChanges$Kind;" ∈ lw_tbl := by
  intro i hi
  match i with
  | 0 => exact rz_nth 681 (by decide +kernel)
  | 1 => exact rz_nth 686 (by decide +kernel)
  | 2 => exact rz_nth 706 (by decide +kernel)
  | 3 => exact rz_nth 708 (by decide +kernel)
  | 4 => exact rz_nth 710 (by decide +kernel)
  | 5 => exact rz_nth 712 (by decide +kernel)
  | 6 => exact rz_nth 724 (by decide +kernel)
  | 7 => exact rz_nth 729 (by decide +kernel)
  | 8 => exact rz_nth 731 (by decide +kernel)
  | 9 => exact rz_nth 720 (by decide +kernel)
  | 10 => exact rz_nth 722 (by decide +kernel)
  | i + 11 => exact absurd hi (by omega)
theorem st_ini : Cond.initialized "RootChanges$Kind" ∈ lw_tbl := rz_nth 94 (by decide +kernel)
set_option maxRecDepth 100000 in
theorem st_ex : ∀ i, i < 11 → Cond.exactly (.static "RootChanges$Kind" (st_nm.getD i "") "LRootChanges$Kind;") "RootChanges$Kind" ∈ flatC (Jvm.Cond.and given_1 narrow_1) := by decide +kernel
set_option maxRecDepth 100000 in
theorem st_fl : ∀ q ∈ st_F, ∀ i, i < 11 → Cond.eq (.field (.static "RootChanges$Kind" (st_nm.getD i "") "LRootChanges$Kind;") q.1 q.2.1 q.2.2.1) (.int (q.2.2.2.getD i 0)) ∈ flatC (Jvm.Cond.and given_1 narrow_1) := by decide +kernel
set_option maxRecDepth 100000 in
theorem st_ne : ∀ i, i < 11 → ∀ j, j < 11 → i ≠ j → Cond.not (.eq (.static "RootChanges$Kind" (st_nm.getD i "") "LRootChanges$Kind;") (.static "RootChanges$Kind" (st_nm.getD j "") "LRootChanges$Kind;")) ∈ flatC (Jvm.Cond.and given_1 narrow_1) ∨ Cond.not (.eq (.static "RootChanges$Kind" (st_nm.getD j "") "LRootChanges$Kind;") (.static "RootChanges$Kind" (st_nm.getD i "") "LRootChanges$Kind;")) ∈ flatC (Jvm.Cond.and given_1 narrow_1) := by decide +kernel
theorem st_nmi : ∀ i, i < 11 → st_nm.getD i "" = rz_kst i := by decide +kernel
theorem st_Fi : ∀ f, f < 5 → ∃ q ∈ st_F, q.1 = "RootChanges$Kind" ∧ q.2.1 = rz_kn5 f ∧ q.2.2.1 = "I" ∧ ∀ k, k < 11 → q.2.2.2.getD k 0 = Int32.ofInt (rz_kv k f) := by
  intro f hf
  exact ⟨("RootChanges$Kind", rz_kn5 f, "I", (List.range 11).map (fun k => Int32.ofInt (rz_kv k f))), List.mem_map.mpr ⟨f, List.mem_range.mpr hf, rfl⟩, rfl, rfl, rfl, fun k hk => by
    show ((List.range 11).map (fun k => Int32.ofInt (rz_kv k f))).getD k 0 = _
    rw [List.getD_eq_getElem?_getD, List.getElem?_map, List.getElem?_range hk]
    rfl⟩
theorem st_inst : ∀ c, c < 8 → Cond.instantiable (rz_cn c) (rz_nf c) ∈ lw_tbl := by
  intro c hc
  match c with
  | 0 => exact rz_nth 220 (by decide +kernel)
  | 1 => exact rz_nth 106 (by decide +kernel)
  | 2 => exact rz_nth 139 (by decide +kernel)
  | 3 => exact rz_nth 255 (by decide +kernel)
  | 4 => exact rz_nth 213 (by decide +kernel)
  | 5 => exact rz_nth 171 (by decide +kernel)
  | 6 => exact rz_nth 96 (by decide +kernel)
  | 7 => exact rz_nth 830 (by decide +kernel)
  | c + 8 => exact absurd hc (by omega)
theorem st_K {s : State} {args : Array Value} (hts : ∀ w ∈ lw_tbl, w.before args s = true) : ∃ (D : va_G) (ids : in_I), va_K D rz_cls (in_Ty ids) s := by
  have h0 : ∀ c : Nat, ∃ q : ClassId × (Nat → Nat), c < 8 → u_Kn s (rz_cn c) (rz_Tt c) (rz_nf c) q.1 q.2 := by
    intro c
    by_cases hc : c < 8
    · obtain ⟨cC, iS, h⟩ := u_known (ws := lw_tbl) hts (ws_in c hc) (hts _ (st_inst c hc))
      exact ⟨(cC, iS), fun _ => h⟩
    · exact ⟨(0, fun _ => 0), fun h => absurd h hc⟩
  obtain ⟨F, hF⟩ := Classical.axiomOfChoice h0
  obtain ⟨cI, kI, qI, i1, i2, i3⟩ := Cond.arrayClass_spec (hts _ in_w_int)
  obtain ⟨cJ, kJ, qJ, j1, j2, j3⟩ := Cond.arrayClass_spec (hts _ in_w_long)
  obtain ⟨qB, cB, kB, b1, -, b2, b3, b4⟩ := Cond.arrayOver_spec (hts _ in_w_big)
  obtain ⟨qL, cL, kL, l1, -, l2, l3, l4⟩ := arrayOverA_spec (hts _ in_w_ll)
  refine ⟨(fun c => (F c).1, fun c => (F c).2), (cI, cJ, cB, cL), fun c q hq => ?_, fun k q hq => ?_⟩
  · by_cases hc : c < 8
    · have e := Option.some.inj (hq.symm.trans (cls_at c hc))
      subst e
      exact hF c hc
    · rw [List.getElem?_eq_none (by show 8 ≤ c; omega)] at hq
      cases hq
  · match k, hq with
    | 0, hq => cases hq; exact ⟨fun n z => ⟨fun k h => (by cases h), kI, i2, qI, i3⟩, i1⟩
    | 1, hq => cases hq; exact ⟨fun n z => ⟨fun k h => (by cases h), kJ, j2, qJ, j3⟩, j1⟩
    | 2, hq => cases hq; exact ⟨fun n z => ⟨fun k h => (by cases h), kB, b2, qB, b3⟩, kB, qB, b2, b3, b1, b4⟩
    | 3, hq => cases hq; exact ⟨fun n z => ⟨fun k h => (by cases h), kL, l2, qL, l3⟩, l4⟩
    | k + 4, hq => cases hq
set_option maxHeartbeats 4000000 in
theorem whole_start {p : Program} {e : Env} {s : State} {m : MethodId} {below : List Frame} {meth : Method} {c : Code} (l : Launch) (hflags : l.flags = flags0) {b L : Nat} {xs : Nat → Int32} (hL : L ≤ 4608) (C0 : lw_At p s m meth c b L xs) : W p l e room_1 s m #[Value.ref b] below meth c s.heap [] 0 0 (lw_Z below #[Value.ref b] s) (entryFrame m ([Value.ref b] : List Value).toArray 4) := by
  obtain ⟨hx, hb, hr, hml, hown, hts, hX, hbl, hlocks, hgv⟩ := C0
  have hsf := flat_of_before _ hgv
  obtain ⟨D, ids, hK⟩ := st_K hts
  obtain ⟨A, hAe⟩ : ∃ A : Nat → Prop, A = fun q => s.heap.size ≤ q := ⟨_, rfl⟩
  have hA : ∀ q, s.heap.size ≤ q → A q := fun q h => by rw [hAe]; exact h
  have hA2 : ∀ q, A q → s.heap.size ≤ q := fun q h => by rw [hAe] at h; exact h
  have hAn : ∀ a : Nat, a < s.heap.size → ¬ A a := fun a h q => by have := hA2 a q; omega
  obtain ⟨ad2, hEn, -⟩ := va_Enof (args := #[Value.ref b]) (s := s) (E := "RootChanges$Kind") (d := "LRootChanges$Kind;") (nm := st_nm) (F := st_F) (A := A) (fun i hi => hts _ (st_lay i hi)) (hts _ st_ini) (fun i hi => hsf _ (st_ex i hi)) (fun q hq i hi => hsf _ (st_fl q hq i hi))
    (fun i j hi hj hij => (st_ne i hi j hj hij).imp (fun h => hsf _ h) (fun h => hsf _ h)) hAn
  obtain ⟨ad, had⟩ : ∃ f : Nat → Nat, f = fun k => if k = 400 then b else ad2 (k - 349) := ⟨_, rfl⟩
  have ad4 : ad 400 = b := by rw [had]; rfl
  have adk : ∀ k, k < 11 → ad (349 + k) = ad2 k := fun k hk => by
    rw [had]
    show (if 349 + k = 400 then b else ad2 (349 + k - 349)) = _
    rw [if_neg (by omega), show 349 + k - 349 = k from by omega]
  have htb : ∀ q ∈ rz_tb, q.before #[Value.ref b] s = true := fun q hq => hts q (List.mem_filter.mp hq).1
  have hOl : in_Ol D ids A s := ⟨hK, hA, fun a i x h hm => va_Nw.of rfl (hts _ hm), va_AO.of (hts _ in_w_big), over_moved (Vm.Alike.refl _) (hts _ in_w_ll)⟩
  have hX0 : in_X D ids A 212 p room_1 s m #[Value.ref b] meth c := ⟨hx, hb, hown, htb, ⟨Nat.le_refl _, Nat.le_refl _, Nat.le_refl _, Nat.le_refl _⟩, by decide, fun h => absurd h (by decide), hOl⟩
  obtain ⟨v, Wf, k, n, hgo, hWl, hall, hk, hn⟩ := in_fin_of in_run
  have hL0 := entry_Lr (ad := ad) (c := c) (n := 4) (as := [rR 400]) (fun v hv => by rw [List.mem_singleton.mp hv]; trivial) (by decide) hml
  have e0 : [rR 400].map (rz_cv ad) = [Value.ref b] := by
    show [Value.ref (ad 400)] = _
    rw [ad4]
  rw [e0] at hL0
  rw [lg_entry_eq]
  refine in_go_ok D ids A l 2000 212 in_T0 _ hgo p e room_1 s m _ below meth c _ s.heap [] _ ad hX0 ⟨fun k q h => (by cases h), ⟨fun i j p q h => (by cases h), fun k q h => (by cases h)⟩, va_S.rf, hL0, fun v hv => absurd hv List.not_mem_nil⟩ ?_
  intro _ ad' H locs la _ hex hS
  obtain ⟨hP, hD, hSS, hLr, -⟩ := hS
  dsimp only at hP hD hLr ⊢
  obtain ⟨sc, hsc⟩ : ∃ sc : Int → Int, sc = fun j => if j = -1 then (L : Int) else (xs j.toNat).toInt := ⟨_, rfl⟩
  have sc1 : sc (-1) = (L : Int) := by rw [hsc]; rfl
  have sc2 : ∀ j : Nat, sc j = (xs j).toInt := fun j => by
    rw [hsc]
    show (if (j : Int) = -1 then (L : Int) else (xs (j : Int).toNat).toInt) = _
    rw [if_neg (by omega), Int.toNat_natCast]
  have m4 : ∀ j, mem0 sc 400 j = sc j := fun j => if_pos rfl
  obtain ⟨hP2, hD2⟩ := in_conv sc hWl hall hP hD
  have bd4 : ad' 400 = b := (hex 400 (Or.inr (by decide))).trans ad4
  have bdk : ∀ k, k < 11 → ad' (in_po (249 + k)) = ad2 k := fun k hk => by
    rw [in_po_K k hk]
    exact (hex (349 + k) (Or.inr (by omega))).trans (adk k hk)
  obtain ⟨w, hw⟩ : ∃ w : rz_Wt, w = (D, (fun k => ad' (in_po k)), ids, A, b, L, xs) := ⟨_, rfl⟩
  have hWd : rz_Wd w s.heap H locs (mem0 sc) := by
    subst hw
    exact ⟨hP2, hD2, hSS, mo_mem0 sc, by rw [m4, sc1], by show L < 2 ^ 31; omega, fun j _ => by rw [m4, sc2]⟩
  have hO2 : rz_Ol w s := by
    subst hw
    refine ⟨hK, fun k hk => ?_, fun f hf k hk => ?_, fun k hk => ?_, hX, hAn b hbl, bd4, fun a i x h hm => va_Nw.of rfl (hts _ hm)⟩
    · have g := (hEn k hk).1
      rw [st_nmi k hk] at g
      show va_Z "RootChanges$Kind" (rz_kst k) "LRootChanges$Kind;" (.ref (ad' (in_po (249 + k)))) A s s.heap
      rw [bdk k hk]
      exact g
    · obtain ⟨q, hq, q1, q2, q3, q4⟩ := st_Fi f hf
      have g := (hEn k hk).2.2 q hq
      rw [q1, q2, q3, q4 k hk] at g
      show va_OF "RootChanges$Kind" (rz_kn5 f) "I" (.int (Int32.ofInt (rz_kv k f))) (ad' (in_po (249 + k))) A s s.heap
      rw [bdk k hk]
      exact g
    · have g := (hEn k hk).2.1
      show ∃ cell : Cell, s.heap[ad' (in_po (249 + k))]? = some cell ∧ cell.vm.isStatics = false ∧ s.vm.findClass "RootChanges$Kind" = some cell.cls ∧ ¬ A (ad' (in_po (249 + k)))
      rw [bdk k hk]
      exact g
  have hC : rz_Cx w 212 p room_1 s m #[Value.ref b] c k n := ⟨hx, hb, hown, htb, Nat.le_of_ble_eq_true rfl, Nat.le_of_ble_eq_true rfl, ⟨hk, hn⟩, by decide, hO2⟩
  have hL2 : rz_Lr w.2.1 c [rR 400, rR 0, rR 221, rX 0] la := by
    subst hw
    refine ⟨hLr.1, hLr.2.1, hLr.2.2.1, fun i u hi hu => ?_⟩
    rcases i with _ | _ | _ | _ | i
    · cases hi
      exact hLr.2.2.2 0 (rR 400) rfl hu
    · cases hi
      exact hLr.2.2.2 1 (rR 0) rfl hu
    · cases hi
      exact hLr.2.2.2 2 (rR 232) rfl hu
    · cases hi
      exact absurd hu (by decide)
    · cases hi
  have run := rz_sound w l (law_mem0 (s := sc) (by rw [sc1]; omega) (by rw [sc1]; omega) (fun i h0 h1 => by
    obtain ⟨j, rfl⟩ := Int.eq_ofNat_of_zero_le h0
    rw [sc2]
    exact to32_R _))
  refine run p e room_1 s m #[Value.ref b] below meth c H locs k n _ la hC hWd hL2 (fun v hv => absurd hv List.not_mem_nil) ?_
  intro z M' H2 locs2 la2 pc2 hz hW2 _ hdg
  subst hz
  refine va_forget (fun q hq => hA2 _ (by have := hW2.2.2.1.2.2 q hq; subst hw; exact this)) ?_
  refine W.widen hk hn ?_
  exact lw_ret hx hb hr hlocks hdg
set_option maxHeartbeats 4000000 in
theorem lw_walk (l : Launch) (hflags : l.flags = flags0) (b : Addr) (xs : List Int32) : MetFree l x (headSpec (Jvm.Cond.code x code maxLocals ret :: tables_1) room_1) (lw_P b xs) (fun _ _ _ _ _ => True) lw_Q := by
  refine MetFree.of_bodyS (code := code) (maxLocals := maxLocals) (ret := ret) (by decide) ?_ ?_
  · intro args s m h hn
    obtain ⟨meth, c, h1, h2, h3, h4, h5, h6, -, -⟩ := Cond.code_spec hn (atoms_spec (ws := Jvm.Cond.code x code maxLocals ret :: tables_1) h _ List.mem_cons_self)
    exact ⟨meth, c, h1, h2, h3, h4, h5, h6⟩
  · intro p e s m args below meth c s₁ B hml0 hP _
    obtain ⟨rfl, hx, hbd, hgv⟩ := hP
    obtain ⟨scr, harrAt, hlist, hof, hsmall⟩ := hx
    obtain ⟨hcb, hkn, -, -⟩ := State.arrayAt?_spec harrAt
    have hown : s.vm.findClass R_law = some m.cls := findClass_of_methodNamed B.named
    have hts0 : ∀ c ∈ (Jvm.Cond.code x code maxLocals ret :: tables_1), c.before #[Value.ref b] s = true := atoms_spec (ws := Jvm.Cond.code x code maxLocals ret :: tables_1) B.pre
    have hts : ∀ w ∈ lw_tbl, w.before #[Value.ref b] s = true := k2_hts_sels lw_privs (fun w hw => hts0 w (List.mem_cons_of_mem _ hw)) lw_privs_ok
    have hml : c.maxLocals = 4 := B.maxLocals_eq (hts0 _ List.mem_cons_self)
    have X₀ : Stand p l e room_1 s m #[Value.ref b] below meth c s₁ [] 0 0 := Stand.of_body B
    have hh0 : s₁.heap = s.heap := by rw [B.state]; rfl
    have hsz : scr.slots.size = xs.length := by rw [← Array.length_toList, hlist, List.length_map]
    have hval : ∀ j : Nat, j < xs.length → scr.slots[j]? = some (.int (xs.getD j 0)) := fun j hj => by
      rw [← Array.getElem?_toList, hlist]
      simp [hj]
    have hbl : b < s.heap.size := (Array.getElem?_eq_some_iff.mp hcb).1
    have hX : va_X b xs.length (fun j => xs.getD j 0) s s.heap := ⟨scr, hcb, hof, hkn, hsz, hval⟩
    have K : W p l e room_1 s m #[Value.ref b] below meth c s₁.heap [] 0 0 (lw_Z below #[Value.ref b] s) (entryFrame m ([Value.ref b] : List Value).toArray 4) := by
      rw [hh0]
      exact whole_start l hflags hbd ⟨B.exec, B.bytes, B.returns, hml, hown, hts, hX, hbl, B.notSynchronized, hgv⟩
    obtain ⟨t, a1, o, b1, b2, b3⟩ := K s₁ rfl X₀
    exact ⟨t, o, a1, b1, b2, b3⟩
theorem lw_pre_spec {args : Array Value} {s : State} (h : (Jvm.Cond.and given_1 narrow_1).before args s = true) (hr : rest_1_c.before args s = true) : ∃ (b : Addr) (xs : List Int32), lw_P b xs args s := by
  have hs := flat_of_before _ h
  have hq := flat_of_before _ hr
  have hc : (Cond.count 1).before args s = true := hs _ (by decide +kernel)
  have harr : (Cond.arrayOf (.arg 0) .int).before args s = true := hs _ (by decide +kernel)
  have hle : (Cond.le (.length (.arg 0)) (.int 4608)).before args s = true := hs _ (by decide +kernel)
  have hlen : (Cond.isInt (.length (.arg 0))).before args s = true := hq _ (by decide +kernel)
  have hall : (Cond.all (.arg 0) (.isInt (.elem (.arg 0) (.index 0)))).before args s = true := hq _ (by decide +kernel)
  obtain ⟨b, xs, hb, hx⟩ := State.ints_of_pre rfl harr hlen hall
  have hsm : xs.length < 2 ^ 31 := hx.choose_spec.2.2.2
  have hev : (Term.length (.arg 0)).eval args s none [] s = some (.int xs.length.toInt32) := hx.length_eval hb
  have hv := Cond.le_ints hev (show (Term.int 4608).eval args s none [] s = some (.int 4608) from rfl)
  have hd : xs.length.toInt32 ≤ 4608 := by
    simpa [Cond.before, Cond.holds, hv] using hle
  have hN : xs.length ≤ 4608 := (Int32.ofNat_le_ofNat hsm (by decide)).mp (show Int32.ofNat xs.length ≤ Int32.ofNat 4608 from hd)
  exact ⟨b, xs, Cond.one_arg hc (show args[0]? = some (.ref b) from hb), hx, hN, h⟩
theorem lw_comes (l : Launch) (hflags : l.flags = flags0) : Comes l x (Jvm.Cond.code x code maxLocals ret :: tables_1) room_1 (fun tb e args s => Calls_1 tb e args s ∧ rest_1 tb e args s ∧ Pre_1 tb e args s)
    (fun _ _ args s o t => lw_Q args s o t) := by
  intro p e ha hc hk s m args below hf hfit hheap happ hpre
  obtain ⟨b, xs, hP⟩ := lw_pre_spec hpre.2.2 hpre.2.1
  obtain ⟨k, o, h1, h2, h3, hQ⟩ := lw_walk l hflags b xs p e ha hc hk s m args below hf ((Spec.applies_iff_loose hf).mp happ).1 hP trivial
  exact ⟨k, o, h1, h2, h3, hQ⟩
theorem lw_frame {s t : State} {o : Outcome} {args : Array Value} (h : Framed s o t [] 600000 7302250) :
    Framed s o t (fieldLocs frame_1_writes args s ++ arrayLocs frame_1_arrays args s ++ staticLocs frame_1_statics s) 600000 7302250 := h
theorem lw_limb (L : Cond) (hL : ∀ (args : Array Value) (s t : State), L.after args s (.returned (some (.int 1))) t = true) :
    ArmFor flags0 classFile x code maxLocals ret World_1 tables_1 room_1 Calls_1 rest_1 Pre_1
      (fun tb e a s o t => postC L tb e a s o t ∧ Framed s o t (fieldLocs frame_1_writes a s ++ arrayLocs frame_1_arrays a s ++ staticLocs frame_1_statics s) 600000 7302250) := by
  intro l hflags _ _ p e ha hc hk s m args below hf hfit hheap happ hpre
  obtain ⟨k, o, h1, h2, h3, rfl, hF⟩ := lw_comes l hflags p e ha hc hk s m args below hf hfit hheap happ hpre
  exact ⟨k, _, h1, h2, h3, hL args s _, lw_frame hF⟩
theorem i_vc : Claimed_1_1 ∧ Claimed_1_2 := ⟨lw_limb limb_1_1 (fun args s t => by simp [limb_1_1, Cond.after, Cond.holds, Cond.value]), lw_limb limb_1_2 (fun args s t => Cond.after_iff.mpr (by
  first | (rw [show limb_1_2 = Cond.eq .result (.int 1) from rfl, Cond.eq_ints (x := 1) (y := 1) rfl rfl]; simp; done) | (simp [limb_1_2, Cond.value, Term.eval]; done)))⟩
