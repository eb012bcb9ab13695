/-! the machine is right: what it says of a method holds of the JVM's run -/
def rz_wsM (z : Nat) : List Cond := Cond.code (rz_mN z) (rz_mB z) (rz_mi z).2.2.2 (rz_mR z) :: rz_tb
theorem good_M {z : Nat} (hz : rz_zf z) : GoodIn rz_tb (rz_wsM z) := by
  intro q hq
  rcases List.mem_cons.mp hq with rfl | h
  · exact ⟨tb hz.1, good_of_word rfl⟩
  · exact ⟨h, good_of_word (List.mem_filter.mp h).2⟩
def rz_B0 (w : rz_Wt) (M : rz_M) (H : Heap) : Prop := va_P w.1 rz_cls (wWs w M) H ∧ va_D w.2.2.2.1 (wWs w M) ∧ rz_mo M ∧ M 400 (-1) = w.2.2.2.2.2.1 ∧ w.2.2.2.2.2.1 < 2 ^ 31 ∧ ∀ j : Nat, j < w.2.2.2.2.2.1 → M 400 j = (w.2.2.2.2.2.2 j).toInt
theorem B0_Wd {w : rz_Wt} {M : rz_M} {H0 H : Heap} {locs : List Loc} (h : rz_B0 w M H) (hS : va_S w.2.2.2.1 H0 H locs) : rz_Wd w H0 H locs M := ⟨h.1, h.2.1, hS, h.2.2.1, h.2.2.2.1, h.2.2.2.2.1, h.2.2.2.2.2⟩
theorem Wd_B0 {w : rz_Wt} {M : rz_M} {H0 H : Heap} {locs : List Loc} (h : rz_Wd w H0 H locs M) : rz_B0 w M H := ⟨h.1, h.2.1, h.2.2.2.1, h.2.2.2.2.1, h.2.2.2.2.2.1, h.2.2.2.2.2.2⟩
def rz_Qc (w : rz_Wt) (k : Nat) (Rz : Int → rz_M → Prop) : Array Value → State → Outcome → State → Prop := match k with
  | 0 => va_Qv (fun m' : rz_M => Rz 0 m') (fun m' t => rz_B0 w m' t.heap) w.2.2.2.1
  | 2 => va_Ql (fun (r : Int64) (m' : rz_M) => Rz r.toInt m') (fun m' t => rz_B0 w m' t.heap) w.2.2.2.1
  | 3 => va_Qr (fun u : Nat × rz_M => Rz u.1 u.2) (fun u a t => a = w.2.1 u.1 ∧ rz_B0 w u.2 t.heap) w.2.2.2.1
  | _ => va_Qi (fun (r : Int32) (m' : rz_M) => Rz r.toInt m') (fun m' t => rz_B0 w m' t.heap) w.2.2.2.1
def rz_Pc (w : rz_Wt) (as : List rz_V) (M : rz_M) : Array Value → State → Prop := va_Pc (as.map (rz_cv w.2.1)) (fun U => rz_B0 w M U.heap ∧ rz_Ol w U)
def rz_Cx (w : rz_Wt) (y : Nat) (p : Program) (R : Room) (s : State) (m : MethodId) (args : Array Value) (c : Code) (cells slots : Nat) : Prop :=
  p.tables.exec = Jvm.exec ∧ c.code = rz_mB y ∧ s.vm.findClass (rz_cn (rz_mi y).1) = some m.cls ∧ (∀ q ∈ rz_tb, q.before args s = true) ∧ (rz_rk y).1 ≤ R.frames ∧ (rz_rk y).2 ≤ R.locals ∧ (cells ≤ R.cells ∧ slots ≤ R.slots) ∧ y < 213 ∧ rz_Ol w s
def rz_rv (w : rz_Wt) (k : Nat) (z : Int) : List Value := match k with
  | 0 => []
  | 2 => [.long (Int64.ofInt z)]
  | 3 => [.ref (w.2.1 z.toNat)]
  | _ => [.int (Int32.ofInt z)]
def rz_ri (k : Nat) : Instr := match k with
  | 0 => .return_
  | 2 => .lreturn
  | 3 => .areturn
  | _ => .ireturn
def rz_rok (k : Nat) (z : Int) : Prop := match k with
  | 0 => z = 0
  | 1 => R32 z
  | 2 => R64 z
  | 3 => 0 ≤ z
  | _ => z = 0 ∨ z = 1
def rz_Rt (w : rz_Wt) (y : Nat) (p : Program) (l : Launch) (e : Env) (R : Room) (s : State) (m : MethodId) (args : Array Value) (below : List Frame) (meth : Method) (c : Code) (cells slots : Nat) (QW : State → Prop) (Q : Int → rz_M → Prop) : Prop :=
  ∀ (z : Int) (M' : rz_M) (H' : Heap) (locs' : List Loc) (la' : Array Slot) (pc' : Nat), Q z M' → rz_Wd w s.heap H' locs' M' → rz_rok (rz_mi y).2.2.1 z → decode (rz_mB y) pc' = .ok (rz_ri (rz_mi y).2.2.1, 1) →
    W p l e R s m args below meth c H' locs' cells slots QW (F0 m pc' la' (rz_rv w (rz_mi y).2.2.1 z))
def rz_Snd (w : rz_Wt) (l : Launch) (y pc : Nat) (ls st : List rz_V) (M : rz_M) (Q : Int → rz_M → Prop) : Prop :=
  ∀ (p : Program) (e : Env) (R : Room) (s : State) (m : MethodId) (args : Array Value) (below : List Frame) (meth : Method) (c : Code) (H : Heap) (locs : List Loc) (cells slots : Nat) (QW : State → Prop) (la : Array Slot),
    rz_Cx w y p R s m args c cells slots → rz_Wd w s.heap H locs M → rz_Lr w.2.1 c ls la → (∀ v ∈ st, rz_ok v) → rz_Rt w y p l e R s m args below meth c cells slots QW Q →
    W p l e R s m args below meth c H locs cells slots QW (F0 m pc la (st.map (rz_cv w.2.1)))
theorem sl_len (ad : Nat → Nat) : ∀ as : List rz_V, (lg_sl (as.map (rz_cv ad))).length = rz_cats as
  | [] => rfl
  | v :: r => by
    have h := sl_len ad r
    unfold lg_sl at h ⊢
    rw [List.map_cons, List.flatMap_cons, List.length_append, h]
    rcases v with v | v | v | v <;> rfl
theorem ex_len : ∀ as : List rz_V, (rz_ex as).length = rz_cats as
  | [] => rfl
  | .inl _ :: r => by simp [rz_ex, rz_cats, rz_cat, ex_len r]; omega
  | .inr (.inl _) :: r => by simp [rz_ex, rz_cats, rz_cat, ex_len r]; omega
  | .inr (.inr (.inl _)) :: r => by simp [rz_ex, rz_cats, rz_cat, ex_len r]; omega
  | .inr (.inr (.inr _)) :: r => by simp [rz_ex, rz_cats, rz_cat, ex_len r]; omega
theorem ex_at (ad : Nat → Nat) : ∀ (as : List rz_V), (∀ v ∈ as, rz_ok v) → ∀ (k : Nat) (v : rz_V), (rz_ex as)[k]? = some v → rz_nx v = true → (lg_sl (as.map (rz_cv ad)))[k]? = some (.val (rz_cv ad v)) ∧ rz_ok v
  | [], _, k, v, h, _ => by simp [rz_ex] at h
  | u :: r, ho, k, v, h, hn => by
    obtain ⟨hu, hr⟩ := List.forall_mem_cons.mp ho
    have ih := ex_at ad r hr
    rcases u with u | u | u | u
    · cases k with
      | zero => cases h; exact ⟨rfl, hu⟩
      | succ k => exact ih k v h hn
    · cases k with
      | zero => cases h; exact ⟨rfl, hu⟩
      | succ k =>
        cases k with
        | zero => cases h; exact absurd hn (by decide)
        | succ k => exact ih k v h hn
    · cases k with
      | zero => cases h; exact ⟨rfl, hu⟩
      | succ k => exact ih k v h hn
    · exact hu.elim
theorem entry_Lr {ad : Nat → Nat} {c : Code} {n : Nat} {as : List rz_V} (hok : ∀ v ∈ as, rz_ok v) (hle : rz_cats as ≤ n) (hml : c.maxLocals = n) :
    rz_Lr ad c (rz_L0 n as) ((lg_sl (as.map (rz_cv ad)) ++ List.replicate (n - (lg_sl (as.map (rz_cv ad))).length) Slot.unset).toArray) := by
  have hv := lv_entry (as.map (rz_cv ad)) (n := n) (by rw [sl_len]; exact hle)
  refine ⟨by rw [hml, hv.1], by rw [hv.1]; unfold rz_L0; rw [List.length_append, List.length_replicate, ex_len]; omega, hv.2.1, fun k v hk hn => ?_⟩
  unfold rz_L0 at hk
  by_cases hk2 : k < (rz_ex as).length
  · rw [List.getElem?_append_left hk2] at hk
    obtain ⟨h1, h2⟩ := ex_at ad as hok k v hk hn
    refine ⟨?_, h2⟩
    rw [List.getElem?_toArray, List.getElem?_append_left (by rw [sl_len, ← ex_len]; exact hk2)]
    exact h1
  · rw [List.getElem?_append_right (by omega)] at hk
    have := List.mem_of_getElem? hk
    rw [List.mem_replicate] at this
    rw [this.2] at hn
    exact absurd hn (by decide)
section RZC
variable {w : rz_Wt} {p : Program} {l : Launch} {e : Env} {R : Room} {s : State} {m : MethodId} {args : Array Value} {below : List Frame} {meth : Method} {c : Code} {H : Heap} {locs : List Loc} {cells slots : Nat} {QW : State → Prop}
variable {cc : ByteArray} {pc n t y : Nat} {ls st : List rz_V} {la : Array Slot} {M : rz_M} {P : Nat → List rz_V → List rz_V → rz_M → Prop}
theorem zf_ret {z : Nat} (hz : rz_zf z) : match (rz_mi z).2.2.1 with | 0 => rz_mR z = none | 1 => rz_mR z = some .int | 2 => rz_mR z = some .long | 3 => ∃ n, rz_mR z = some (.object n) | _ => rz_mR z = some .boolean := hz.2.2.2.2.2.2
theorem met_of {z : Nat} {as : List rz_V} {Rz : Int → rz_M → Prop} (hz : rz_zf z) (hz2 : z < 213) (h : rz_Snd w l z 0 (rz_L0 (rz_mi z).2.2.2 as) [] M Rz) (hok : ∀ v ∈ as, rz_ok v) (hle : rz_cats as ≤ (rz_mi z).2.2.2) :
    Met l (rz_mN z) (rz_wsM z) ({ frames := (rz_rk z).1, cells := 0, slots := 0, locals := (rz_rk z).2 }) (rz_Pc w as M) (rz_Qc w (rz_mi z).2.2.1 Rz) 0 0 w.2.2.2.1 := by
  refine Met.ofW (cc := rz_mB z) (maxL := (rz_mi z).2.2.2) (ret := rz_mR z) hz.2.2.2.2.1 rfl ?_
  intro p e s m args below meth c s₁ B hml hv
  obtain ⟨rfl, hB0, hOl⟩ := hv
  have hts : ∀ q ∈ rz_tb, q.before (as.map (rz_cv w.2.1)).toArray s = true := fun q hq => atoms_spec (ws := rz_wsM z) B.pre q (List.mem_cons_of_mem _ hq)
  have hown : s.vm.findClass (rz_cn (rz_mi z).1) = some m.cls := by
    rw [← hz.2.2.2.2.2.1]
    exact findClass_of_methodNamed B.named
  rw [lg_entry_eq]
  refine h p e _ s m _ below meth c s.heap [] 0 0 _ _ ⟨B.exec, B.bytes, hown, hts, Nat.le_refl _, Nat.le_refl _, ⟨Nat.le_refl _, Nat.le_refl _⟩, hz2, hOl⟩ (B0_Wd hB0 va_S.rf) (entry_Lr hok hle hml) (fun v hv => absurd hv List.not_mem_nil) ?_
  intro r M' H' locs' la' pc' hQ hW' hr hdg
  have hret := B.returns
  have hzr := zf_ret hz
  have hb := B.bytes
  have hx := B.exec
  have hlk := B.notSynchronized
  revert hr hdg hzr
  generalize (rz_mi z).2.2.1 = k
  intro hr hdg hzr
  match k with
  | 0 =>
    rw [hzr] at hret
    have hr : r = 0 := hr
    subst hr
    exact W.vret hx hb hret (fun t ht hWt => ⟨⟨M', rfl, hQ, by show rz_B0 w M' t.heap; rw [ht]; exact Wd_B0 hW'⟩, hW'.2.2.1.F ht⟩) hW'.2.2.1.2.2 hdg hlk
  | 1 =>
    rw [hzr] at hret
    exact W.iret hx hb hret (fun t ht hWt => ⟨⟨Int32.ofInt r, M', rfl, by show Rz (Int32.ofInt r).toInt M'; rw [to32_of hr]; exact hQ, by show rz_B0 w M' t.heap; rw [ht]; exact Wd_B0 hW'⟩, hW'.2.2.1.F ht⟩) hW'.2.2.1.2.2 hdg hlk
  | 2 =>
    rw [hzr] at hret
    exact W.lret hx hb hret (fun t ht hWt => ⟨⟨Int64.ofInt r, M', rfl, by show Rz (Int64.ofInt r).toInt M'; rw [to64_of hr]; exact hQ, by show rz_B0 w M' t.heap; rw [ht]; exact Wd_B0 hW'⟩, hW'.2.2.1.F ht⟩) hW'.2.2.1.2.2 hdg hlk
  | 3 =>
    obtain ⟨nm, hzr⟩ := hzr
    rw [hzr] at hret
    exact W.aret hx hb hret (Or.inl ⟨nm, rfl⟩) (Or.inr ⟨_, rfl⟩) (fun t ht hWt => ⟨⟨(r.toNat, M'), _, rfl, by show Rz ((r.toNat : Nat) : Int) M'; rw [Int.toNat_of_nonneg hr]; exact hQ, rfl, by show rz_B0 w M' t.heap; rw [ht]; exact Wd_B0 hW'⟩, hW'.2.2.1.F ht⟩) hW'.2.2.1.2.2 hdg hlk
  | k + 4 =>
    have hzr : rz_mR z = some .boolean := hzr
    rw [hzr] at hret
    have hr : r = 0 ∨ r = 1 := hr
    have h32 : R32 r := by rcases hr with rfl | rfl <;> exact ⟨by decide, by decide⟩
    exact W.zret hx hb hret (by rcases hr with rfl | rfl <;> rfl) (fun t ht hWt => ⟨⟨Int32.ofInt r, M', rfl, by show Rz (Int32.ofInt r).toInt M'; rw [to32_of h32]; exact hQ, by show rz_B0 w M' t.heap; rw [ht]; exact Wd_B0 hW'⟩, hW'.2.2.1.F ht⟩) hW'.2.2.1.2.2 hdg hlk
theorem Ol_moved {U : State} (h : rz_Ol w s) (hS : va_S w.2.2.2.1 s.heap H locs) (hU : U.heap = H) (hW : s.WarmedH U.vm) : rz_Ol w U := by
  obtain ⟨h1, h2, h3, h4, h5, h6, h7, h8⟩ := h
  have hk : ∀ a : Nat, a < s.heap.size → ¬ w.2.2.2.1 a → U.heap[a]? = s.heap[a]? := fun a h1 h2 => by rw [hU]; exact hS.2.1 a h1 h2
  refine ⟨va_K.moved hW.alike h1, fun k hk1 => (va_Z.moved hW.alike (h2 k hk1)).kept hk, fun f hf k hk1 => (va_OF.moved hW.alike (h3 f hf k hk1)).kept hk, fun k hk1 => ?_, ?_, h6, h7, fun a i x h hm => va_Nw.warmM hW (h8 a i x h hm)⟩
  · obtain ⟨cell, g1, g2, g3, g4⟩ := h4 k hk1
    exact ⟨cell, by rw [hk _ (Array.getElem?_eq_some_iff.mp g1).1 g4]; exact g1, g2, by rw [hW.alike.findClass]; exact g3, g4⟩
  · obtain ⟨scr, g1, -⟩ := id h5
    exact (va_X.moved hW.alike h5).kept (hk _ (Array.getElem?_eq_some_iff.mp g1).1 h6)
theorem blind {as : List rz_V} : FrameBlind (rz_Pc w as M) := by
  intro a U g mk q
  obtain ⟨q0, q1, o1, o2, o3, o4, o5, o6, o7, o8⟩ := q
  exact ⟨q0, q1, va_K.moved (u := U) (U := U.calling g mk a) (Vm.Alike.refl U.vm) o1, fun k hk => va_Z.moved (u := U) (U := U.calling g mk a) (Vm.Alike.refl U.vm) (o2 k hk), fun f hf k hk => va_OF.moved (u := U) (U := U.calling g mk a) (Vm.Alike.refl U.vm) (o3 f hf k hk), o4, va_X.moved (u := U) (U := U.calling g mk a) (Vm.Alike.refl U.vm) o5, o6, o7, fun a i x h hm => va_Nw.same rfl (rfl : U.vm = (U.calling g mk _).vm) (o8 a i x h hm)⟩
theorem so_after (K : rz_K w p l e R s m args below meth c cells slots QW P) (hL : rz_Lr w.2.1 c ls la) {k : Nat} {Rz : Int → rz_M → Prop} {r st0 : List rz_V} {aa : Array Value} (hW : rz_Wd w s.heap H locs M) (hr : ∀ v ∈ r, rz_ok v)
    (hrun : va_Run p l e R s m args below meth c H locs cells slots 0 0 (F0 m pc la (st0.map (rz_cv w.2.1))) (r.map (rz_cv w.2.1)) (rz_Qc w k Rz aa) w.2.2.2.1)
    (hk : ∀ z m', Rz z m' → P (pc + 3) ls (rz_pu k z r) m') : W p l e R s m args below meth c H locs cells slots QW (F0 m pc la (st0.map (rz_cv w.2.1))) := by
  match k with
  | 0 =>
    exact va_callv (a := aa) hrun hW.2.2.1 (fun _ _ h => h) (fun _ h => h) (fun u t H1 locs1 ht hvm hp hB hz1 hk1 hS1 => by
      rw [ht] at hB
      exact K (pc + 3) ls r u H1 locs1 la (B0_Wd hB hS1) hL hr (hk _ _ hp))
  | 1 =>
    exact va_calli (a := aa) hrun hW.2.2.1 (fun _ _ h => h) (fun _ h => h) (fun q u t H1 locs1 ht hvm hp hB hz1 hk1 hS1 => by
      rw [ht] at hB
      have g := K (pc + 3) ls (rI q.toInt :: r) u H1 locs1 la (B0_Wd hB hS1) hL (List.forall_mem_cons.mpr ⟨to32_R q, hr⟩) (hk _ _ hp)
      rw [List.map_cons, show rz_cv w.2.1 (rI q.toInt) = .int q from congrArg Value.int (Int32.ofInt_toInt q)] at g
      exact g)
  | 2 =>
    exact va_calll (a := aa) hrun hW.2.2.1 (fun _ _ h => h) (fun _ h => h) (fun q u t H1 locs1 ht hvm hp hB hz1 hk1 hS1 => by
      rw [ht] at hB
      have g := K (pc + 3) ls (rL q.toInt :: r) u H1 locs1 la (B0_Wd hB hS1) hL (List.forall_mem_cons.mpr ⟨to64_R q, hr⟩) (hk _ _ hp)
      rw [List.map_cons, show rz_cv w.2.1 (rL q.toInt) = .long q from congrArg Value.long (Int64.ofInt_toInt q)] at g
      exact g)
  | 3 =>
    exact va_callr (a := aa) hrun hW.2.2.1 (fun _ _ h => h) (fun _ h => h) (fun u ra t H1 locs1 ht hvm hp hB hz1 hk1 hS1 => by
      obtain ⟨rfl, hB⟩ := hB
      rw [ht] at hB
      exact K (pc + 3) ls (rR u.1 :: r) u.2 H1 locs1 la (B0_Wd hB hS1) hL (List.forall_mem_cons.mpr ⟨trivial, hr⟩) (by have := hk _ _ hp; simpa [rz_pu] using this))
  | k + 4 =>
    exact va_calli (a := aa) (post := fun (r : Int32) (m' : rz_M) => Rz r.toInt m') (B := fun m' t => rz_B0 w m' t.heap) hrun hW.2.2.1 (fun _ _ h => h) (fun _ h => h) (fun q u t H1 locs1 ht hvm hp hB hz1 hk1 hS1 => by
      rw [ht] at hB
      have g := K (pc + 3) ls (rI q.toInt :: r) u H1 locs1 la (B0_Wd hB hS1) hL (List.forall_mem_cons.mpr ⟨to32_R q, hr⟩) (hk _ _ hp)
      rw [List.map_cons, show rz_cv w.2.1 (rI q.toInt) = .int q from congrArg Value.int (Int32.ofInt_toInt q)] at g
      exact g)
theorem so_calx (K : rz_K w p l e R s m args below meth c cells slots QW P) (hW : rz_Wd w s.heap H locs M) (hL : rz_Lr w.2.1 c ls la) (hS : ∀ v ∈ st, rz_ok v) (hC : rz_Cx w y p R s m args c cells slots) {idx : Nat} {i : Instr} (hi : i = .invokevirtual idx ∨ i = .invokestatic idx) (hlk : rz_lkf ((rz_mi y).1, idx)) (hst : i = .invokestatic idx ↔ rz_stat (rz_lm (rz_mi y).1 idx) = true) (hdg : decode (rz_mB y) pc = .ok (i, 3)) (hn : n = pc + 3)
    (h : rz_calx (rz_CX (rz_Snd w l)) y n ls st M P (rz_lm (rz_mi y).1 idx)) : W p l e R s m args below meth c H locs cells slots QW (F0 m pc la (st.map (rz_cv w.2.1))) := by
  subst hn
  obtain ⟨hzl, hl⟩ := hlk
  dsimp only at hzl hl
  generalize rz_lm (rz_mi y).1 idx = z at hzl hl h hst
  have hz := zf_all z hzl
  obtain ⟨hx, hb, hown, hts, hfr, hlo, hcs, hy, hO⟩ := hC
  unfold rz_calx at h
  rw [rz_bif] at h
  simp only [Bool.and_eq_true] at h
  obtain ⟨⟨⟨⟨⟨⟨⟨h1, h2⟩, h3⟩, h4⟩, h5⟩, h6⟩, h7⟩, Rz, hX, hk⟩ := h
  have h2 : (rz_mi z).2.1 ≤ st.length := Nat.le_of_ble_eq_true h2
  have h4 : rz_cats (st.drop (rz_mi z).2.1) ≤ 8 := Nat.le_of_ble_eq_true h4
  have h5 : (rz_rk z).1 < (rz_rk y).1 := by simpa [Nat.blt_eq] using h5
  have h6 : 19 + (rz_mi z).2.2.2 + (rz_rk z).2 ≤ (rz_rk y).2 := Nat.le_of_ble_eq_true h6
  have h7 : rz_cats (st.take (rz_mi z).2.1).reverse ≤ (rz_mi z).2.2.2 := Nat.le_of_ble_eq_true h7
  have hz2 : z < 213 := Nat.lt_trans (by simpa [Nat.blt_eq] using h1) (by decide : 209 < 213)
  have est : st = ((st.take (rz_mi z).2.1).reverse).reverse ++ st.drop (rz_mi z).2.1 := by rw [List.reverse_reverse, List.take_append_drop]
  have hlen : ((st.take (rz_mi z).2.1).reverse).length = (rz_mi z).2.1 := by rw [List.length_reverse, List.length_take]; omega
  generalize hasE : (st.take (rz_mi z).2.1).reverse = as at *
  generalize hrE : st.drop (rz_mi z).2.1 = r at *
  have hok : ∀ v ∈ as, rz_ok v := fun v hv => hS v (by rw [est]; exact List.mem_append_left _ (List.mem_reverse.mpr hv))
  have hr : ∀ v ∈ r, rz_ok v := fun v hv => hS v (by rw [est]; exact List.mem_append_right _ hv)
  have hM := met_of hz hz2 hX hok h7
  have hR : ({ frames := (rz_rk z).1, cells := 0, slots := 0, locals := (rz_rk z).2 } : Room).frames + 1 ≤ R.frames ∧ 8 + ((rz_mi z).2.2.2 + 11) + ({ frames := (rz_rk z).1, cells := 0, slots := 0, locals := (rz_rk z).2 } : Room).locals ≤ R.locals := ⟨by show (rz_rk z).1 + 1 ≤ _; omega, by show 8 + ((rz_mi z).2.2.2 + 11) + (rz_rk z).2 ≤ _; omega⟩
  have hcr : ((r.map (rz_cv w.2.1)).map fun v => v.category).sum ≤ 8 := by rw [cats_sum]; exact h4
  have hPU : ∀ U : State, U.heap = H → s.WarmedH U.vm → rz_Pc w as M (as.map (rz_cv w.2.1)).toArray U := fun U hU hWU => ⟨rfl, by rw [hU]; exact Wd_B0 hW, Ol_moved hO hW.2.2.1 hU hWU⟩
  have fin : ∀ aa, va_Run p l e R s m args below meth c H locs cells slots 0 0 (F0 m pc la (st.map (rz_cv w.2.1))) (r.map (rz_cv w.2.1)) (rz_Qc w (rz_mi z).2.2.1 Rz aa) w.2.2.2.1 → W p l e R s m args below meth c H locs cells slots QW (F0 m pc la (st.map (rz_cv w.2.1))) :=
    fun aa hrun => so_after K hL hW hr hrun hk
  have hini := hts _ (tb hz.2.1)
  have hd := hz.2.2.1
  have hf : cells + 0 ≤ R.cells ∧ slots + 0 ≤ R.slots := hcs
  have hsk := hz.2.2.2.1
  cases hsb : rz_stat z with
  | true =>
    have hi' := hst.mpr hsb
    subst hi'
    rw [hsb] at hsk hd
    simp only [cond_true] at hsk hd
    have hstack : st.map (rz_cv w.2.1) = (as.map (rz_cv w.2.1)).reverse ++ r.map (rz_cv w.2.1) := by
      conv => lhs; rw [est]
      rw [List.map_append, List.map_reverse]
    rcases hl with hl | ⟨-, host, hl⟩
    · exact fin _ (va_runS (S := ⟨hx, hb, hL.1, hown, hts⟩) hM ⟨callB_of ((rz_mi z).2.1) hts (good_M hz) rfl rfl rfl hini (hts _ (tb hl)) hd hR, hts _ (tb hsk)⟩ ⟨blind, hPU⟩ rfl (by rw [List.length_map, hlen]) rfl hstack (lv_room hcr) hdg hf)
    · have hl2 : va_Nw (.methodLinkNest (rz_cn (rz_mi y).1) idx (rz_mN z) host) s := hO.2.2.2.2.2.2.2 _ _ _ _ hl
      exact fin _ (va_runSN (S := ⟨hx, hb, hL.1, hown, hts⟩) hM ⟨va_cnB ((rz_mi z).2.1) hts (good_M hz) rfl rfl rfl hl2 hini hd hR, hts _ (tb hsk), trivial⟩ ⟨blind, hPU⟩ rfl (by rw [List.length_map, hlen]) rfl hstack (lv_room hcr) hdg hf)
  | false =>
    have hi' : i = .invokevirtual idx := hi.resolve_right (fun q => by have := hst.mp q; rw [hsb] at this; cases this)
    subst hi'
    rw [hsb] at hsk hd
    simp only [cond_false] at hsk hd
    have hl : Cond.methodLink (rz_cn (rz_mi y).1) idx (rz_mN z) ∈ lw_tbl := hl.resolve_right (fun q => by have := q.1; rw [hsb] at this; cases this)
    unfold rz_rcv at h3
    rw [hsb, cond_false] at h3
    rcases as with _ | ⟨v | v | o | v, as'⟩
    case cons.inr.inr.inl =>
      have hstack : st.map (rz_cv w.2.1) = (as'.map (rz_cv w.2.1)).reverse ++ .ref (w.2.1 o) :: r.map (rz_cv w.2.1) := by
        conv => lhs; rw [est]
        rw [List.map_append, List.map_reverse]
        simp [rz_cv]
      have hcell : ∃ cellB : Cell, H[w.2.1 o]? = some cellB ∧ cellB.vm.isStatics = false ∧ s.vm.findClass (rz_mN z).cls = some cellB.cls := by
        obtain ⟨q, hq⟩ := isC_S h3
        rw [hz.2.2.2.2.2.1]
        by_cases h8 : (rz_mi z).1 < 8
        · obtain ⟨rr, g1, g2⟩ := hW.1 o (w.2.1 o, .inr ((rz_mi z).1, rz_fv w.2.1 M o (rz_mi z).1)) ((ws_get (S_ltNX hq (by omega))).trans (by rw [ce_4 hq]))
          dsimp only at g1 g2
          obtain ⟨cell, g3, g4, g5, -⟩ := g2
          refine ⟨cell, g3, by rw [g5]; rfl, ?_⟩
          rw [g4]
          exact (hO.1.1 _ _ (cls_at _ h8)).2.1
        · have hq2 := S_top o
          rw [hq] at hq2
          have h88 : (rz_mi z).1 = 8 := by
            have := (by decide +kernel : ∀ z, z < 213 → (rz_mi z).1 ≤ 12) z hz2
            omega
          rw [h88] at hq ⊢
          obtain ⟨e1, e2⟩ := S_kind hq
          obtain ⟨cell, g1, g2, g3, g4⟩ := hO.2.2.2.1 (o - rz_NX) e2
          rw [show rz_NX + (o - rz_NX) = o from by omega] at g1 g4
          exact ⟨cell, by rw [hW.2.2.1.2.1 _ (Array.getElem?_eq_some_iff.mp g1).1 g4]; exact g1, g2, g3⟩
      have hnn : as'.length = (rz_mi z).2.1 - 1 := by rw [← hlen]; simp
      have hrun := va_runV (S := ⟨hx, hb, hL.1, hown, hts⟩) hM (C := (rz_mN z).cls) (b := w.2.1 o) (As := as'.map (rz_cv w.2.1)) (rest := r.map (rz_cv w.2.1)) (g := F0 m pc la (st.map (rz_cv w.2.1))) (l := l) (e := e) (below := below) (meth := meth) (locs := locs) (cells := cells) (slots := slots) (R := R) (index := idx)
        ⟨callB_of ((rz_mi z).2.1 - 1) hts (good_M hz) rfl rfl rfl hini (hts _ (tb hl)) hd hR, hts _ (tb hsk.1), hts _ (tb hsk.2)⟩ ⟨blind, hcell, hPU⟩ rfl (by rw [List.length_map]; exact hnn) rfl hstack (lv_room hcr) hdg hf
      exact fin _ hrun
    all_goals exact absurd (show false = true from h3) (by decide)
end RZC
