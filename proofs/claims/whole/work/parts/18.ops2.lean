/-! each instruction's meaning, held against the JVM's: branches, cells -/
def rz_jc (k : Jvm.ClassFile.Cond) (x y : Int32) : Prop := match k with | .eq => x = y | .ne => ¬ x = y | .lt => x < y | .ge => y ≤ x | .gt => y < x | .le => x ≤ y
theorem of32_eq {a b : Int} (ha : R32 a) (hb : R32 b) : Int32.ofInt a = Int32.ofInt b ↔ a = b := by rw [← Int32.toInt_inj, to32_of ha, to32_of hb]
theorem of32_lt {a b : Int} (ha : R32 a) (hb : R32 b) : Int32.ofInt a < Int32.ofInt b ↔ a < b := by rw [Int32.lt_iff_toInt_lt, to32_of ha, to32_of hb]
theorem of32_le {a b : Int} (ha : R32 a) (hb : R32 b) : Int32.ofInt a ≤ Int32.ofInt b ↔ a ≤ b := by rw [Int32.le_iff_toInt_le, to32_of ha, to32_of hb]
theorem jc_con {k : Jvm.ClassFile.Cond} {a b : Int} (ha : R32 a) (hb : R32 b) : rz_jc k (Int32.ofInt a) (Int32.ofInt b) ↔ rz_con k a b := by
  cases k
  · exact of32_eq ha hb
  · exact not_congr (of32_eq ha hb)
  · exact of32_lt ha hb
  · exact of32_le hb ha
  · exact of32_lt hb ha
  · exact of32_le ha hb
section RZB
variable {w : rz_Wt} {p : Program} {l : Launch} {e : Env} {R : Room} {s : State} {m : MethodId} {args : Array Value} {below : List Frame} {meth : Method} {c : Code} {H : Heap} {locs : List Loc} {cells slots : Nat} {QW : State → Prop}
variable {cc : ByteArray} {pc n t : Nat} {ls st : List rz_V} {la : Array Slot} {M : rz_M} {P : Nat → List rz_V → List rz_V → rz_M → Prop}
theorem row_if1 (hx : p.tables.exec = Jvm.exec) (hb : c.code = cc) (k : Jvm.ClassFile.Cond) {off : Int} (hdg : decode cc pc = .ok (.ifCond k off, 3)) (ht : (pc : Int) + off = (t : Int)) (x : Int32) (rest : List Value)
    (k1 : rz_jc k x 0 → W p l e R s m args below meth c H locs cells slots QW (F0 m t la rest)) (k2 : ¬ rz_jc k x 0 → W p l e R s m args below meth c H locs cells slots QW (F0 m (pc + 3) la rest)) : W p l e R s m args below meth c H locs cells slots QW (F0 m pc la (.int x :: rest)) := by
  cases k
  · exact lv_if_eq hx hb hdg ht k1 k2
  · exact lv_if_ne hx hb hdg ht k1 (fun h => k2 (fun q => q h))
  · exact lv_if_lt hx hb hdg ht k1 k2
  · exact lv_if_ge hx hb hdg ht k1 k2
  · exact lv_if_gt hx hb hdg ht k1 k2
  · exact lv_if_le hx hb hdg ht k1 k2
theorem row_if2 (hx : p.tables.exec = Jvm.exec) (hb : c.code = cc) (k : Jvm.ClassFile.Cond) {off : Int} (hdg : decode cc pc = .ok (.if_icmp k off, 3)) (ht : (pc : Int) + off = (t : Int)) (x y : Int32) (rest : List Value)
    (k1 : rz_jc k x y → W p l e R s m args below meth c H locs cells slots QW (F0 m t la rest)) (k2 : ¬ rz_jc k x y → W p l e R s m args below meth c H locs cells slots QW (F0 m (pc + 3) la rest)) : W p l e R s m args below meth c H locs cells slots QW (F0 m pc la (.int y :: .int x :: rest)) := by
  cases k
  · exact lv_icmp_eq hx hb hdg ht k1 k2
  · exact lv_icmp_ne hx hb hdg ht k1 (fun h => k2 (fun q => q h))
  · exact lv_icmp_lt hx hb hdg ht k1 k2
  · exact lv_icmp_ge hx hb hdg ht k1 k2
  · exact lv_icmp_gt hx hb hdg ht k1 k2
  · exact lv_icmp_le hx hb hdg ht k1 k2
theorem so_if1 (K : rz_K w p l e R s m args below meth c cells slots QW P) (hW : rz_Wd w s.heap H locs M) (hL : rz_Lr w.2.1 c ls la) (hS : ∀ v ∈ st, rz_ok v) (hx : p.tables.exec = Jvm.exec) (hb : c.code = cc) {k : Jvm.ClassFile.Cond} {off : Int} (hdg : decode cc pc = .ok (.ifCond k off, 3)) (ht : (pc : Int) + off = (t : Int)) (hn : n = pc + 3)
    (h : rz_if1 n t ls st M P k) : W p l e R s m args below meth c H locs cells slots QW (F0 m pc la (st.map (rz_cv w.2.1))) := by
  subst hn
  unfold rz_if1 at h
  split at h
  · next a r =>
    obtain ⟨ha, hr⟩ := List.forall_mem_cons.mp hS
    have hj := jc_con (k := k) ha (b := 0) ⟨by decide, by decide⟩
    exact row_if1 hx hb k hdg ht _ _ (fun q => K _ _ _ _ _ _ _ hW hL hr (h.1 (hj.mp q))) (fun q => K _ _ _ _ _ _ _ hW hL hr (h.2 (fun z => q (hj.mpr z))))
  · exact h.elim
theorem so_if2 (K : rz_K w p l e R s m args below meth c cells slots QW P) (hW : rz_Wd w s.heap H locs M) (hL : rz_Lr w.2.1 c ls la) (hS : ∀ v ∈ st, rz_ok v) (hx : p.tables.exec = Jvm.exec) (hb : c.code = cc) {k : Jvm.ClassFile.Cond} {off : Int} (hdg : decode cc pc = .ok (.if_icmp k off, 3)) (ht : (pc : Int) + off = (t : Int)) (hn : n = pc + 3)
    (h : rz_if2 n t ls st M P k) : W p l e R s m args below meth c H locs cells slots QW (F0 m pc la (st.map (rz_cv w.2.1))) := by
  subst hn
  unfold rz_if2 at h
  split at h
  · next b a r =>
    obtain ⟨hb', h2⟩ := List.forall_mem_cons.mp hS
    obtain ⟨ha, hr⟩ := List.forall_mem_cons.mp h2
    have hj := jc_con (k := k) ha hb'
    exact row_if2 hx hb k hdg ht _ _ _ (fun q => K _ _ _ _ _ _ _ hW hL hr (h.1 (hj.mp q))) (fun q => K _ _ _ _ _ _ _ hW hL hr (h.2 (fun z => q (hj.mpr z))))
  · exact h.elim
theorem rz_sw_at {x : Int} : ∀ (offs : List Int) (lo : Int) (j : Nat) (o : Int), rz_sw ls st M P offs pc lo x → offs[j]? = some o → x = lo + j → P ((pc : Int) + o).toNat ls st M
  | [], _, _, _, _, h, _ => by cases h
  | o :: r, lo, 0, q, h, hj, hx => by
    cases hj
    exact h.1 (by simpa using hx)
  | o :: r, lo, j + 1, q, h, hj, hx => rz_sw_at r (lo + 1) j q h.2 (by simpa using hj) (by omega)
theorem so_tsw (K : rz_K w p l e R s m args below meth c cells slots QW P) (hW : rz_Wd w s.heap H locs M) (hL : rz_Lr w.2.1 c ls la) (hS : ∀ v ∈ st, rz_ok v) (hx : p.tables.exec = Jvm.exec) (hb : c.code = cc) {d lo hi : Int} {offs : Array Int} {len : Nat} (hdg : decode cc pc = .ok (.tableswitch d lo hi offs, len)) (h0 : 0 ≤ (pc : Int) + d) (hsz : (offs.size : Int) = hi - lo + 1) (hall : ∀ x ∈ offs.toList, 0 ≤ (pc : Int) + x)
    (h : rz_tsw ls st M P pc d lo hi offs) : W p l e R s m args below meth c H locs cells slots QW (F0 m pc la (st.map (rz_cv w.2.1))) := by
  unfold rz_tsw at h
  split at h
  · next x r =>
    obtain ⟨ha, hr⟩ := List.forall_mem_cons.mp hS
    have hi' : (Int32.ofInt x).toInt = x := to32_of ha
    by_cases hr' : x < lo ∨ hi < x
    · exact lv_tableOut hx hb (tgt := ((pc : Int) + d).toNat) hdg (by rw [hi']; exact hr') (Int.toNat_of_nonneg h0).symm (K _ _ _ _ _ _ _ hW hL hr (h.1 hr'))
    · have hlt : (x - lo).toNat < offs.size := by omega
      have ho : offs[(x - lo).toNat]? = some offs[(x - lo).toNat] := Array.getElem?_eq_getElem hlt
      refine lv_tableIn hx hb (tgt := ((pc : Int) + offs[(x - lo).toNat]).toNat) hdg (by rw [hi']; omega) (by rw [hi']; omega) (by rw [hi']; exact ho) (Int.toNat_of_nonneg (hall _ (by simp))).symm (K _ _ _ _ _ _ _ hW hL hr ?_)
      exact rz_sw_at offs.toList lo (x - lo).toNat _ h.2 (by rw [Array.getElem?_toList]; exact ho) (by omega)
  · exact h.elim
theorem Wd_next {H1 : Heap} {locs1 : List Loc} {M' : rz_M} {H0 : Heap} {a : Nat} {E : va_E} (hW : rz_Wd w H0 H locs M) (hset : (wWs w M).set a (w.2.1 a, E) = wWs w M')
    (hP : va_P w.1 rz_cls ((wWs w M).set a (w.2.1 a, E)) H1) (hD : va_D w.2.2.2.1 ((wWs w M).set a (w.2.1 a, E))) (hS : va_S w.2.2.2.1 H0 H1 locs1) (hmo : rz_mo M') (h4 : ∀ j, M' 400 j = M 400 j) : rz_Wd w H0 H1 locs1 M' := by
  rw [hset] at hP hD
  exact ⟨hP, hD, hS, hmo, by rw [h4]; exact hW.2.2.2.2.1, hW.2.2.2.2.2.1, fun j hj => by rw [h4]; exact hW.2.2.2.2.2.2 j hj⟩
theorem up_400 {a : Nat} {i v : Int} (h : a < rz_NX) (j : Int) : rz_up M a i v 400 j = M 400 j := if_neg fun q => by
  have : (400 : Nat) < 249 := by rw [q.1]; exact h
  exact absurd this (by decide)
theorem S_ltNX {a k n : Nat} (h : rz_S a = (k, n)) (hk : k < 12) : a < rz_NX := rz_S_lt (by rw [h]; exact hk)
theorem so_ald (K : rz_K w p l e R s m args below meth c cells slots QW P) (hW : rz_Wd w s.heap H locs M) (hL : rz_Lr w.2.1 c ls la) (hS : ∀ v ∈ st, rz_ok v) (hx : p.tables.exec = Jvm.exec) (hb : c.code = cc) (hK : va_K w.1 rz_cls (wTy w) s) (hdg : decode cc pc = .ok (.iaload, 1)) (hn : n = pc + 1)
    (h : rz_ald n ls st M P) : W p l e R s m args below meth c H locs cells slots QW (F0 m pc la (st.map (rz_cv w.2.1))) := by
  subst hn
  unfold rz_ald at h
  split at h
  · next i a r =>
    obtain ⟨hi, h2⟩ := List.forall_mem_cons.mp hS
    obtain ⟨-, hr⟩ := List.forall_mem_cons.mp h2
    rw [rz_bif] at h
    obtain ⟨hk, hin, h⟩ := h
    obtain ⟨z, h1, h3, h4⟩ := isK_S hk
    rw [h3] at hin
    refine va_iald hx hb hK hW.1 a 0 ((ws_get (S_ltNX h1 (by decide))).trans (by rw [ce_0 h1])) rfl (in_of hi hin) hdg ?_
    rw [cl32_of hi hin.1]
    exact so_push K hW hL hr (v := rI (M a i)) (mo_0 hW.2.2.2.1 h1 i) (by show Value.int (Int32.ofInt (M a i)) = _; rw [Int.toNat_of_nonneg hin.1]) h
  · exact h.elim
theorem so_lald (K : rz_K w p l e R s m args below meth c cells slots QW P) (hW : rz_Wd w s.heap H locs M) (hL : rz_Lr w.2.1 c ls la) (hS : ∀ v ∈ st, rz_ok v) (hx : p.tables.exec = Jvm.exec) (hb : c.code = cc) (hK : va_K w.1 rz_cls (wTy w) s) (hdg : decode cc pc = .ok (.laload, 1)) (hn : n = pc + 1)
    (h : rz_lald n ls st M P) : W p l e R s m args below meth c H locs cells slots QW (F0 m pc la (st.map (rz_cv w.2.1))) := by
  subst hn
  unfold rz_lald at h
  split at h
  · next i a r =>
    obtain ⟨hi, h2⟩ := List.forall_mem_cons.mp hS
    obtain ⟨-, hr⟩ := List.forall_mem_cons.mp h2
    rw [rz_bif] at h
    obtain ⟨hk, hin, h⟩ := h
    obtain ⟨z, h1, h3, h4⟩ := isK_S hk
    rw [h3] at hin
    refine va_lald hx hb hK hW.1 a 1 ((ws_get (S_ltNX h1 (by decide))).trans (by rw [ce_1 h1])) rfl (in_of hi hin) hdg ?_
    rw [cl32_of hi hin.1]
    exact so_push K hW hL hr (v := rL (M a i)) (mo_1 hW.2.2.2.1 h1 i) (by show Value.long (Int64.ofInt (M a i)) = _; rw [Int.toNat_of_nonneg hin.1]) h
  · exact h.elim
theorem row_aald {q0 t0 : Nat} {ws : va_W} {cA : ClassId} {ty : FieldType} {N a : Nat} {f : Nat → Option Nat} {D : va_G} {cl : List vw_C} {tys : List (ClassId × FieldType)} {rest : List Value} (hx : p.tables.exec = Jvm.exec) (hb : c.code = cc) (hK : va_K D cl tys s) (hP : va_P D cl ws H) (ha : ws[q0]? = some (a, .inl (cA, N, .inr (.inr (.inr (.inr f)))))) (ht : tys[t0]? = some (cA, ty)) (hty : ty.isReference = true) {i : Int32} (hin : vp_in i N) (hdg : decode cc pc = .ok (.aaload, 1))
    (kk : W p l e R s m args below meth c H locs cells slots QW (F0 m (pc + 1) la (va_rf (f i.toNatClampNeg) :: rest))) : W p l e R s m args below meth c H locs cells slots QW (F0 m pc la (.int i :: .ref a :: rest)) := by
  have hlt : i.toNatClampNeg < N := Nat.not_le.mp fun q => hin (Or.inr q)
  exact W.aald (v := va_rf (f i.toNatClampNeg)) (ty := ty) hx hb (hP q0 _ ha) ((hK.2 t0 _ ht).1 N (fun j => va_rf (f j))) hty (fun q => by cases q) (by show ¬ (i < 0 ∨ (arrV _ _ _).slots.size ≤ _); rw [arrV_size]; exact hin) (by show (arrV _ _ _).slots[_]? = _; rw [arrV_read _ _ hlt]) rfl rfl hdg kk
theorem so_aald (K : rz_K w p l e R s m args below meth c cells slots QW P) (hW : rz_Wd w s.heap H locs M) (hL : rz_Lr w.2.1 c ls la) (hS : ∀ v ∈ st, rz_ok v) (hx : p.tables.exec = Jvm.exec) (hb : c.code = cc) (hK : va_K w.1 rz_cls (wTy w) s) (hdg : decode cc pc = .ok (.aaload, 1)) (hn : n = pc + 1)
    (h : rz_aald n ls st M P) : W p l e R s m args below meth c H locs cells slots QW (F0 m pc la (st.map (rz_cv w.2.1))) := by
  subst hn
  unfold rz_aald at h
  split at h
  · next i a r =>
    obtain ⟨hi, h2⟩ := List.forall_mem_cons.mp hS
    obtain ⟨-, hr⟩ := List.forall_mem_cons.mp h2
    rw [rz_bif, Bool.or_eq_true] at h
    obtain ⟨hk, hin, h⟩ := h
    rcases hk with hk | hk
    · obtain ⟨z, h1, h3, h4⟩ := isK_S hk
      rw [h3] at hin
      refine row_aald hx hb hK hW.1 (q0 := a) (t0 := 2) ((ws_get (S_ltNX h1 (by decide))).trans (by rw [ce_2 h1])) rfl rfl (in_of hi hin) hdg ?_
      rw [cl32_of hi hin.1]
      exact so_push K hW hL hr (v := rR (rz_R a i)) trivial (by show Value.ref (w.2.1 (rz_R a i)) = va_rf (some (w.2.1 (rz_R a (i.toNat : Int)))); rw [Int.toNat_of_nonneg hin.1]; rfl) h
    · obtain ⟨z, h1, h3, h4⟩ := isK_S hk
      rw [h3] at hin
      refine row_aald hx hb hK hW.1 (q0 := a) (t0 := 3) ((ws_get (S_ltNX h1 (by decide))).trans (by rw [ce_3 h1])) rfl rfl (in_of hi hin) hdg ?_
      rw [cl32_of hi hin.1]
      exact so_push K hW hL hr (v := rR (rz_R a i)) trivial (by show Value.ref (w.2.1 (rz_R a i)) = va_rf (some (w.2.1 (rz_R a (i.toNat : Int)))); rw [Int.toNat_of_nonneg hin.1]; rfl) h
  · exact h.elim
theorem up_fn {a : Nat} {i v : Int} (hi : 0 ≤ i) {α : Type} (F : Int → α) (j : Nat) : F (rz_up M a i v a j) = if j = i.toNat then F v else F (M a j) := by
  unfold rz_up
  by_cases e : j = i.toNat
  · rw [if_pos e, if_pos ⟨rfl, by omega⟩]
  · rw [if_neg e, if_neg (fun q => e (by have := q.2; omega))]
theorem so_ast (K : rz_K w p l e R s m args below meth c cells slots QW P) (hW : rz_Wd w s.heap H locs M) (hL : rz_Lr w.2.1 c ls la) (hS : ∀ v ∈ st, rz_ok v) (hx : p.tables.exec = Jvm.exec) (hb : c.code = cc) (hK : va_K w.1 rz_cls (wTy w) s) (hdg : decode cc pc = .ok (.iastore, 1)) (hn : n = pc + 1)
    (h : rz_ast n ls st M P) : W p l e R s m args below meth c H locs cells slots QW (F0 m pc la (st.map (rz_cv w.2.1))) := by
  subst hn
  unfold rz_ast at h
  split at h
  · next v i a r =>
    obtain ⟨hv, h2⟩ := List.forall_mem_cons.mp hS
    obtain ⟨hi, h3⟩ := List.forall_mem_cons.mp h2
    obtain ⟨-, hr⟩ := List.forall_mem_cons.mp h3
    rw [rz_bif] at h
    obtain ⟨hk, hin, h⟩ := h
    obtain ⟨z, h1, h3, h4⟩ := isK_S hk
    rw [h3] at hin
    have hlt := S_ltNX h1 (by decide)
    refine va_iast hx hb hK hW.1 hW.2.1 hW.2.2.1 a 0 ((ws_get hlt).trans (by rw [ce_0 h1])) rfl (in_of hi hin) hdg (fun H1 locs1 hP hD hS1 => ?_)
    refine K _ _ _ _ _ _ _ (Wd_next hW (ws_set hlt (m' := rz_up M a i v) ?_ (fun j hj => ce_ne hj)) hP hD hS1 (mo_up hW.2.2.2.1 ?_) (up_400 hlt)) hL hr h
    · rw [ce_0 h1, cl32_of hi hin.1]
      congr 4
      funext j
      rw [up_fn hin.1 Int32.ofInt j]
      rfl
    · unfold rz_okm; rw [h1]; exact hv
  · exact h.elim
theorem so_last (K : rz_K w p l e R s m args below meth c cells slots QW P) (hW : rz_Wd w s.heap H locs M) (hL : rz_Lr w.2.1 c ls la) (hS : ∀ v ∈ st, rz_ok v) (hx : p.tables.exec = Jvm.exec) (hb : c.code = cc) (hK : va_K w.1 rz_cls (wTy w) s) (hdg : decode cc pc = .ok (.lastore, 1)) (hn : n = pc + 1)
    (h : rz_last n ls st M P) : W p l e R s m args below meth c H locs cells slots QW (F0 m pc la (st.map (rz_cv w.2.1))) := by
  subst hn
  unfold rz_last at h
  split at h
  · next v i a r =>
    obtain ⟨hv, h2⟩ := List.forall_mem_cons.mp hS
    obtain ⟨hi, h3⟩ := List.forall_mem_cons.mp h2
    obtain ⟨-, hr⟩ := List.forall_mem_cons.mp h3
    rw [rz_bif] at h
    obtain ⟨hk, hin, h⟩ := h
    obtain ⟨z, h1, h3, h4⟩ := isK_S hk
    rw [h3] at hin
    have hlt := S_ltNX h1 (by decide)
    refine va_last hx hb hK hW.1 hW.2.1 hW.2.2.1 a 1 ((ws_get hlt).trans (by rw [ce_1 h1])) rfl (in_of hi hin) hdg (fun H1 locs1 hP hD hS1 => ?_)
    refine K _ _ _ _ _ _ _ (Wd_next hW (ws_set hlt (m' := rz_up M a i v) ?_ (fun j hj => ce_ne hj)) hP hD hS1 (mo_up hW.2.2.2.1 ?_) (up_400 hlt)) hL hr h
    · rw [ce_1 h1, cl32_of hi hin.1]
      congr 5
      funext j
      rw [up_fn hin.1 Int64.ofInt j]
      rfl
    · unfold rz_okm; rw [h1]; exact hv
  · exact h.elim
theorem so_alen (K : rz_K w p l e R s m args below meth c cells slots QW P) (hW : rz_Wd w s.heap H locs M) (hL : rz_Lr w.2.1 c ls la) (hS : ∀ v ∈ st, rz_ok v) (hx : p.tables.exec = Jvm.exec) (hb : c.code = cc) (hK : va_K w.1 rz_cls (wTy w) s) (hdg : decode cc pc = .ok (.arraylength, 1)) (hn : n = pc + 1)
    (h : rz_alen n ls st M P) : W p l e R s m args below meth c H locs cells slots QW (F0 m pc la (st.map (rz_cv w.2.1))) := by
  subst hn
  unfold rz_alen at h
  split at h
  · next a r =>
    obtain ⟨-, hr⟩ := List.forall_mem_cons.mp hS
    rw [rz_bif] at h
    simp only [Bool.or_eq_true] at h
    obtain ⟨hk, h⟩ := h
    have fin : ∀ (q : Nat) (z : Nat) (E : vp_A) (cA : ClassId) (ty : FieldType), (wWs w M)[a]? = some (w.2.1 a, .inl (cA, E)) → (wTy w)[q]? = some (cA, ty) → E.1 = z → rz_len a = z → z ≤ 9600 → W p l e R s m args below meth c H locs cells slots QW (F0 m pc la ((rR a :: r).map (rz_cv w.2.1))) := by
      intro q z E cA ty g1 g2 g3 g4 g5
      refine va_alen hx hb hK hW.1 a q g1 g2 (v := Int32.ofInt (rz_len a)) (by rw [g3, g4]; rfl) hdg (so_push K hW hL hr (v := rI (rz_len a)) ?_ rfl h)
      rw [g4]
      show R32 _
      unfold R32
      omega
    rcases hk with ((hk | hk) | hk) | hk
    · obtain ⟨z, h1, h3, h4⟩ := isK_S hk
      exact fin 0 z _ _ _ ((ws_get (S_ltNX h1 (by decide))).trans (by rw [ce_0 h1])) rfl rfl h3 h4
    · obtain ⟨z, h1, h3, h4⟩ := isK_S hk
      exact fin 1 z _ _ _ ((ws_get (S_ltNX h1 (by decide))).trans (by rw [ce_1 h1])) rfl rfl h3 h4
    · obtain ⟨z, h1, h3, h4⟩ := isK_S hk
      exact fin 2 z _ _ _ ((ws_get (S_ltNX h1 (by decide))).trans (by rw [ce_2 h1])) rfl rfl h3 h4
    · obtain ⟨z, h1, h3, h4⟩ := isK_S hk
      exact fin 3 z _ _ _ ((ws_get (S_ltNX h1 (by decide))).trans (by rw [ce_3 h1])) rfl rfl h3 h4
  · exact h.elim
end RZB
