/-! the constructors' machine is right: its runs -/
theorem in_good {z : Nat} (hz : in_zf z) : GoodIn rz_tb (rz_wsM z) := by
  intro q hq
  rcases List.mem_cons.mp hq with rfl | h
  · exact ⟨tb hz.1, good_of_word rfl⟩
  · exact ⟨h, good_of_word (List.mem_filter.mp h).2⟩
def in_Pc (D : va_G) (ids : in_I) (A : Nat → Prop) (ad : Nat → Nat) (as : List rz_V) (W : List in_C) : Array Value → State → Prop := va_Pc (as.map (rz_cv ad)) (fun U => (va_P D rz_cls (in_w ids ad W) U.heap ∧ va_D A (in_w ids ad W)) ∧ in_Ol D ids A U)
def in_Qc (D : va_G) (ids : in_I) (A : Nat → Prop) (ad : Nat → Nat) (W W2 : List in_C) : Array Value → State → Outcome → State → Prop := va_Qv (fun ad' : Nat → Nat => W.length ≤ W2.length ∧ in_ex ad ad' W.length) (fun ad' t => va_P D rz_cls (in_w ids ad' W2) t.heap ∧ va_D A (in_w ids ad' W2)) A
theorem in_rm1 (y : Nat) : 1 ≤ (in_rm y).1 ∧ 20 ≤ (in_rm y).2.2.2 := by
  unfold in_rm
  split <;> exact ⟨by decide, by decide⟩
/-- what the machine says after f steps holds -/
def in_Sd (D : va_G) (ids : in_I) (A : Nat → Prop) (l : Launch) (f : Nat) : Prop :=
  ∀ (y : Nat) (T U : in_T), in_go f y T = some U → ∀ (p : Program) (e : Env) (R : Room) (s : State) (m : MethodId) (args : Array Value) (below : List Frame) (meth : Method) (c : Code) (QW : State → Prop) (H : Heap) (locs : List Loc) (la : Array Slot) (ad : Nat → Nat),
    in_X D ids A y p R s m args meth c → in_St D ids A s.heap H locs ad c la T → (U.1 = in_end y → in_K D ids A p l e R s m args below meth c QW ad T.2.2.2.1.length U) →
    W p l e R s m args below meth c H locs T.2.2.2.2.1 T.2.2.2.2.2 QW (F0 m T.1 la (T.2.2.1.map (rz_cv ad)))
section RZG
variable {D : va_G} {ids : in_I} {A : Nat → Prop} {l : Launch} {f : Nat}
theorem in_blind {ad : Nat → Nat} {as : List rz_V} {W : List in_C} : FrameBlind (in_Pc D ids A ad as W) := by
  intro a U g mk q
  obtain ⟨q0, q1, o1, o2, o8, o9, o10⟩ := q
  exact ⟨q0, q1, va_K.moved (u := U) (U := U.calling g mk a) (Vm.Alike.refl U.vm) o1, o2, fun a i x h hm => va_Nw.same rfl (rfl : U.vm = (U.calling g mk _).vm) (o8 a i x h hm), va_AO.moved (u := U) (U := U.calling g mk a) (Vm.Alike.refl U.vm) o9, over_moved (u := U) (E := U.calling g mk a) (Vm.Alike.refl U.vm) o10⟩
theorem in_met (ih : in_Sd D ids A l f) {z : Nat} {as : List rz_V} {Wl : List in_C} {U : in_T} {ad : Nat → Nat} (hz : in_zf z) (h : in_go f z (0, rz_L0 (rz_mi z).2.2.2 as, [], Wl, 0, 0) = some U) (hk : U.2.2.2.2.1 ≤ (in_rm z).2.1) (hn : U.2.2.2.2.2 ≤ (in_rm z).2.2.1) (hst : U.2.2.1.length = 0) (hok : ∀ v ∈ as, rz_ok v) (hle : rz_cats as ≤ (rz_mi z).2.2.2) :
    Met l (rz_mN z) (rz_wsM z) ({ frames := (in_rm z).1, cells := (in_rm z).2.1, slots := (in_rm z).2.2.1, locals := (in_rm z).2.2.2 }) (in_Pc D ids A ad as Wl) (in_Qc D ids A ad Wl U.2.2.2.1) (in_rm z).2.1 (in_rm z).2.2.1 A := by
  obtain ⟨z1, z2, z3, z4, z5, z6, z7, z8, z9, z10⟩ := id hz
  refine Met.ofW (cc := rz_mB z) (maxL := (rz_mi z).2.2.2) (ret := rz_mR z) z5 rfl ?_
  intro p e s m args below meth c s₁ B hml hv
  obtain ⟨rfl, ⟨hP, hD⟩, hOl⟩ := hv
  have hts : ∀ q ∈ rz_tb, q.before (as.map (rz_cv ad)).toArray s = true := fun q hq => atoms_spec (ws := rz_wsM z) B.pre q (List.mem_cons_of_mem _ hq)
  have hown : s.vm.findClass (rz_cn (rz_mi z).1) = some m.cls := by
    rw [← z6]
    exact findClass_of_methodNamed B.named
  have hin : meth.name = "<init>" := (name_of_methodNamed B.named B.method).1.trans z8
  have hx := B.exec
  have hb := B.bytes
  have hret := B.returns
  have hlk := B.notSynchronized
  rw [z7] at hret
  rw [lg_entry_eq]
  refine ih z _ U h p e _ s m _ below meth c _ s.heap [] _ ad ⟨hx, hb, hown, hts, ⟨Nat.le_refl _, Nat.le_refl _, Nat.le_refl _, Nat.le_refl _⟩, by omega, fun _ => hin, hOl⟩ ⟨hP, hD, va_S.rf, entry_Lr hok hle hml, fun v hv => absurd hv List.not_mem_nil⟩ ?_
  intro hend ad' H' locs' la' hlen hex hS'
  obtain ⟨hP', hD', hSS', -, -⟩ := hS'
  rw [List.eq_nil_of_length_eq_zero hst]
  have hdg : decode (rz_mB z) U.1 = .ok (.return_, 1) := by
    rw [hend]
    have hok := dk_all z (by omega) (in_end z)
    exact (ok1_x (i := .return_) (n := (rz_p z (in_end z)).2.1) (t := (rz_p z (in_end z)).2.2) (by rw [← z10]; exact hok) (by simp)).1
  refine W.widen hk hn ?_
  exact W.vret hx hb hret (fun t ht hWt => ⟨⟨ad', rfl, ⟨hlen, hex⟩, by rw [ht]; exact hP', hD'⟩, hSS'.F ht⟩) hSS'.2.2 hdg hlk
set_option maxHeartbeats 4000000 in
theorem in_go_ok (D : va_G) (ids : in_I) (A : Nat → Prop) (l : Launch) : ∀ f : Nat, in_Sd D ids A l f
  | 0 => fun y T U h => by cases h
  | f + 1 => by
    have ih := in_go_ok D ids A l f
    intro y T U h p e R s m args below meth c QW H locs la ad hX hSt K
    obtain ⟨pc, ls, st, Wl, k, n⟩ := T
    have h : in_bd (in_go f) y (pc, ls, st, Wl, k, n) = some U := h
    unfold in_bd at h
    dsimp only at h
    cases hend : Nat.beq pc (in_end y) with
    | true =>
      rw [hend] at h
      cases h
      exact K (Nat.eq_of_beq_eq_true hend) ad H locs la (Nat.le_refl _) in_ex_rf hSt
    | false =>
      rw [hend, cond_false] at h
      have hy := hX.2.2.2.2.2.1
      split at h
      · next idx hi =>
        have hdg : decode (rz_mB y) pc = .ok (.invokespecial idx, 3) :=
          (ok1_x (i := .invokespecial idx) (n := (rz_p y pc).2.1) (t := (rz_p y pc).2.2) (by rw [← hi]; exact dk_all y hy pc) (by simp)).1
        obtain ⟨hx, hb, hown, hts, ⟨hr0, hr1, hr2, hr3⟩, -, hnm, hK, hA, hNest, hBO, hLO⟩ := id hX
        obtain ⟨hP, hD, hSS, hL, hS⟩ := hSt
        dsimp only at hP hD hSS hL hS K ⊢
        have hrm := in_rm1 y
        cases hf : in_f in_ol (rz_mi y).1 idx with
        | some w =>
          have hol := in_ol_all _ (in_f_mem hf)
          dsimp only at hol
          rw [hf] at h
          dsimp only at h
          split at h
          · next a r _ =>
            obtain ⟨-, hr⟩ := List.forall_mem_cons.mp hS
            obtain ⟨hc, h⟩ := in_bif h
            have hc := Nat.le_of_ble_eq_true hc
            refine W.objInit hx hb hown (hts _ (tb hol)) (hts _ (tb in_w_om)) (hts _ (tb in_w_oc)) rfl hL.1.symm rfl hdg (by omega) ?_ ?_
            · show 2 * 0 + ((r.map (rz_cv ad)).map fun v => v.category).sum + 12 ≤ R.locals
              rw [cats_sum]
              omega
            · refine W.eq (g2 := F0 m (pc + 3) la (r.map (rz_cv ad))) rfl ?_
              exact ih y _ U h p e R s m args below meth c QW H locs la ad hX ⟨hP, hD, hSS, hL, hr⟩ K
          · cases h
        | none =>
          rw [hf] at h
          dsimp only at h
          cases hf2 : in_f (in_vl ++ in_nl) (rz_mi y).1 idx with
          | none =>
            rw [hf2] at h
            cases h
          | some z =>
            rw [hf2] at h
            dsimp only at h
            have hm := in_f_mem hf2
            have hz : in_zf z := by
              rcases List.mem_append.mp hm with q | q
              · exact (in_vl_all _ q).1
              · exact (in_nl_all _ q).1
            obtain ⟨hc, hg⟩ := in_bif h
            clear h
            unfold in_cok at hc
            simp only [Bool.and_eq_true] at hc
            obtain ⟨c1, c2, c3, c4, c5, c6, c7, c8, c9, c10⟩ := hc
            have c1 := Nat.le_of_ble_eq_true c1
            have c2 := Nat.le_of_ble_eq_true c2
            have c4 := Nat.le_of_ble_eq_true c4
            have c5 := Nat.le_of_ble_eq_true c5
            have c6 := Nat.le_of_ble_eq_true c6
            have c7 := Nat.le_of_ble_eq_true c7
            have c8 := Nat.le_of_ble_eq_true c8
            have c9 := Nat.le_of_ble_eq_true c9
            unfold in_ok at c3
            simp only [Bool.and_eq_true] at c3
            obtain ⟨o1, o2, o3⟩ := c3
            split at hg
            · next pc2 ls2 st2 W2 k2 n2 hgo =>
              obtain ⟨hu, hg2⟩ := in_bif hg
              clear hg
              simp only [Bool.and_eq_true] at hu
              have u1 := Nat.le_of_ble_eq_true hu.1
              have u2 := Nat.le_of_ble_eq_true hu.2.1
              have u3 := Nat.eq_of_beq_eq_true hu.2.2
              have est : st = ((st.take (rz_mi z).2.1).reverse).reverse ++ st.drop (rz_mi z).2.1 := by rw [List.reverse_reverse, List.take_append_drop]
              have hlen : ((st.take (rz_mi z).2.1).reverse).length = (rz_mi z).2.1 := by rw [List.length_reverse, List.length_take]; omega
              have hr : ∀ v ∈ st.drop (rz_mi z).2.1, rz_ok v := fun v hv => hS v (List.mem_of_mem_drop hv)
              have o4 : in_vs Wl.length (st.drop (rz_mi z).2.1) = true := by
                unfold in_vs at o2 ⊢
                exact List.all_eq_true.mpr fun v hv => List.all_eq_true.mp o2 v (List.mem_of_mem_drop hv)
              have hok : ∀ v ∈ (st.take (rz_mi z).2.1).reverse, rz_ok v := fun v hv => hS v (List.mem_of_mem_take (List.mem_reverse.mp hv))
              generalize hasE : (st.take (rz_mi z).2.1).reverse = as at *
              generalize hrE : st.drop (rz_mi z).2.1 = r at *
              rcases as with _ | ⟨v | v | o | v, as'⟩
              case cons.inr.inr.inl =>
                have hM := in_met (U := (pc2, ls2, st2, W2, k2, n2)) (ad := ad) ih hz hgo u1 u2 u3 hok c5
                obtain ⟨z1, z2, z3, z4, z5, z6, z7, z8, z9, z10⟩ := id hz
                have hPU : ∀ U : State, U.heap = H → s.WarmedH U.vm → in_Pc D ids A ad (rR o :: as') Wl (Value.ref (ad o) :: as'.map (rz_cv ad)).toArray U := fun U hU hWU => ⟨rfl, ⟨by rw [hU]; exact hP, hD⟩, va_K.moved hWU.alike hK, fun q hq => hA q (Nat.le_trans hSS.1 (by rw [← hU]; exact hq)), fun a i x h hm => va_Nw.warmM hWU (hNest a i x h hm), va_AO.moved hWU.alike hBO, over_moved hWU.alike hLO⟩
                have hstack : st.map (rz_cv ad) = (as'.map (rz_cv ad)).reverse ++ .ref (ad o) :: r.map (rz_cv ad) := by
                  conv => lhs; rw [est]
                  rw [List.map_append, List.map_reverse]
                  simp [rz_cv]
                have hcr : ((r.map (rz_cv ad)).map fun v => v.category).sum ≤ 8 := by rw [cats_sum]; exact c4
                have hR : ({ frames := (in_rm z).1, cells := (in_rm z).2.1, slots := (in_rm z).2.2.1, locals := (in_rm z).2.2.2 } : Room).frames + 1 ≤ R.frames ∧ 8 + ((rz_mi z).2.2.2 + 11) + ({ frames := (in_rm z).1, cells := (in_rm z).2.1, slots := (in_rm z).2.2.1, locals := (in_rm z).2.2.2 } : Room).locals ≤ R.locals := ⟨by show (in_rm z).1 + 1 ≤ _; omega, by show 8 + ((rz_mi z).2.2.2 + 11) + (in_rm z).2.2.2 ≤ _; omega⟩
                have hws : rz_wsM z = Cond.code (rz_mN z) (rz_mB z) (rz_mi z).2.2.2 none :: rz_tb := by unfold rz_wsM; rw [z7]
                have hnn : (as'.map (rz_cv ad)).length = (rz_mi z).2.1 - 1 := by rw [List.length_map, ← hlen]; simp
                have fin : ∀ aa, va_Run p l e R s m args below meth c H locs k n (in_rm z).2.1 (in_rm z).2.2.1 (F0 m pc la (st.map (rz_cv ad))) (r.map (rz_cv ad)) (in_Qc D ids A ad Wl W2 aa) A → W p l e R s m args below meth c H locs k n QW (F0 m pc la (st.map (rz_cv ad))) := fun aa hrun =>
                  va_callv (a := aa) hrun hSS (fun _ _ h => h) (fun _ h => h) (fun u t H1 locs1 ht hvm hp hB hz1 hk1 hS1 => by
                    obtain ⟨hlen2, hex⟩ := hp
                    obtain ⟨hP1, hD1⟩ := hB
                    rw [ht] at hP1
                    have g := ih y _ U hg2 p e R s m args below meth c QW H1 locs1 la u hX ⟨hP1, hD1, hS1, in_Lr hex o1 hL, hr⟩ (fun hu ad2 H2 locs2 la2 hlen3 hex2 hS2 => K hu ad2 H2 locs2 la2 (Nat.le_trans hlen2 hlen3) (in_ex_tr hex hex2 hlen2) hS2)
                    dsimp only at g
                    rw [in_cvs hex o4] at g
                    exact g)
                rcases List.mem_append.mp hm with q | q
                · have hl := (in_vl_all _ q).2
                  dsimp only at hl
                  exact fin _ (va_runI (b := ad o) (As := as'.map (rz_cv ad)) (S := ⟨hx, hb, hL.1, hown, hts⟩) hM (cwI ((rz_mi z).2.1 - 1) hts (in_good hz) hws rfl rfl (hts _ (tb z2)) (hts _ (tb hl)) (hts _ (tb z4)) z8 z3 hR) ⟨in_blind, hPU⟩ rfl hnn rfl hstack (lv_room hcr) hdg ⟨by omega, by omega⟩)
                · have hl := (in_nl_all _ q).2
                  dsimp only at hl
                  exact fin _ (va_runIN (b := ad o) (As := as'.map (rz_cv ad)) (S := ⟨hx, hb, hL.1, hown, hts⟩) hM ⟨va_cnB ((rz_mi z).2.1 - 1) hts (in_good hz) hws rfl rfl (hNest _ _ _ _ hl) (hts _ (tb z2)) z3 hR, z8, hts _ (tb z4)⟩ ⟨in_blind, hPU⟩ rfl hnn rfl hstack (lv_room hcr) hdg ⟨by omega, by omega⟩)
              all_goals exact absurd (show false = true from c10) (by decide)
            · cases hg
      · split at h
        · next T' hT' =>
          exact in_1_ok (T0 := (pc, ls, st, Wl, k, n)) hX hSt hT' (fun ad' H' locs' la' hlen hex hS' => ih y T' U h p e R s m args below meth c QW H' locs' la' ad' hX hS' (fun hu ad2 H2 locs2 la2 hlen2 hex2 hS2 => K hu ad2 H2 locs2 la2 (Nat.le_trans hlen hlen2) (in_ex_tr hex hex2 hlen) hS2))
        · cases h
end RZG
