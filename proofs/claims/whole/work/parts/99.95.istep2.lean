/-! the constructors' machine is right: fields, arrays of references, arrays of arrays -/
theorem in_ptf {ad : Nat → Nat} {t : FieldType} {v : rz_V} (h : in_pt t v = true) : narrow t (rz_cv ad v) = rz_cv ad v ∧ fits t (rz_cv ad v) = true := by
  rcases v with v | v | v | v <;> cases t <;> first | exact ⟨rfl, rfl⟩ | (exact absurd (show false = true from h) (by decide))
section RZJ2
variable {D : va_G} {ids : in_I} {A : Nat → Prop} {p : Program} {l : Launch} {e : Env} {R : Room} {s : State} {m : MethodId} {args : Array Value} {below : List Frame} {meth : Method} {c : Code} {QW : State → Prop}
variable {y pc n k d : Nat} {ls st : List rz_V} {Wl : List in_C} {la : Array Slot} {H : Heap} {locs : List Loc} {ad : Nat → Nat} {T : in_T}
theorem in_lfc {cy idx : Nat} (hlf : rz_lff (cy, idx)) {c' : Nat} (h8 : c' < 8) (e : (rz_lf cy idx).1 = c') : (rz_lf cy idx).2 < rz_nf c' ∧ Cond.fieldLink (rz_cn cy) idx (rz_cn c') (rz_Tt c' (rz_lf cy idx).2).2.1 (rz_Tt c' (rz_lf cy idx).2).2.2.1 ∈ lw_tbl := by
  unfold rz_lff at hlf
  try dsimp only at hlf
  rw [e] at hlf
  split at hlf
  · exact absurd h8 (by decide)
  · exact absurd h8 (by decide)
  · exact hlf.2
theorem in_get_ok (hX : in_X D ids A y p R s m args meth c) (hP : va_P D rz_cls (in_w ids ad Wl) H) (hD : va_D A (in_w ids ad Wl)) (hSS : va_S A s.heap H locs) (hL : rz_Lr ad c ls la) (hS : ∀ v ∈ st, rz_ok v) {i : Nat} (hlf : rz_lff ((rz_mi y).1, i)) (hdg : decode (rz_mB y) pc = .ok (.getfield i, 3))
    (h : in_get (pc + 3) ls st Wl k n (rz_lf (rz_mi y).1 i) = some T) (K : in_K D ids A p l e R s m args below meth c QW ad Wl.length T) : W p l e R s m args below meth c H locs k n QW (F0 m pc la (st.map (rz_cv ad))) := by
  obtain ⟨hx, hb, hown, hts, -, hy, -, hK, hA, -⟩ := id hX
  unfold in_get at h
  split at h
  · next o r =>
    obtain ⟨-, hr⟩ := List.forall_mem_cons.mp hS
    split at h
    · next c2 x vs ho =>
      obtain ⟨hc, h⟩ := in_bif h
      simp only [Bool.and_eq_true] at hc
      have e := (Nat.eq_of_beq_eq_true hc.1).symm
      have h8 : c2 < 8 := by simpa [Nat.blt_eq] using hc.2
      obtain ⟨hk, hl⟩ := in_lfc hlf h8 e
      split at h
      · next z hz =>
        cases h
        exact va_get (D := D) (fs := vs.map (rz_cv ad)) (v := .ref (ad z)) hx hb hts (ws_tb c2 h8) hown hK hP o (show (in_w ids ad Wl)[o]? = some (ad o, .inr (c2, vs.map (rz_cv ad))) from in_w_get ho) (cls_at c2 h8) _ hk (hts _ (tb hl)) (fun x h9 => by
          have hn : (rz_Tt c2 (rz_lf (rz_mi y).1 i).2).1 = rz_cn c2 := cls_own c2 h8 _ hk
          rw [hn] at h9; exact h9) (by rw [List.getElem?_map, hz]; rfl) hdg (io_psh K hP hD hSS hL hr (v := rR z) trivial rfl)
      · cases h
    · cases h
  · cases h
theorem in_put_ok (hX : in_X D ids A y p R s m args meth c) (hP : va_P D rz_cls (in_w ids ad Wl) H) (hD : va_D A (in_w ids ad Wl)) (hSS : va_S A s.heap H locs) (hL : rz_Lr ad c ls la) (hS : ∀ v ∈ st, rz_ok v) {i : Nat} (hlf : rz_lff ((rz_mi y).1, i)) (hdg : decode (rz_mB y) pc = .ok (.putfield i, 3))
    (h : in_put y (pc + 3) ls st Wl k n (rz_lf (rz_mi y).1 i) = some T) (K : in_K D ids A p l e R s m args below meth c QW ad Wl.length T) : W p l e R s m args below meth c H locs k n QW (F0 m pc la (st.map (rz_cv ad))) := by
  obtain ⟨hx, hb, hown, hts, -, hy, hnm, hK, hA, -⟩ := id hX
  unfold in_put at h
  split at h
  · next v o r =>
    obtain ⟨-, hr2⟩ := List.forall_mem_cons.mp hS
    obtain ⟨-, hr⟩ := List.forall_mem_cons.mp hr2
    split at h
    · next c2 x vs ho =>
      obtain ⟨hc, h⟩ := in_bif h
      simp only [Bool.and_eq_true] at hc
      obtain ⟨ec, h8, e3, hvl, hy2, hpt⟩ := hc
      have ec := (Nat.eq_of_beq_eq_true ec).symm
      have e3 := Nat.eq_of_beq_eq_true e3
      have h8 : c2 < 8 := by simpa [Nat.blt_eq] using h8
      have hvl : (rz_lf (rz_mi y).1 i).2 < vs.length := by simpa [Nat.blt_eq] using hvl
      have hy2 : y < 212 := by simpa [Nat.blt_eq] using hy2
      obtain ⟨hk, hl⟩ := in_lfc hlf h8 ec
      obtain ⟨q1, q2⟩ := in_ptf (ad := ad) hpt
      cases h
      have kk : ∀ (H1 : Heap) (locs1 : List Loc), va_P D rz_cls ((in_w ids ad Wl).set o (ad o, .inr (c2, (vs.map (rz_cv ad)).set (rz_lf (rz_mi y).1 i).2 (rz_cv ad v)))) H1 → va_D A ((in_w ids ad Wl).set o (ad o, .inr (c2, (vs.map (rz_cv ad)).set (rz_lf (rz_mi y).1 i).2 (rz_cv ad v)))) → va_S A s.heap H1 locs1 → W p l e R s m args below meth c H1 locs1 k n QW (F0 m (pc + 3) la (r.map (rz_cv ad))) := by
        intro H1 locs1 hP1 hD1 hS1
        have hw : (in_w ids ad Wl).set o (ad o, .inr (c2, (vs.map (rz_cv ad)).set (rz_lf (rz_mi y).1 i).2 (rz_cv ad v))) = in_w ids ad (Wl.set o (c2 + 4, x, vs.set (rz_lf (rz_mi y).1 i).2 v)) := by
          rw [← in_w_set, ← List.map_set]
          rfl
        rw [hw] at hP1 hD1
        exact K ad H1 locs1 la (by simp) in_ex_rf ⟨hP1, hD1, hS1, hL, hr⟩
      have hsame : ∀ x, s.fieldFound? (rz_Tt c2 (rz_lf (rz_mi y).1 i).2).1 (rz_Tt c2 (rz_lf (rz_mi y).1 i).2).2.1 (rz_Tt c2 (rz_lf (rz_mi y).1 i).2).2.2.1 = some x → s.fieldFound? (rz_cn c2) (rz_Tt c2 (rz_lf (rz_mi y).1 i).2).2.1 (rz_Tt c2 (rz_lf (rz_mi y).1 i).2).2.2.1 = some x := fun x h9 => by
        have hn : (rz_Tt c2 (rz_lf (rz_mi y).1 i).2).1 = rz_cn c2 := cls_own c2 h8 _ hk
        rw [hn] at h9; exact h9
      have he : (in_w ids ad Wl)[o]? = some (ad o, .inr (c2, vs.map (rz_cv ad))) := in_w_get ho
      cases hfin : (rz_Tt c2 (rz_lf (rz_mi y).1 i).2).2.2.2 with
      | false => exact va_put (D := D) (ty := rz_yt c2 (rz_lf (rz_mi y).1 i).2) hx hb hts (ws_tb c2 h8) (rz_yt c2) (cls_yo c2 h8) (cls_nm c2 h8) hown hK hP hD hSS o he (cls_at c2 h8) _ hk (hts _ (tb hl)) hsame hfin (cls_yo c2 h8 _ hk) q1 q2 (by rw [List.length_map]; exact hvl) hdg kk
      | true => exact va_putF (D := D) (ty := rz_yt c2 (rz_lf (rz_mi y).1 i).2) hx hb hts (ws_tb c2 h8) (rz_yt c2) (cls_yo c2 h8) (cls_nm c2 h8) hown hK hP hD hSS o he (cls_at c2 h8) _ hk (hts _ (tb hl)) hsame hfin (hnm hy2) (by rw [cls_own c2 h8 _ hk, e3]) (cls_yo c2 h8 _ hk) q1 q2 (by rw [List.length_map]; exact hvl) hdg kk
    · cases h
  · cases h
theorem in_alen_ok (hX : in_X D ids A y p R s m args meth c) (hP : va_P D rz_cls (in_w ids ad Wl) H) (hD : va_D A (in_w ids ad Wl)) (hSS : va_S A s.heap H locs) (hL : rz_Lr ad c ls la) (hS : ∀ v ∈ st, rz_ok v) (hdg : decode (rz_mB y) pc = .ok (.arraylength, 1))
    (h : in_alen (pc + 1) ls st Wl k n = some T) (K : in_K D ids A p l e R s m args below meth c QW ad Wl.length T) : W p l e R s m args below meth c H locs k n QW (F0 m pc la (st.map (rz_cv ad))) := by
  obtain ⟨hx, hb, hown, hts, -, hy, -, hK, hA, -⟩ := id hX
  unfold in_alen at h
  split at h
  · next a r =>
    obtain ⟨-, hr⟩ := List.forall_mem_cons.mp hS
    split at h
    · next x vs ho =>
      obtain ⟨hc, h⟩ := in_bif h
      have hc : x < 10000 := by simpa [Nat.blt_eq] using hc
      cases h
      refine va_alen (v := Int32.ofInt x) hx hb hK hP a 2 (show (in_w ids ad Wl)[a]? = some (ad a, .inl (ids.2.2.1, x, .inr (.inr (.inr (.inr (fun j => in_rf ad (vs.getD j (rX 0)))))))) from in_w_get ho) in_Ty2 ?_ hdg ?_
      · rfl
      · exact io_psh K hP hD hSS hL hr (v := rI x) (show R32 (x : Int) from ⟨by omega, by omega⟩) rfl
    · cases h
  · cases h
theorem in_as_ok (hX : in_X D ids A y p R s m args meth c) (hP : va_P D rz_cls (in_w ids ad Wl) H) (hD : va_D A (in_w ids ad Wl)) (hSS : va_S A s.heap H locs) (hL : rz_Lr ad c ls la) (hS : ∀ v ∈ st, rz_ok v) (hdg : decode (rz_mB y) pc = .ok (.aastore, 1))
    (h : in_as (pc + 1) ls st Wl k n = some T) (K : in_K D ids A p l e R s m args below meth c QW ad Wl.length T) : W p l e R s m args below meth c H locs k n QW (F0 m pc la (st.map (rz_cv ad))) := by
  obtain ⟨hx, hb, hown, hts, -, hy, -, hK, hA, -⟩ := id hX
  unfold in_as at h
  split at h
  · next v i a r =>
    obtain ⟨-, h2⟩ := List.forall_mem_cons.mp hS
    obtain ⟨hi, h3⟩ := List.forall_mem_cons.mp h2
    obtain ⟨-, hr⟩ := List.forall_mem_cons.mp h3
    have hi : R32 i := hi
    split at h
    · next x vs x2 vs2 ho hv =>
      obtain ⟨hc, h⟩ := in_bif h
      simp only [Bool.and_eq_true, decide_eq_true_eq] at hc
      obtain ⟨h0, h1, h2', h4⟩ := hc
      have h1 : i.toNat < x := by simpa [Nat.blt_eq] using h1
      have h2' : i.toNat < vs.length := by simpa [Nat.blt_eq] using h2'
      cases h
      refine va_astq (D := D) (r := (rz_cn 0, rz_Tt 0, rz_nf 0)) (vs := vs2.map (rz_cv ad)) hx hb hK hP hD hSS a 2 v 0 (show (in_w ids ad Wl)[a]? = some (ad a, .inl (ids.2.2.1, x, .inr (.inr (.inr (.inr (fun j => in_rf ad (vs.getD j (rX 0)))))))) from in_w_get ho) rfl (show (in_w ids ad Wl)[v]? = some (ad v, .inr (0, vs2.map (rz_cv ad))) from in_w_get hv) (cls_at 0 (by decide)) (in_of hi ⟨h0, by omega⟩) hdg (fun H1 locs1 hP1 hD1 hS1 => ?_)
      have hw : (in_w ids ad Wl).set a (ad a, .inl (ids.2.2.1, x, .inr (.inr (.inr (.inr (va_up (fun j => in_rf ad (vs.getD j (rX 0))) (Int32.ofInt i).toNatClampNeg (some (ad v)))))))) = in_w ids ad (Wl.set a (2, x, vs.set i.toNat (rR v))) := by
        rw [← in_w_set, cl32_of hi h0]
        show _ = (in_w ids ad Wl).set a (ad a, .inl (ids.2.2.1, x, .inr (.inr (.inr (.inr (fun j => in_rf ad ((vs.set i.toNat (rR v)).getD j (rX 0))))))))
        rw [show (va_up (fun j => in_rf ad (vs.getD j (rX 0))) i.toNat (some (ad v))) = (fun j => in_rf ad ((vs.set i.toNat (rR v)).getD j (rX 0))) from funext fun j => by
          unfold va_up
          simp only [List.getD_eq_getElem?_getD]
          by_cases e : j = i.toNat
          · subst e
            rw [if_pos rfl, List.getElem?_set_self h2']
            rfl
          · rw [if_neg e, List.getElem?_set_ne (fun q => e q.symm)]]
      rw [hw] at hP1 hD1
      exact K ad H1 locs1 la (by simp) in_ex_rf ⟨hP1, hD1, hS1, hL, hr⟩
    · cases h
  · cases h
end RZJ2
