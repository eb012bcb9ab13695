/-! each instruction's meaning, held against the JVM's: fields, statics, copies, the JDK's three -/
/-- what stays from before the run: tables, the constants of Kind, the script -/
def rz_Ol (w : rz_Wt) (s : State) : Prop := va_K w.1 rz_cls (wTy w) s ∧
  (∀ k, k < 11 → va_Z "RootChanges$Kind" (rz_kst k) "LRootChanges$Kind;" (.ref (w.2.1 (rz_NX + k))) w.2.2.2.1 s s.heap) ∧
  (∀ f, f < 5 → ∀ k, k < 11 → va_OF "RootChanges$Kind" (rz_kn5 f) "I" (.int (Int32.ofInt (rz_kv k f))) (w.2.1 (rz_NX + k)) w.2.2.2.1 s s.heap) ∧
  (∀ k, k < 11 → ∃ cell : Cell, s.heap[w.2.1 (rz_NX + k)]? = some cell ∧ cell.vm.isStatics = false ∧ s.vm.findClass "RootChanges$Kind" = some cell.cls ∧ ¬ w.2.2.2.1 (w.2.1 (rz_NX + k))) ∧
  va_X w.2.2.2.2.1 w.2.2.2.2.2.1 w.2.2.2.2.2.2 s s.heap ∧ ¬ w.2.2.2.1 w.2.2.2.2.1 ∧ w.2.1 400 = w.2.2.2.2.1 ∧ ∀ (a : String) (i : Nat) (x : MethodName) (h : String), Cond.methodLinkNest a i x h ∈ lw_tbl → va_Nw (.methodLinkNest a i x h) s
theorem fv_get {ad : Nat → Nat} {M : rz_M} {o c k : Nat} (h : k < rz_nf c) : (rz_fv ad M o c)[k]? = some (match rz_ft c k with
  | 0 => .int (Int32.ofInt (M o k))
  | 1 => .long (Int64.ofInt (M o k))
  | 2 => .ref (ad (rz_R o k))
  | _ => if M o k < 0 then .null else .ref (ad (M o k).toNat)) := by
  unfold rz_fv
  rw [List.getElem?_map, List.getElem?_range h]
  rfl
theorem fv_len {ad : Nat → Nat} {M : rz_M} {o c : Nat} : (rz_fv ad M o c).length = rz_nf c := by unfold rz_fv; simp
theorem fv_set {ad : Nat → Nat} {M : rz_M} {o c k : Nat} {v : Int} {x : Value} (h : k < rz_nf c) (hx : (match rz_ft c k with
  | 0 => .int (Int32.ofInt v)
  | 1 => .long (Int64.ofInt v)
  | 2 => .ref (ad (rz_R o k))
  | _ => if v < 0 then Value.null else .ref (ad v.toNat)) = x) : rz_fv ad (rz_up M o k v) o c = (rz_fv ad M o c).set k x := by
  refine List.ext_getElem? fun j => ?_
  by_cases hj : j < rz_nf c
  · rw [fv_get hj]
    by_cases e : k = j
    · subst e
      rw [List.getElem?_set_self (by rw [fv_len]; exact h)]
      have e2 : rz_up M o k v o k = v := if_pos ⟨rfl, rfl⟩
      rw [e2, hx]
    · rw [List.getElem?_set_ne e, fv_get hj]
      have e2 : rz_up M o k v o j = M o j := if_neg fun q => e (by have := q.2; omega)
      rw [e2]
  · rw [List.getElem?_eq_none (by rw [fv_len]; omega), List.getElem?_eq_none (by rw [List.length_set, fv_len]; omega)]
theorem S_top (a : Nat) : (rz_S a).1 ≤ 12 ∨ (rz_S a).1 = 99 := by
  by_cases h : a < 249
  · exact Or.inl ((by decide +kernel : ∀ a, a < 249 → (rz_S a).1 ≤ 12) a h)
  · rcases rz_S_far h with e | e <;> rw [e]
    · exact Or.inl (Nat.le_refl _)
    · exact Or.inr rfl
theorem S_kind {a n : Nat} (h : rz_S a = (12, n)) : rz_NX ≤ a ∧ a - rz_NX < 11 := by
  by_cases h2 : a < 249
  · exact absurd (congrArg Prod.fst h) ((by decide +kernel : ∀ a, a < 249 → ¬ (rz_S a).1 = 12) a h2)
  · refine ⟨Nat.le_of_not_lt h2, ?_⟩
    refine Nat.lt_of_not_le fun h3 => ?_
    have e1 := rz_bltf h2
    have e2 : Nat.blt a 260 = false := rz_bltf (by have : 11 ≤ a - 249 := h3; omega)
    unfold rz_S at h
    rw [e1, e2, cond_false, cond_false] at h
    exact absurd (show (99 : Nat) = 12 from congrArg Prod.fst h) (by decide)
theorem cls_own : ∀ c, c < 8 → ∀ k, k < rz_nf c → (rz_Tt c k).1 = rz_cn c := by decide +kernel
/-- the words that a callee may be given again -/
def rz_tb : List Cond := lw_tbl.filter goodWord
theorem tb {q : Cond} (h : q ∈ lw_tbl) (hg : goodWord q = true := by rfl) : q ∈ rz_tb := List.mem_filter.mpr ⟨h, hg⟩
theorem ws_good : ∀ c, c < 8 → ∀ q ∈ u_ws (rz_cn c) (rz_Tt c) (rz_nf c), goodWord q = true := by decide +kernel
theorem ws_tb (c : Nat) (h : c < 8) : ∀ q ∈ u_ws (rz_cn c) (rz_Tt c) (rz_nf c), q ∈ rz_tb := fun q hq => tb (ws_in c h q hq) (ws_good c h q hq)
section RZF
variable {w : rz_Wt} {p : Program} {l : Launch} {e : Env} {R : Room} {s : State} {m : MethodId} {args : Array Value} {below : List Frame} {meth : Method} {c : Code} {H : Heap} {locs : List Loc} {cells slots : Nat} {QW : State → Prop}
variable {cc : ByteArray} {pc n t : Nat} {ls st : List rz_V} {la : Array Slot} {M : rz_M} {P : Nat → List rz_V → List rz_V → rz_M → Prop}
theorem so_getf (K : rz_K w p l e R s m args below meth c cells slots QW P) (hW : rz_Wd w s.heap H locs M) (hL : rz_Lr w.2.1 c ls la) (hS : ∀ v ∈ st, rz_ok v) (hx : p.tables.exec = Jvm.exec) (hb : c.code = cc) (hO : rz_Ol w s) (hts : ∀ w ∈ rz_tb, w.before args s = true) {cy idx : Nat} (hown : s.vm.findClass (rz_cn cy) = some m.cls) (hlf : rz_lff (cy, idx)) (hdg : decode cc pc = .ok (.getfield idx, 3)) (hn : n = pc + 3)
    (h : rz_getf n ls st M P (rz_lf cy idx).1 (rz_lf cy idx).2) : W p l e R s m args below meth c H locs cells slots QW (F0 m pc la (st.map (rz_cv w.2.1))) := by
  subst hn
  unfold rz_lff at hlf
  try dsimp only at hlf
  generalize rz_lf cy idx = ck at hlf h
  obtain ⟨c', k'⟩ := ck
  dsimp only at hlf h
  unfold rz_getf at h
  split at h
  · next o r =>
    obtain ⟨-, hr⟩ := List.forall_mem_cons.mp hS
    rw [rz_bif] at h
    obtain ⟨hc, h⟩ := h
    obtain ⟨z, hz⟩ := isC_S hc
    split at hlf
    · obtain ⟨h1, h2⟩ := S_kind hz
      obtain ⟨h5, hl⟩ := hlf
      obtain ⟨cf, kf, fi, f, cell, hi, hst, hcell, hkn, hsl, hnA⟩ := hO.2.2.1 k' h5 (o - rz_NX) h2
      rw [show rz_NX + (o - rz_NX) = o from by omega] at hcell hnA
      have hlt : w.2.1 o < s.heap.size := (Array.getElem?_eq_some_iff.mp hcell).1
      exact W.getf hx hb hown (hts _ (tb hl)) hi hst (by rw [hW.2.2.1.2.1 _ hlt hnA]; exact hcell) hkn hsl rfl rfl hdg (so_push K hW hL hr (v := rI (rz_kv (o - rz_NX) k')) ((by decide +kernel : ∀ a, a < 11 → ∀ b, b < 5 → (-2147483648 ≤ rz_kv a b ∧ rz_kv a b < 2147483648)) _ h2 _ h5) rfl h)
    · have := S_top o
      rw [hz] at this
      omega
    · obtain ⟨h8, hk, hl⟩ := hlf
      have hlt := S_ltNX hz (by omega)
      have he : (wWs w M)[o]? = some (w.2.1 o, .inr (c', rz_fv w.2.1 M o c')) := (ws_get hlt).trans (by rw [ce_4 hz])
      have hmo := hW.2.2.2.1 o k'
      unfold rz_okm at hmo
      rw [hz] at hmo
      dsimp only at hmo
      rw [Int.toNat_natCast] at hmo
      have hg := fv_get (ad := w.2.1) (M := M) (o := o) hk
      have go : ∀ v : rz_V, rz_ok v → (rz_fv w.2.1 M o c')[k']? = some (rz_cv w.2.1 v) → P (pc + 3) ls (v :: r) M → W p l e R s m args below meth c H locs cells slots QW (F0 m pc la ((rR o :: r).map (rz_cv w.2.1))) := by
        intro v hv hgv hP
        exact va_get (D := w.1) hx hb hts (ws_tb c' h8) hown hO.1 hW.1 o he (cls_at c' h8) k' hk (hts _ (tb hl)) (fun x h9 => by
          have hn : (rz_Tt c' k').1 = rz_cn c' := cls_own c' h8 k' hk
          rw [hn] at h9; exact h9) hgv hdg (so_push K hW hL hr hv rfl hP)
      split at h
      · exact absurd h8 (by decide)
      · split at h
        · next hf => rw [hf] at hg hmo; exact go (rI _) hmo hg h
        · next hf => rw [hf] at hg hmo; exact go (rL _) hmo hg h
        · next hf => rw [hf] at hg; exact go (rR _) trivial hg h
        · next hf =>
          rw [hf] at hg
          try dsimp only at hg
          rw [if_neg (by omega)] at hg
          exact go (rR _) trivial hg h.2
        · exact h.elim
  · exact h.elim
theorem so_putf (K : rz_K w p l e R s m args below meth c cells slots QW P) (hW : rz_Wd w s.heap H locs M) (hL : rz_Lr w.2.1 c ls la) (hS : ∀ v ∈ st, rz_ok v) (hx : p.tables.exec = Jvm.exec) (hb : c.code = cc) (hO : rz_Ol w s) (hts : ∀ w ∈ rz_tb, w.before args s = true) {cy idx : Nat} (hown : s.vm.findClass (rz_cn cy) = some m.cls) (hlf : rz_lff (cy, idx)) (hdg : decode cc pc = .ok (.putfield idx, 3)) (hn : n = pc + 3)
    (h : rz_putf n ls st M P (rz_lf cy idx).1 (rz_lf cy idx).2) : W p l e R s m args below meth c H locs cells slots QW (F0 m pc la (st.map (rz_cv w.2.1))) := by
  subst hn
  unfold rz_lff at hlf
  try dsimp only at hlf
  generalize rz_lf cy idx = ck at hlf h
  obtain ⟨c', k'⟩ := ck
  dsimp only at hlf h
  have go : ∀ (o : Nat) (v : Int) (u : rz_V) (r : List rz_V), c' < 8 → rz_isC o c' = true → (∀ v ∈ r, rz_ok v) → k' < rz_nf c' → (rz_ft c' k' = 2 → False) → Cond.fieldLink (rz_cn cy) idx (rz_cn c') (rz_Tt c' k').2.1 (rz_Tt c' k').2.2.1 ∈ lw_tbl → (∀ ty, rz_yt c' k' = ty → rz_mut c' k' = true → narrow ty (rz_cv w.2.1 u) = rz_cv w.2.1 u ∧ fits ty (rz_cv w.2.1 u) = true) →
      (match rz_ft c' k' with
        | 0 => .int (Int32.ofInt v)
        | 1 => .long (Int64.ofInt v)
        | 2 => .ref (w.2.1 (rz_R o k'))
        | _ => if v < 0 then Value.null else .ref (w.2.1 v.toNat)) = rz_cv w.2.1 u → rz_okm o k' v → P (pc + 3) ls r (rz_up M o k' v) → W p l e R s m args below meth c H locs cells slots QW (F0 m pc la ((u :: rR o :: r).map (rz_cv w.2.1))) := by
    intro o v u r h8 hc hr hk hnot hl hty hval hok hP
    obtain ⟨z, hz⟩ := isC_S hc
    have hlt := S_ltNX hz (by omega)
    have he : (wWs w M)[o]? = some (w.2.1 o, .inr (c', rz_fv w.2.1 M o c')) := (ws_get hlt).trans (by rw [ce_4 hz])
    have hm := (cls_ft c' h8 k' hk).resolve_left hnot
    have hfin : (rz_Tt c' k').2.2.2 = false := by
      have := hm
      unfold rz_mut at this
      simp only [Bool.and_eq_true, Bool.not_eq_true'] at this
      exact this.2
    obtain ⟨q1, q2⟩ := hty _ rfl hm
    refine va_put (D := w.1) hx hb hts (ws_tb c' h8) (rz_yt c') (cls_yo c' h8) (cls_nm c' h8) hown hO.1 hW.1 hW.2.1 hW.2.2.1 o he (cls_at c' h8) k' hk (hts _ (tb hl)) (fun x h9 => by
          have hn : (rz_Tt c' k').1 = rz_cn c' := cls_own c' h8 k' hk
          rw [hn] at h9; exact h9) hfin (cls_yo c' h8 k' hk) q1 q2 (by rw [fv_len]; exact hk) hdg (fun H1 locs1 hP1 hD1 hS1 => ?_)
    refine K _ _ _ _ _ _ _ (Wd_next hW (ws_set hlt (m' := rz_up M o k' v) ?_ (fun j hj => ce_ne hj)) hP1 hD1 hS1 (mo_up hW.2.2.2.1 hok) (up_400 hlt)) hL hr hP
    rw [ce_4 hz, fv_set hk hval]
  have hcls : c' < 8 → k' < rz_nf c' ∧ Cond.fieldLink (rz_cn cy) idx (rz_cn c') (rz_Tt c' k').2.1 (rz_Tt c' k').2.2.1 ∈ lw_tbl := by
    intro h8
    split at hlf
    · exact absurd h8 (by decide)
    · exact absurd h8 (by decide)
    · exact hlf.2
  have okm : ∀ (o : Nat) (v : Int) , rz_isC o c' = true → (match rz_ft c' k' with
    | 0 => R32 v
    | 1 => R64 v
    | _ => True) → rz_okm o k' v := by
    intro o v hc hv
    obtain ⟨z, hz⟩ := isC_S hc
    unfold rz_okm
    rw [hz]
    dsimp only
    rw [Int.toNat_natCast]
    exact hv
  unfold rz_putf at h
  split at h
  · next v o r =>
    obtain ⟨hv, h2⟩ := List.forall_mem_cons.mp hS
    obtain ⟨-, hr⟩ := List.forall_mem_cons.mp h2
    rw [rz_bif] at h
    simp only [Bool.and_eq_true] at h
    obtain ⟨⟨⟨hc, hf⟩, h8⟩, h⟩ := h
    have hf := Nat.eq_of_beq_eq_true hf
    have h8 : c' < 8 := by simpa [Nat.blt_eq] using h8
    obtain ⟨hk, hl⟩ := hcls h8
    refine go o v (rI v) r h8 hc hr hk (fun q => by rw [hf] at q; cases q) hl ?_ (by rw [hf]; rfl) (okm o v hc (by rw [hf]; exact hv)) h
    intro ty hty hm
    subst hty
    unfold rz_mut at hm
    rw [hf] at hm
    simp at hm
    rw [hm.1]
    exact ⟨rfl, rfl⟩
  · next v o r =>
    obtain ⟨hv, h2⟩ := List.forall_mem_cons.mp hS
    obtain ⟨-, hr⟩ := List.forall_mem_cons.mp h2
    rw [rz_bif] at h
    simp only [Bool.and_eq_true] at h
    obtain ⟨⟨⟨hc, hf⟩, h8⟩, h⟩ := h
    have hf := Nat.eq_of_beq_eq_true hf
    have h8 : c' < 8 := by simpa [Nat.blt_eq] using h8
    obtain ⟨hk, hl⟩ := hcls h8
    refine go o v (rL v) r h8 hc hr hk (fun q => by rw [hf] at q; cases q) hl ?_ (by rw [hf]; rfl) (okm o v hc (by rw [hf]; exact hv)) h
    intro ty hty hm
    subst hty
    unfold rz_mut at hm
    rw [hf] at hm
    simp at hm
    rw [hm.1]
    exact ⟨rfl, rfl⟩
  · next v o r =>
    obtain ⟨hv, h2⟩ := List.forall_mem_cons.mp hS
    obtain ⟨-, hr⟩ := List.forall_mem_cons.mp h2
    rw [rz_bif] at h
    simp only [Bool.and_eq_true] at h
    obtain ⟨⟨⟨⟨hc, hf⟩, hvc⟩, h8⟩, h⟩ := h
    have hf := Nat.eq_of_beq_eq_true hf
    have h8 : c' < 8 := by simpa [Nat.blt_eq] using h8
    obtain ⟨hk, hl⟩ := hcls h8
    refine go o v (rR v) r h8 hc hr hk (fun q => by rw [hf] at q; cases q) hl ?_ ?_ (okm o v hc (by rw [hf]; trivial)) h
    · intro ty hty hm
      subst hty
      unfold rz_mut at hm
      rw [hf] at hm
      simp at hm
      rw [hm.1]
      exact ⟨rfl, rfl⟩
    · rw [hf]
      try dsimp only
      rw [if_neg (by omega), Int.toNat_natCast]
      rfl
  · exact h.elim
theorem so_gets (K : rz_K w p l e R s m args below meth c cells slots QW P) (hW : rz_Wd w s.heap H locs M) (hL : rz_Lr w.2.1 c ls la) (hS : ∀ v ∈ st, rz_ok v) (hx : p.tables.exec = Jvm.exec) (hb : c.code = cc) (hO : rz_Ol w s) (hts : ∀ w ∈ rz_tb, w.before args s = true) {cy idx : Nat} (hown : s.vm.findClass (rz_cn cy) = some m.cls) (hlf : rz_lff (cy, idx)) (hdg : decode cc pc = .ok (.getstatic idx, 3)) (hn : n = pc + 3)
    (h : rz_gets n ls st M P (rz_lf cy idx)) : W p l e R s m args below meth c H locs cells slots QW (F0 m pc la (st.map (rz_cv w.2.1))) := by
  subst hn
  unfold rz_lff at hlf
  try dsimp only at hlf
  generalize rz_lf cy idx = ck at hlf h
  obtain ⟨c', k'⟩ := ck
  dsimp only at hlf h
  unfold rz_gets at h
  dsimp only at h
  rw [rz_bif] at h
  simp only [Bool.and_eq_true] at h
  obtain ⟨⟨h1, h2⟩, h⟩ := h
  have h1 := Nat.eq_of_beq_eq_true h1
  subst h1
  try dsimp only at hlf
  exact va_gets hx hb (hO.2.1 k' hlf.1) hW.2.2.1 hown (hts _ (tb hlf.2)) (fun _ h9 => h9) hdg (so_push K hW hL hS (v := rR (rz_NX + k')) trivial rfl h)
theorem cats_sum (ad : Nat → Nat) : ∀ r : List rz_V, ((r.map (rz_cv ad)).map fun v => v.category).sum = rz_cats r
  | [] => rfl
  | v :: r => by
    simp only [List.map_cons, List.sum_cons, cv_cat, cats_sum ad r]
    rfl
theorem so_cpy (K : rz_K w p l e R s m args below meth c cells slots QW P) (hW : rz_Wd w s.heap H locs M) (hL : rz_Lr w.2.1 c ls la) (hS : ∀ v ∈ st, rz_ok v) (hx : p.tables.exec = Jvm.exec) (hb : c.code = cc) (hO : rz_Ol w s) (hts : ∀ w ∈ rz_tb, w.before args s = true) {own : String} {idx : Nat} (hown : s.vm.findClass own = some m.cls) (hlf : Cond.methodLink own idx arraycopyName ∈ lw_tbl) (hfr : 1 ≤ R.frames) (hlo : 40 ≤ R.locals) (hdg : decode cc pc = .ok (.invokestatic idx, 3)) (hn : n = pc + 3)
    (h : rz_cpy n ls st M P) : W p l e R s m args below meth c H locs cells slots QW (F0 m pc la (st.map (rz_cv w.2.1))) := by
  subst hn
  unfold rz_cpy at h
  split at h
  · next k dp b sp a r =>
    obtain ⟨hk, h2⟩ := List.forall_mem_cons.mp hS
    obtain ⟨hdp, h3⟩ := List.forall_mem_cons.mp h2
    obtain ⟨-, h4⟩ := List.forall_mem_cons.mp h3
    obtain ⟨hsp, h5⟩ := List.forall_mem_cons.mp h4
    obtain ⟨-, hr⟩ := List.forall_mem_cons.mp h5
    rw [rz_bif] at h
    simp only [Bool.and_eq_true] at h
    obtain ⟨⟨⟨ka, kb⟩, kc⟩, ⟨g1, g2, g3, g4, g5⟩, h⟩ := h
    obtain ⟨za, a1, a2, a3⟩ := isK_S ka
    obtain ⟨zb, b1, b2, b3⟩ := isK_S kb
    rw [a2] at g4
    rw [b2] at g5
    have hlta := S_ltNX a1 (by decide)
    have hltb := S_ltNX b1 (by decide)
    have nlt : ∀ z : Int, rz_ok (rI z) → 0 ≤ z → ¬ Int32.ofInt z < 0 := by
      intro z hz h0 q
      have := (of32_lt hz (b := 0) ⟨by decide, by decide⟩).mp q
      omega
    have hcats : rz_cats r ≤ 8 := by simpa using kc
    refine va_copyl hx hb hL.1 hown (hts _ (tb hlf)) (hts _ (tb jw_copy.1)) (hts _ (tb jw_copy.2.1)) (hts _ (tb jw_copy.2.2)) hO.1 hW.1 hW.2.1 hW.2.2.1 a b 1 1 ((ws_get hlta).trans (by rw [ce_1 a1])) ((ws_get hltb).trans (by rw [ce_1 b1])) rfl rfl rfl (nlt _ hsp g1) (nlt _ hdp g2) (nlt _ hk g3) ?_ ?_ (fun _ _ => rfl) hfr ?_ hdg (fun H1 locs1 hP hD hS1 => ?_)
    · rw [cl32_of hsp g1, cl32_of hk g3]; omega
    · rw [cl32_of hdp g2, cl32_of hk g3]; omega
    · rw [cats_sum, show nativeFrameWords "java/lang/System" "arraycopy" 5 = 7 from by decide]; omega
    · refine K _ _ _ _ _ _ _ (Wd_next hW (ws_set hltb (m' := rz_cp M a sp b dp k) ?_ (fun j hj => ce_cp hj)) hP hD hS1 ?_ ?_) hL hr h
      · rw [ce_1 b1, cl32_of hsp g1, cl32_of hk g3, cl32_of hdp g2]
        congr 5
        funext j
        unfold va_cpy rz_cp
        by_cases e : dp.toNat ≤ j ∧ j < dp.toNat + k.toNat
        · rw [if_pos e, if_pos ⟨rfl, by omega, by omega⟩]
          congr 2
          omega
        · rw [if_neg e, if_neg (fun q => e (by omega))]
      · intro x y
        unfold rz_cp
        split
        · next q =>
          obtain ⟨rfl, -, -⟩ := q
          unfold rz_okm
          rw [b1]
          exact mo_1 hW.2.2.2.1 a1 _
        · exact hW.2.2.2.1 x y
      · intro j
        exact if_neg fun q => by
          have : (400 : Nat) < 249 := by rw [q.1]; exact hltb
          exact absurd this (by decide)
  · exact h.elim
theorem jm_209 (h : rz_jm n ls st M P 209) : ∃ a r, st = .inr (.inl a) :: r ∧ Nat.ble (rz_cats r) 8 = true ∧ P n ls (rL (rz_abs a) :: r) M := by
  rcases st with _ | ⟨b | b | b | b, r⟩
  case cons.inr.inl =>
    have h : (bif Nat.ble (rz_cats r) 8 then P n ls (rL (rz_abs b) :: r) M else False) := h
    rw [rz_bif] at h
    exact ⟨b, r, rfl, h⟩
  all_goals exact (show False from h).elim
theorem jm_210 (h : rz_jm n ls st M P 210) : ∃ b a r, st = .inl b :: .inl a :: r ∧ Nat.ble (rz_cats r) 8 = true ∧ P n ls (rI (rz_mx a b) :: r) M := by
  rcases st with _ | ⟨b | b | b | b, _ | ⟨a | a | a | a, r⟩⟩
  case cons.inl.cons.inl =>
    have h : (bif Nat.ble (rz_cats r) 8 then P n ls (rI (rz_mx a b) :: r) M else False) := h
    rw [rz_bif] at h
    exact ⟨b, a, r, rfl, h⟩
  all_goals exact (show False from h).elim
theorem jm_211 (h : rz_jm n ls st M P 211) : ∃ b a r, st = .inl b :: .inl a :: r ∧ Nat.ble (rz_cats r) 8 = true ∧ P n ls (rI (rz_mn a b) :: r) M := by
  rcases st with _ | ⟨b | b | b | b, _ | ⟨a | a | a | a, r⟩⟩
  case cons.inl.cons.inl =>
    have h : (bif Nat.ble (rz_cats r) 8 then P n ls (rI (rz_mn a b) :: r) M else False) := h
    rw [rz_bif] at h
    exact ⟨b, a, r, rfl, h⟩
  all_goals exact (show False from h).elim
theorem of64_lt {a b : Int} (ha : R64 a) (hb : R64 b) : Int64.ofInt a < Int64.ofInt b ↔ a < b := by rw [Int64.lt_iff_toInt_lt, to64_of ha, to64_of hb]
theorem so_jm (K : rz_K w p l e R s m args below meth c cells slots QW P) (hW : rz_Wd w s.heap H locs M) (hL : rz_Lr w.2.1 c ls la) (hS : ∀ v ∈ st, rz_ok v) (hx : p.tables.exec = Jvm.exec) (hb : c.code = cc) (hts : ∀ w ∈ rz_tb, w.before args s = true) {own : String} {idx z : Nat} (hown : s.vm.findClass own = some m.cls) (hz : 208 < z ∧ z < 212)
    (hlf : match z with
      | 209 => Cond.methodLink own idx Lib.MathLoose.abs_long.x ∈ lw_tbl
      | 210 => Cond.methodLink own idx Lib.Math.max.name ∈ lw_tbl
      | 211 => Cond.methodLink own idx Lib.Math.min.name ∈ lw_tbl
      | _ => False) (hfr : 1 ≤ R.frames) (hlo : 21 ≤ R.locals) (hcs : cells ≤ R.cells ∧ slots ≤ R.slots) (hdg : decode cc pc = .ok (.invokestatic idx, 3)) (hn : n = pc + 3)
    (h : rz_jm n ls st M P z) : W p l e R s m args below meth c H locs cells slots QW (F0 m pc la (st.map (rz_cv w.2.1))) := by
  subst hn
  have hz3 : z = 209 ∨ z = 210 ∨ z = 211 := by omega
  rcases hz3 with rfl | rfl | rfl
  · obtain ⟨a, r, rfl, kc, h⟩ := jm_209 h
    {
      obtain ⟨ha, hr⟩ := List.forall_mem_cons.mp hS
      have hcats : rz_cats r ≤ 8 := by simpa using kc
      refine va_mabs_long hx hb hL.1 hown (hts _ (tb hlf)) (hts _ (tb jw_abs.1)) (hts _ (tb jw_abs.2.1)) (hts _ (tb jw_abs.2.2)) hfr (by rw [cats_sum]; omega) hcs.1 hcs.2 hdg (so_push K hW hL hr (v := rL (rz_abs a)) ?_ ?_ h)
      · show R64 _
        unfold rz_abs
        split
        · exact ha
        · exact w64_R _
      · show Value.long (Int64.ofInt (rz_abs a)) = _
        congr 1
        unfold rz_abs
        have h0 : (0 : Int64) < Int64.ofInt a ↔ 0 < a := by
          rw [Int64.lt_iff_toInt_lt, to64_of ha, show (0 : Int64).toInt = 0 from by decide]
        by_cases q : 0 < a
        · rw [if_pos q, if_pos (h0.mpr q)]
        · rw [if_neg q, if_neg (fun z => q (h0.mp z)), of64_w, Int64.ofInt_neg]
    }
  · obtain ⟨b, a, r, rfl, kc, h⟩ := jm_210 h
    {
      obtain ⟨hb', h2⟩ := List.forall_mem_cons.mp hS
      obtain ⟨ha, hr⟩ := List.forall_mem_cons.mp h2
      have hcats : rz_cats r ≤ 8 := by simpa using kc
      refine va_mmax hx hb hL.1 hown (hts _ (tb hlf)) (hts _ (tb jw_max.1)) (hts _ (tb jw_max.2.1)) (hts _ (tb jw_max.2.2)) hfr (by rw [cats_sum]; omega) hcs.1 hcs.2 hdg (so_push K hW hL hr (v := rI (rz_mx a b)) ?_ ?_ h)
      · show R32 _
        unfold rz_mx
        split
        · exact hb'
        · exact ha
      · show Value.int (Int32.ofInt (rz_mx a b)) = _
        congr 1
        unfold rz_mx
        by_cases q : a < b
        · rw [if_pos q, if_pos ((of32_lt ha hb').mpr q)]
        · rw [if_neg q, if_neg (fun z => q ((of32_lt ha hb').mp z))]
    }
  · obtain ⟨b, a, r, rfl, kc, h⟩ := jm_211 h
    {
      obtain ⟨hb', h2⟩ := List.forall_mem_cons.mp hS
      obtain ⟨ha, hr⟩ := List.forall_mem_cons.mp h2
      have hcats : rz_cats r ≤ 8 := by simpa using kc
      refine va_mmin hx hb hL.1 hown (hts _ (tb hlf)) (hts _ (tb jw_min.1)) (hts _ (tb jw_min.2.1)) (hts _ (tb jw_min.2.2)) hfr (by rw [cats_sum]; omega) hcs.1 hcs.2 hdg (so_push K hW hL hr (v := rI (rz_mn a b)) ?_ ?_ h)
      · show R32 _
        unfold rz_mn
        split
        · exact hb'
        · exact ha
      · show Value.int (Int32.ofInt (rz_mn a b)) = _
        congr 1
        unfold rz_mn
        by_cases q : b < a
        · rw [if_pos q, if_pos ((of32_lt hb' ha).mpr q)]
        · rw [if_neg q, if_neg (fun z => q ((of32_lt hb' ha).mp z))]
    }
theorem so_scr (K : rz_K w p l e R s m args below meth c cells slots QW P) (hW : rz_Wd w s.heap H locs M) (hL : rz_Lr w.2.1 c ls la) (hS : ∀ v ∈ st, rz_ok v) (hx : p.tables.exec = Jvm.exec) (hb : c.code = cc) (hO : rz_Ol w s) (hdg : decode cc pc = .ok (.iaload, 1)) (hn : n = pc + 1)
    (h : rz_scr n ls st M P) : W p l e R s m args below meth c H locs cells slots QW (F0 m pc la (st.map (rz_cv w.2.1))) := by
  subst hn
  unfold rz_scr at h
  split at h
  · next i a r =>
    obtain ⟨hi, h2⟩ := List.forall_mem_cons.mp hS
    obtain ⟨-, hr⟩ := List.forall_mem_cons.mp h2
    rw [rz_bif] at h
    obtain ⟨ha, hin, h⟩ := h
    have ha := Nat.eq_of_beq_eq_true ha
    subst ha
    rw [hW.2.2.2.2.1] at hin
    have hlt : w.2.2.2.2.1 < s.heap.size := by
      obtain ⟨scr, h1, -⟩ := hO.2.2.2.2.1
      exact (Array.getElem?_eq_some_iff.mp h1).1
    have he := hW.2.2.2.2.2.2 i.toNat (by have := hin.2; have := hin.1; omega)
    rw [Int.toNat_of_nonneg hin.1] at he
    have k := va_sld (p := p) (Q := QW) (l := l) (e := e) hx hb hO.2.2.2.2.1 hlt hO.2.2.2.2.2.1 hW.2.2.1 (i := Int32.ofInt i) (in_of hi hin) hdg (m := m) (ls := la) (rest := r.map (rz_cv w.2.1)) (R := R) (args := args) (below := below) (meth := meth) (cells := cells) (slots := slots) (so_push K hW hL hr (v := rI (M 400 i)) (by rw [he]; exact to32_R _) (by rw [he, cl32_of hi hin.1]; show Value.int (Int32.ofInt _) = _; rw [Int32.ofInt_toInt]) h)
    show W p l e R s m args below meth c H locs cells slots QW (F0 m pc la (.int (Int32.ofInt i) :: .ref (w.2.1 400) :: r.map (rz_cv w.2.1)))
    rw [hO.2.2.2.2.2.2.1]
    exact k
  · exact h.elim
theorem so_scl (K : rz_K w p l e R s m args below meth c cells slots QW P) (hW : rz_Wd w s.heap H locs M) (hL : rz_Lr w.2.1 c ls la) (hS : ∀ v ∈ st, rz_ok v) (hx : p.tables.exec = Jvm.exec) (hb : c.code = cc) (hO : rz_Ol w s) (hdg : decode cc pc = .ok (.arraylength, 1)) (hn : n = pc + 1)
    (h : rz_scl n ls st M P) : W p l e R s m args below meth c H locs cells slots QW (F0 m pc la (st.map (rz_cv w.2.1))) := by
  subst hn
  unfold rz_scl at h
  split at h
  · next a r =>
    obtain ⟨-, hr⟩ := List.forall_mem_cons.mp hS
    rw [rz_bif] at h
    obtain ⟨ha, h⟩ := h
    have ha := Nat.eq_of_beq_eq_true ha
    subst ha
    have hlt : w.2.2.2.2.1 < s.heap.size := by
      obtain ⟨scr, h1, -⟩ := hO.2.2.2.2.1
      exact (Array.getElem?_eq_some_iff.mp h1).1
    have he := hW.2.2.2.2.1
    have k := va_slen (p := p) (Q := QW) (l := l) (e := e) hx hb hO.2.2.2.2.1 hlt hO.2.2.2.2.2.1 hW.2.2.1 hdg (m := m) (ls := la) (rest := r.map (rz_cv w.2.1)) (R := R) (args := args) (below := below) (meth := meth) (cells := cells) (slots := slots) (so_push K hW hL hr (v := rI (M 400 (-1))) (by rw [he]; have := hW.2.2.2.2.2.1; show R32 _; unfold R32; omega) (by rw [he]; rfl) h)
    show W p l e R s m args below meth c H locs cells slots QW (F0 m pc la (.ref (w.2.1 400) :: r.map (rz_cv w.2.1)))
    rw [hO.2.2.2.2.2.2.1]
    exact k
  · exact h.elim
end RZF
