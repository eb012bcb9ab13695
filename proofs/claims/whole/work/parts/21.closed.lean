/-! the machine is right, all instructions together -/
theorem ok1_x {b : ByteArray} {pc n t : Nat} {i : Instr} (h : rz_ok1 b pc (i, n, t) = true) (hi : i ≠ .nop) : decode b pc = .ok (i, rz_il i (n - pc)) ∧ n = pc + rz_il i (n - pc) ∧ rz_tg pc t i = true := by
  have h2 : (decide (decode b pc = .ok (i, rz_il i (n - pc))) && Nat.beq n (pc + rz_il i (n - pc)) && rz_tg pc t i) = true := by
    cases i <;> first | exact h | exact absurd rfl hi
  simp only [Bool.and_eq_true, decide_eq_true_eq] at h2
  exact ⟨h2.1.1, Nat.eq_of_beq_eq_true h2.1.2, h2.2⟩
theorem of_elem {l : List (Nat × Nat)} {q : Nat × Nat} (h : l.elem q = true) : q ∈ l := by simpa using h
section RZA
variable {w : rz_Wt} {p : Program} {l : Launch} {e : Env} {R : Room} {s : State} {m : MethodId} {args : Array Value} {below : List Frame} {meth : Method} {c : Code} {H : Heap} {locs : List Loc} {cells slots : Nat} {QW : State → Prop}
variable {pc n t y : Nat} {ls st : List rz_V} {la : Array Slot} {M : rz_M} {P : Nat → List rz_V → List rz_V → rz_M → Prop} {Q : Int → rz_M → Prop}
theorem so_iinc {cc : ByteArray} (K : rz_K w p l e R s m args below meth c cells slots QW P) (hW : rz_Wd w s.heap H locs M) (hL : rz_Lr w.2.1 c ls la) (hS : ∀ v ∈ st, rz_ok v) (hx : p.tables.exec = Jvm.exec) (hb : c.code = cc) {k : Nat} {d : Int} (hdg : decode cc pc = .ok (.iinc k d, 3)) (hn : n = pc + 3)
    (h : match ls.getD k (rX 0) with | .inl z => P n (ls.set k (rI (w32 (z + d)))) st M | _ => False) : W p l e R s m args below meth c H locs cells slots QW (F0 m pc la (st.map (rz_cv w.2.1))) := by
  subst hn
  split at h
  · next z hz =>
    have h2 : ls[k]? = some (rI z) := by
      rw [List.getD_eq_getElem?_getD] at hz
      cases hq : ls[k]? with
      | none => rw [hq] at hz; cases hz
      | some u => rw [hq] at hz; exact congrArg some hz
    obtain ⟨i, hi⟩ := List.getElem?_of_mem (kn_mem (ad := w.2.1) (q := (k, rz_cv w.2.1 (rI z))) |>.mpr ⟨rI z, h2, rfl, rfl⟩)
    have hlt : k < la.size := by rw [← hL.2.1]; exact (List.getElem?_eq_some_iff.mp h2).1
    exact lv_iinc hx hb hdg (Lr_has hL) hi (v := Int32.ofInt (w32 (z + d))) (by rw [of32_w, Int32.ofInt_add]) hlt rfl (fun la' h' => K _ _ _ _ _ _ _ hW (Lr_inc hL h2 (w32_R _) h') hS h)
  · exact h.elim
theorem so_u32 (K : rz_K w p l e R s m args below meth c cells slots QW P) (hW : rz_Wd w s.heap H locs M) (hL : rz_Lr w.2.1 c ls la) (hS : ∀ v ∈ st, rz_ok v)
    (row : ∀ (x : Int32) (rest : List Value), W p l e R s m args below meth c H locs cells slots QW (F0 m n la (.int (-x) :: rest)) → W p l e R s m args below meth c H locs cells slots QW (F0 m pc la (.int x :: rest)))
    (h : rz_u32 n ls st M P (fun a => w32 (-a))) : W p l e R s m args below meth c H locs cells slots QW (F0 m pc la (st.map (rz_cv w.2.1))) := by
  unfold rz_u32 at h
  split at h
  · next a r =>
    obtain ⟨ha, hr⟩ := List.forall_mem_cons.mp hS
    exact row _ _ (so_push K hW hL hr (v := rI (w32 (-a))) (w32_R _) (congrArg Value.int (by rw [of32_w, Int32.ofInt_neg])) h)
  · exact h.elim
theorem so_u64 (K : rz_K w p l e R s m args below meth c cells slots QW P) (hW : rz_Wd w s.heap H locs M) (hL : rz_Lr w.2.1 c ls la) (hS : ∀ v ∈ st, rz_ok v)
    (row : ∀ (x : Int64) (rest : List Value), W p l e R s m args below meth c H locs cells slots QW (F0 m n la (.long (-x) :: rest)) → W p l e R s m args below meth c H locs cells slots QW (F0 m pc la (.long x :: rest)))
    (h : rz_u64 n ls st M P (fun a => w64 (-a))) : W p l e R s m args below meth c H locs cells slots QW (F0 m pc la (st.map (rz_cv w.2.1))) := by
  unfold rz_u64 at h
  split at h
  · next a r =>
    obtain ⟨ha, hr⟩ := List.forall_mem_cons.mp hS
    exact row _ _ (so_push K hW hL hr (v := rL (w64 (-a))) (w64_R _) (congrArg Value.long (by rw [of64_w, Int64.ofInt_neg])) h)
  · exact h.elim
theorem so_i2l {cc : ByteArray} (K : rz_K w p l e R s m args below meth c cells slots QW P) (hW : rz_Wd w s.heap H locs M) (hL : rz_Lr w.2.1 c ls la) (hS : ∀ v ∈ st, rz_ok v) (hx : p.tables.exec = Jvm.exec) (hb : c.code = cc) (hdg : decode cc pc = .ok (.i2l, 1)) (hn : n = pc + 1) (h : rz_i2l n ls st M P) : W p l e R s m args below meth c H locs cells slots QW (F0 m pc la (st.map (rz_cv w.2.1))) := by
  subst hn
  unfold rz_i2l at h
  split at h
  · next a r =>
    obtain ⟨ha, hr⟩ := List.forall_mem_cons.mp hS
    have ha : R32 a := ha
    have h64 : R64 a := ⟨Int.le_trans (by decide) ha.1, Int.lt_trans ha.2 (by decide)⟩
    exact lv_i2l hx hb hdg rfl (so_push K hW hL hr (v := rL a) h64 (congrArg Value.long (by rw [← Int64.toInt_inj, Int32.toInt_toInt64, to32_of ha, to64_of h64])) h)
  · exact h.elim
theorem so_l2i {cc : ByteArray} (K : rz_K w p l e R s m args below meth c cells slots QW P) (hW : rz_Wd w s.heap H locs M) (hL : rz_Lr w.2.1 c ls la) (hS : ∀ v ∈ st, rz_ok v) (hx : p.tables.exec = Jvm.exec) (hb : c.code = cc) (hdg : decode cc pc = .ok (.l2i, 1)) (hn : n = pc + 1) (h : rz_l2i n ls st M P) : W p l e R s m args below meth c H locs cells slots QW (F0 m pc la (st.map (rz_cv w.2.1))) := by
  subst hn
  unfold rz_l2i at h
  split at h
  · next a r =>
    obtain ⟨ha, hr⟩ := List.forall_mem_cons.mp hS
    exact lv_l2i hx hb hdg rfl (so_push K hW hL hr (v := rI (w32 a)) (w32_R a) (congrArg Value.int (by rw [← Int32.toInt_inj, to32_of (w32_R a), Int64.toInt_toInt32, to64_of ha]; rfl)) h)
  · exact h.elim
theorem so_lcmp {cc : ByteArray} (K : rz_K w p l e R s m args below meth c cells slots QW P) (hW : rz_Wd w s.heap H locs M) (hL : rz_Lr w.2.1 c ls la) (hS : ∀ v ∈ st, rz_ok v) (hx : p.tables.exec = Jvm.exec) (hb : c.code = cc) (hdg : decode cc pc = .ok (.lcmp, 1)) (hn : n = pc + 1) (h : rz_lcmp n ls st M P) : W p l e R s m args below meth c H locs cells slots QW (F0 m pc la (st.map (rz_cv w.2.1))) := by
  subst hn
  unfold rz_lcmp at h
  split at h
  · next b a r =>
    obtain ⟨hb', h2⟩ := List.forall_mem_cons.mp hS
    obtain ⟨ha, hr⟩ := List.forall_mem_cons.mp h2
    have ha : R64 a := ha
    have hb' : R64 b := hb'
    refine W.lcmp hx hb hdg (so_push K hW hL hr (v := rI (rz_cmp a b)) ?_ (congrArg Value.int ?_) h)
    · show R32 _
      unfold rz_cmp
      split
      · exact ⟨by decide, by decide⟩
      · split <;> exact ⟨by decide, by decide⟩
    · unfold rz_cmp lg_cmp
      have e1 : Int64.ofInt a > Int64.ofInt b ↔ b < a := of64_lt hb' ha
      have e2 : Int64.ofInt a = Int64.ofInt b ↔ a = b := by rw [← Int64.toInt_inj, to64_of ha, to64_of hb']
      by_cases q1 : a < b
      · rw [if_pos q1, if_neg (fun z => by have := e1.mp z; omega), if_neg (fun z => by have := e2.mp z; omega)]
        rfl
      · rw [if_neg q1]
        by_cases q2 : a = b
        · rw [if_pos q2, if_neg (fun z => by have := e1.mp z; omega), if_pos (e2.mpr q2)]
          rfl
        · rw [if_neg q2, if_pos (e1.mpr (by omega))]
          rfl
  · exact h.elim
theorem row_pop2 {cc : ByteArray} (hx : p.tables.exec = Jvm.exec) (hb : c.code = cc) {v : Int64} {rest : List Value} (hdg : decode cc pc = .ok (.pop2, 1))
    (k : W p l e R s m args below meth c H locs cells slots QW (F0 m (pc + 1) la rest)) : W p l e R s m args below meth c H locs cells slots QW (F0 m pc la (.long v :: rest)) := by
  intro T hT X
  obtain ⟨t, a, b⟩ := k T hT X
  refine ⟨t, ?_, b⟩
  jvm_step X.here [X.here.top, hx, hb, hdg, Value.category]
  exact a
theorem and32_R (x : Int32) : R32 x.toInt ∧ Int32.ofInt x.toInt = x := ⟨to32_R x, Int32.ofInt_toInt x⟩
theorem and64_R (x : Int64) : R64 x.toInt ∧ Int64.ofInt x.toInt = x := ⟨to64_R x, Int64.ofInt_toInt x⟩
theorem ok_div32 (a b : Int) (ha : R32 a) (hb : R32 b) (_ : b ≠ 0) : R32 (w32 (Int.tdiv a b)) ∧ Int32.ofInt (w32 (Int.tdiv a b)) = Int32.ofInt a / Int32.ofInt b := by
  refine ⟨w32_R _, ?_⟩
  rw [← Int32.toInt_inj, to32_of (w32_R _), Int32.toInt_div, to32_of ha, to32_of hb]
  rfl
theorem ok_div64 (a b : Int) (ha : R64 a) (hb : R64 b) (_ : b ≠ 0) : R64 (w64 (Int.tdiv a b)) ∧ Int64.ofInt (w64 (Int.tdiv a b)) = Int64.ofInt a / Int64.ofInt b := by
  refine ⟨w64_R _, ?_⟩
  rw [← Int64.toInt_inj, to64_of (w64_R _), Int64.toInt_div, to64_of ha, to64_of hb]
  rfl
theorem tmod_R (a b : Int) (ha1 : 0 ≤ a → 0 ≤ Int.tmod a b ∧ Int.tmod a b ≤ a) (ha2 : a ≤ 0 → a ≤ Int.tmod a b ∧ Int.tmod a b ≤ 0) (L U : Int) (h1 : L ≤ a) (h2 : a < U) (hL : L ≤ 0) (hU : 0 < U) : L ≤ Int.tmod a b ∧ Int.tmod a b < U := by
  by_cases h : 0 ≤ a
  · have := ha1 h; omega
  · have := ha2 (by omega); omega
theorem tmod_pos (a b : Int) (h : 0 ≤ a) : 0 ≤ Int.tmod a b ∧ Int.tmod a b ≤ a := by
  refine ⟨Int.tmod_nonneg b h, ?_⟩
  obtain ⟨n, rfl⟩ := Int.eq_ofNat_of_zero_le h
  rcases Int.eq_nat_or_neg b with ⟨k, rfl | rfl⟩
  · rw [← Int.ofNat_tmod]
    exact Int.ofNat_le.mpr (Nat.mod_le n k)
  · rw [Int.tmod_neg, ← Int.ofNat_tmod]
    exact Int.ofNat_le.mpr (Nat.mod_le n k)
theorem tmod_nonpos (a b : Int) (h : a ≤ 0) : a ≤ Int.tmod a b ∧ Int.tmod a b ≤ 0 := by
  have h1 := tmod_pos (-a) b (by omega)
  rw [Int.neg_tmod] at h1
  omega
theorem ok_rem32 (a b : Int) (ha : R32 a) (hb : R32 b) (hne : b ≠ 0) : R32 (Int.tmod a b) ∧ Int32.ofInt (Int.tmod a b) = Int32.ofInt a - Int32.ofInt a / Int32.ofInt b * Int32.ofInt b := by
  have hR : R32 (Int.tmod a b) := tmod_R a b (tmod_pos a b) (tmod_nonpos a b) _ _ ha.1 ha.2 (by decide) (by decide)
  refine ⟨hR, ?_⟩
  rw [← (ok_div32 a b ha hb hne).2, of32_w, ← Int32.ofInt_mul, ← Int32.ofInt_sub]
  congr 1
  have := Int.tmod_add_mul_tdiv a b
  rw [Int.mul_comm] at this
  omega
theorem ok_rem64 (a b : Int) (ha : R64 a) (hb : R64 b) (hne : b ≠ 0) : R64 (Int.tmod a b) ∧ Int64.ofInt (Int.tmod a b) = Int64.ofInt a - Int64.ofInt a / Int64.ofInt b * Int64.ofInt b := by
  have hR : R64 (Int.tmod a b) := tmod_R a b (tmod_pos a b) (tmod_nonpos a b) _ _ ha.1 ha.2 (by decide) (by decide)
  refine ⟨hR, ?_⟩
  rw [← (ok_div64 a b ha hb hne).2, of64_w, ← Int64.ofInt_mul, ← Int64.ofInt_sub]
  congr 1
  have := Int.tmod_add_mul_tdiv a b
  rw [Int.mul_comm] at this
  omega
theorem i8_of {v : Int} (h : -128 ≤ v ∧ v < 128) : (Int8.ofInt v).toInt32 = Int32.ofInt v := by
  rw [← Int32.toInt_inj, Int8.toInt_toInt32, Int8.toInt_ofInt_of_le h.1 h.2, to32_of ⟨by omega, by omega⟩]
theorem i16_of {v : Int} (h : -32768 ≤ v ∧ v < 32768) : (Int16.ofInt v).toInt32 = Int32.ofInt v := by
  rw [← Int32.toInt_inj, Int16.toInt_toInt32, Int16.toInt_ofInt_of_le h.1 h.2, to32_of ⟨by omega, by omega⟩]
theorem so_ret (hW : rz_Wd w s.heap H locs M) (hS : ∀ v ∈ st, rz_ok v) (hRt : rz_Rt w y p l e R s m args below meth c cells slots QW Q) {i : Instr} (hdg : decode (rz_mB y) pc = .ok (i, 1))
    (h : (i = .ireturn ∧ rz_reti y st M Q) ∨ (i = .lreturn ∧ rz_retl y st M Q) ∨ (i = .areturn ∧ rz_reta y st M Q) ∨ (i = .return_ ∧ rz_retv y st M Q)) : W p l e R s m args below meth c H locs cells slots QW (F0 m pc la (st.map (rz_cv w.2.1))) := by
  unfold rz_Rt at hRt
  rcases h with ⟨rfl, h⟩ | ⟨rfl, h⟩ | ⟨rfl, h⟩ | ⟨rfl, h⟩
  · unfold rz_reti at h
    split at h
    · next z =>
      have hz := hS _ List.mem_cons_self
      revert hRt h
      generalize (rz_mi y).2.2.1 = k
      intro hRt h
      match k with
      | 0 => exact h.elim
      | 1 => exact hRt z M H locs la pc h hW hz hdg
      | 2 => exact h.elim
      | 3 => exact h.elim
      | 4 => exact hRt z M H locs la pc h.2 hW h.1 hdg
      | k + 5 => exact h.elim
    · exact h.elim
  · unfold rz_retl at h
    split at h
    · next z =>
      have hz := hS _ List.mem_cons_self
      rw [rz_bif] at h
      have hk := Nat.eq_of_beq_eq_true h.1
      rw [hk] at hRt
      exact hRt z M H locs la pc h.2 hW hz hdg
    · exact h.elim
  · unfold rz_reta at h
    split at h
    · next z =>
      rw [rz_bif, Bool.and_eq_true] at h
      have hk := Nat.eq_of_beq_eq_true h.1.1
      rw [hk] at hRt
      exact hRt z M H locs la pc h.2 hW (Int.natCast_nonneg z) hdg
    · exact h.elim
  · unfold rz_retv at h
    split at h
    · rw [rz_bif] at h
      have hk := Nat.eq_of_beq_eq_true h.1
      rw [hk] at hRt
      exact hRt 0 M H locs la pc h.2 hW rfl hdg
    · exact h.elim
theorem so_call (K : rz_K w p l e R s m args below meth c cells slots QW P) (hW : rz_Wd w s.heap H locs M) (hL : rz_Lr w.2.1 c ls la) (hS : ∀ v ∈ st, rz_ok v) (hC : rz_Cx w y p R s m args c cells slots) {idx : Nat} {i : Instr} (hi : i = .invokevirtual idx ∨ i = .invokestatic idx) (hlk : rz_lkc (rz_mi y).1 i = true) (hdg : decode (rz_mB y) pc = .ok (i, 3)) (hn : n = pc + 3)
    (h : rz_call (rz_CX (rz_Snd w l)) y n ls st M P (rz_lm (rz_mi y).1 idx)) : W p l e R s m args below meth c H locs cells slots QW (F0 m pc la (st.map (rz_cv w.2.1))) := by
  have hcase : (((rz_mi y).1, idx) ∈ rz_lkl ∧ (i = .invokestatic idx ↔ rz_stat (rz_lm (rz_mi y).1 idx) = true)) ∨ (i = .invokestatic idx ∧ ((rz_mi y).1, idx) ∈ rz_jfl) := by
    rcases hi with rfl | rfl
    · obtain ⟨q1, q2⟩ := Bool.and_eq_true_iff.mp hlk
      refine Or.inl ⟨of_elem q1, fun q => (by cases q), fun q => ?_⟩
      rw [q] at q2
      exact absurd q2 (by decide)
    · rcases Bool.or_eq_true_iff.mp hlk with q | q
      · obtain ⟨q1, q2⟩ := Bool.and_eq_true_iff.mp q
        exact Or.inl ⟨of_elem q1, fun _ => q2, fun _ => rfl⟩
      · exact Or.inr ⟨rfl, of_elem q⟩
  rcases hcase with ⟨hq, hsi⟩ | ⟨rfl, hq⟩
  · have hf := lk_all _ hq
    have hz := hf.1
    dsimp only at hz
    have hlt : rz_lm (rz_mi y).1 idx < 209 := (by decide +kernel : ∀ z ∈ rz_zl, z < 209) _ hz
    unfold rz_call at h
    rw [show Nat.beq (rz_lm (rz_mi y).1 idx) 300 = false from by
      cases q : Nat.beq (rz_lm (rz_mi y).1 idx) 300 with
      | false => rfl
      | true => have := Nat.eq_of_beq_eq_true q; omega, cond_false, rz_bltf (by omega), Bool.false_and, cond_false] at h
    exact so_calx K hW hL hS hC hi hf hsi hdg hn h
  · have hf := rz_jf_all _ hq
    unfold rz_jff at hf
    dsimp only at hf
    have hz : rz_lm (rz_mi y).1 idx = 300 ∨ (208 < rz_lm (rz_mi y).1 idx ∧ rz_lm (rz_mi y).1 idx < 212) := by
      split at hf <;> first | exact hf.elim | (next q => rw [q]; decide)
    obtain ⟨hx, hb, hown, hts, hfr, hlo, hcs, hy, hO⟩ := hC
    generalize rz_lm (rz_mi y).1 idx = z at hf hz h
    unfold rz_call at h
    rcases hz with rfl | ⟨hz1, hz2⟩
    · rw [show Nat.beq 300 300 = true from rfl, cond_true, rz_bif, Bool.and_eq_true] at h
      obtain ⟨⟨h1, h2⟩, h⟩ := h
      have h1 : 0 < (rz_rk y).1 := by simpa [Nat.blt_eq] using h1
      have h2 : 40 ≤ (rz_rk y).2 := Nat.le_of_ble_eq_true h2
      exact so_cpy K hW hL hS hx hb hO hts hown hf (by omega) (by omega) hdg hn h
    · rw [show Nat.beq z 300 = false from by
        cases q : Nat.beq z 300 with
        | false => rfl
        | true => have := Nat.eq_of_beq_eq_true q; omega, cond_false, rz_bltt hz1, rz_bltt hz2, Bool.and_self, cond_true, rz_bif, Bool.and_eq_true] at h
      obtain ⟨⟨h1, h2⟩, h⟩ := h
      have h1 : 0 < (rz_rk y).1 := by simpa [Nat.blt_eq] using h1
      have h2 : 21 ≤ (rz_rk y).2 := Nat.le_of_ble_eq_true h2
      refine so_jm K hW hL hS hx hb hts hown ⟨hz1, hz2⟩ ?_ (by omega) (by omega) hcs hdg hn h
      split at hf <;> first | exact hf.elim | exact hf | omega
set_option maxHeartbeats 4000000 in
theorem so_step (K : rz_K w p l e R s m args below meth c cells slots QW P) (hW : rz_Wd w s.heap H locs M) (hL : rz_Lr w.2.1 c ls la) (hS : ∀ v ∈ st, rz_ok v) (hC : rz_Cx w y p R s m args c cells slots) (hRt : rz_Rt w y p l e R s m args below meth c cells slots QW Q)
    (h : rz_st (rz_CX (rz_Snd w l)) y pc ls st M P Q) : W p l e R s m args below meth c H locs cells slots QW (F0 m pc la (st.map (rz_cv w.2.1))) := by
  have hok := dk_all y hC.2.2.2.2.2.2.2.1 pc
  have hlk := lkc_all y hC.2.2.2.2.2.2.2.1 pc
  unfold rz_st at h
  generalize rz_p y pc = en at hok hlk h
  obtain ⟨i, n, t⟩ := en
  dsimp only at hlk h
  obtain ⟨hx, hb, hown, hts, hfr, hlo, hcs, hy, hO⟩ := id hC
  have hK := hO.1
  by_cases hni : i = .nop
  · subst hni
    exact h.elim
  obtain ⟨hd, hn, htg⟩ := ok1_x hok hni
  clear hok
  generalize n - pc = dd at hd hn
  cases i <;> try exact (show False from h).elim
  case iconst v =>
    have htg := of_decide_eq_true (show decide (-128 ≤ v ∧ v < 128) = true from htg)
    subst hn
    exact lv_iconst hx hb hd rfl (so_push K hW hL hS (v := rI v) ⟨by omega, by omega⟩ rfl h)
  case bipush v =>
    have htg := of_decide_eq_true (show decide (-128 ≤ v ∧ v < 128) = true from htg)
    subst hn
    exact lv_bipush hx hb hd (i8_of htg) (so_push K hW hL hS (v := rI v) ⟨by omega, by omega⟩ rfl h)
  case sipush v =>
    have htg := of_decide_eq_true (show decide (-32768 ≤ v ∧ v < 32768) = true from htg)
    subst hn
    exact lv_sipush hx hb hd (i16_of htg) (so_push K hW hL hS (v := rI v) ⟨by omega, by omega⟩ rfl h)
  case lconst v =>
    subst hn
    exact lv_lconst hx hb hd rfl (so_push K hW hL hS (v := rL ((v : Nat) : Int)) (by show R64 _; unfold R64; have := v.2; omega) (congrArg Value.long rfl) h)
  case ldc k =>
    obtain ⟨q1, q2⟩ := rz_ci_all _ (of_elem hlk)
    subst hn
    exact lv_ldc hx hb hown (hts _ (tb q1)) hd (so_push K hW hL hS (v := rI _) q2 rfl h)
  case ldc_w k =>
    obtain ⟨q1, q2⟩ := rz_ci_all _ (of_elem hlk)
    subst hn
    exact lv_ldcw hx hb hown (hts _ (tb q1)) hd (so_push K hW hL hS (v := rI _) q2 rfl h)
  case ldc2_w k =>
    obtain ⟨q1, q2⟩ := rz_co_all _ (of_elem hlk)
    subst hn
    exact lv_ldc2 hx hb hown (hts _ (tb q1)) hd (so_push K hW hL hS (v := rL _) q2 rfl h)
  case iload k => subst hn; exact so_ldi K hW hL hS (fun x r h1 h2 => lv_iload hx hb hd h1 h2) h
  case iload_n k => subst hn; exact so_ldi K hW hL hS (fun x r h1 h2 => lv_iload_n hx hb hd rfl h1 h2) h
  case lload k => subst hn; exact so_ldl K hW hL hS (fun x r h1 h2 => lv_lload hx hb hd h1 h2) h
  case lload_n k => subst hn; exact so_ldl K hW hL hS (fun x r h1 h2 => lv_lload_n hx hb hd rfl h1 h2) h
  case aload k => subst hn; exact so_lda K hW hL hS (fun x r h1 h2 => lv_aload hx hb hd h1 h2) h
  case aload_n k => subst hn; exact so_lda K hW hL hS (fun x r h1 h2 => lv_aload_n hx hb hd rfl h1 h2) h
  case istore k => subst hn; exact so_sti K hW hL hS (fun x r lv lv' h1 h2 h3 h4 => lv_istore hx hb hd h1 h2 h3 h4) h
  case istore_n k => subst hn; exact so_sti K hW hL hS (fun x r lv lv' h1 h2 h3 h4 => lv_istore_n hx hb hd rfl h1 h2 h3 h4) h
  case lstore k => subst hn; exact so_stl K hW hL hS (fun x r lv lv' h1 h2 h3 h4 => lv_lstore hx hb hd h1 h2 h3 h4) h
  case lstore_n k => subst hn; exact so_stl K hW hL hS (fun x r lv lv' h1 h2 h3 h4 => lv_lstore_n hx hb hd rfl h1 h2 h3 h4) h
  case astore k => subst hn; exact so_sta K hW hL hS (fun x r lv lv' h1 h2 h3 h4 => lv_astore hx hb hd h1 h2 h3 h4) h
  case astore_n k => subst hn; exact so_sta K hW hL hS (fun x r lv lv' h1 h2 h3 h4 => lv_astore_n hx hb hd rfl h1 h2 h3 h4) h
  case iinc k d => exact so_iinc K hW hL hS hx hb hd hn h
  case iadd => subst hn; exact so_b32 K hW hL hS (fun x y => x + y) (fun a b _ _ => ⟨w32_R _, by rw [of32_w, Int32.ofInt_add]⟩) (fun x y r k => lv_iadd hx hb hd k) h
  case isub => subst hn; exact so_b32 K hW hL hS (fun x y => x - y) (fun a b _ _ => ⟨w32_R _, by rw [of32_w, Int32.ofInt_sub]⟩) (fun x y r k => lv_isub hx hb hd k) h
  case imul => subst hn; exact so_b32 K hW hL hS (fun x y => x * y) (fun a b _ _ => ⟨w32_R _, by rw [of32_w, Int32.ofInt_mul]⟩) (fun x y r k => lv_imul hx hb hd k) h
  case iand => subst hn; exact so_b32 K hW hL hS (fun x y => x &&& y) (fun a b _ _ => and32_R _) (fun x y r k => lv_iand hx hb hd k) h
  case ior => subst hn; exact so_b32 K hW hL hS (fun x y => x ||| y) (fun a b _ _ => and32_R _) (fun x y r k => lv_ior hx hb hd k) h
  case ishl => subst hn; exact so_b32 K hW hL hS (fun x y => x <<< (y &&& 31)) (fun a b _ _ => and32_R _) (fun x y r k => lv_ishl hx hb hd k) h
  case ishr => subst hn; exact so_b32 K hW hL hS (fun x y => x >>> (y &&& 31)) (fun a b _ _ => and32_R _) (fun x y r k => lv_ishr hx hb hd k) h
  case iushr => subst hn; exact so_b32 K hW hL hS (fun x y => (x.toUInt32 >>> (y.toUInt32 &&& Int32.toUInt32 31)).toInt32) (fun a b _ _ => and32_R _) (fun x y r k => lv_iushr hx hb hd rfl k) h
  case idiv => subst hn; exact so_d32 K hW hL hS (fun x y => x / y) ok_div32 (fun x y r h0 k => lv_idiv hx hb hd h0 k) h
  case irem => subst hn; exact so_d32 K hW hL hS (fun x y => x - x / y * y) ok_rem32 (fun x y r h0 k => lv_irem hx hb hd h0 k) h
  case ineg => subst hn; exact so_u32 K hW hL hS (fun x r k => lv_ineg hx hb hd k) h
  case ladd => subst hn; exact so_b64 K hW hL hS (fun x y => x + y) (fun a b _ _ => ⟨w64_R _, by rw [of64_w, Int64.ofInt_add]⟩) (fun x y r k => lv_ladd hx hb hd k) h
  case lsub => subst hn; exact so_b64 K hW hL hS (fun x y => x - y) (fun a b _ _ => ⟨w64_R _, by rw [of64_w, Int64.ofInt_sub]⟩) (fun x y r k => lv_lsub hx hb hd k) h
  case lmul => subst hn; exact so_b64 K hW hL hS (fun x y => x * y) (fun a b _ _ => ⟨w64_R _, by rw [of64_w, Int64.ofInt_mul]⟩) (fun x y r k => lv_lmul hx hb hd k) h
  case land => subst hn; exact so_b64 K hW hL hS (fun x y => x &&& y) (fun a b _ _ => and64_R _) (fun x y r k => lv_land hx hb hd k) h
  case lor => subst hn; exact so_b64 K hW hL hS (fun x y => x ||| y) (fun a b _ _ => and64_R _) (fun x y r k => lv_lor hx hb hd k) h
  case ldiv => subst hn; exact so_d64 K hW hL hS (fun x y => x / y) ok_div64 (fun x y r h0 k => lv_ldiv hx hb hd h0 k) h
  case lrem => subst hn; exact so_d64 K hW hL hS (fun x y => x - x / y * y) ok_rem64 (fun x y r h0 k => lv_lrem hx hb hd h0 k) h
  case lneg => subst hn; exact so_u64 K hW hL hS (fun x r k => lv_lneg hx hb hd k) h
  case lshl => subst hn; exact so_h64 K hW hL hS (fun x y => x <<< (y.toInt64 &&& 63)) (fun a b _ _ => and64_R _) (fun x y r k => lv_lshl hx hb hd rfl k) h
  case lshr => subst hn; exact so_h64 K hW hL hS (fun x y => x >>> (y.toInt64 &&& 63)) (fun a b _ _ => and64_R _) (fun x y r k => lv_lshr hx hb hd rfl k) h
  case lushr => subst hn; exact so_h64 K hW hL hS (fun x y => (x.toUInt64 >>> (y.toInt64.toUInt64 &&& Int64.toUInt64 63)).toInt64) (fun a b _ _ => and64_R _) (fun x y r k => lv_lushr hx hb hd rfl k) h
  case i2l => exact so_i2l K hW hL hS hx hb hd hn h
  case l2i => exact so_l2i K hW hL hS hx hb hd hn h
  case lcmp => exact so_lcmp K hW hL hS hx hb hd hn h
  case ifCond k o => exact so_if1 K hW hL hS hx hb hd (of_decide_eq_true htg) hn h
  case if_icmp k o => exact so_if2 K hW hL hS hx hb hd (of_decide_eq_true htg) hn h
  case goto o => exact lv_goto hx hb hd (of_decide_eq_true htg) (K _ _ _ _ _ _ _ hW hL hS h)
  case tableswitch d lo hi offs =>
    obtain ⟨q1, -, -, q2, q3⟩ := of_decide_eq_true (show decide (0 ≤ (pc : Int) + d ∧ -2147483648 ≤ lo ∧ hi < 2147483648 ∧ (offs.size : Int) = hi - lo + 1 ∧ ∀ x ∈ offs.toList, 0 ≤ (pc : Int) + x) = true from htg)
    exact so_tsw K hW hL hS hx hb hd q1 q2 q3 h
  case iaload =>
    have h : bif Nat.beq y 212 then rz_scr n ls st M P else rz_ald n ls st M P := h
    cases q : Nat.beq y 212 with
    | true => rw [q] at h; exact so_scr K hW hL hS hx hb hO hd hn h
    | false => rw [q] at h; exact so_ald K hW hL hS hx hb hK hd hn h
  case laload => exact so_lald K hW hL hS hx hb hK hd hn h
  case aaload => exact so_aald K hW hL hS hx hb hK hd hn h
  case iastore => exact so_ast K hW hL hS hx hb hK hd hn h
  case lastore => exact so_last K hW hL hS hx hb hK hd hn h
  case arraylength =>
    have h : bif Nat.beq y 212 then rz_scl n ls st M P else rz_alen n ls st M P := h
    cases q : Nat.beq y 212 with
    | true => rw [q] at h; exact so_scl K hW hL hS hx hb hO hd hn h
    | false => rw [q] at h; exact so_alen K hW hL hS hx hb hK hd hn h
  case getfield k => exact so_getf K hW hL hS hx hb hO hts hown (rz_fl_all _ (of_elem hlk)) hd hn h
  case putfield k => exact so_putf K hW hL hS hx hb hO hts hown (rz_fl_all _ (of_elem hlk)) hd hn h
  case getstatic k => exact so_gets K hW hL hS hx hb hO hts hown (rz_fl_all _ (of_elem hlk)) hd hn h
  case invokevirtual k => exact so_call K hW hL hS hC (Or.inl rfl) hlk hd hn h
  case invokestatic k => exact so_call K hW hL hS hC (Or.inr rfl) hlk hd hn h
  case dup =>
    subst hn
    simp only [rz_sem] at h
    split at h
    · next v r =>
      obtain ⟨hv, hr⟩ := List.forall_mem_cons.mp hS
      rw [rz_bif] at h
      exact lv_dup hx hb hd (by rw [cv_cat]; exact Nat.eq_of_beq_eq_true h.1) (K _ _ (v :: v :: r) _ _ _ _ hW hL (List.forall_mem_cons.mpr ⟨hv, hS⟩) h.2)
    · exact h.elim
  case dup2 =>
    subst hn
    simp only [rz_sem] at h
    split at h
    · next v r =>
      obtain ⟨hv, hr⟩ := List.forall_mem_cons.mp hS
      exact lv_dup2_2 hx hb hd rfl (K _ _ (rL v :: rL v :: r) _ _ _ _ hW hL (List.forall_mem_cons.mpr ⟨hv, hS⟩) h)
    · next a b r =>
      obtain ⟨hv, hr⟩ := List.forall_mem_cons.mp hS
      obtain ⟨hv2, hr2⟩ := List.forall_mem_cons.mp hr
      exact lv_dup2_11 hx hb hd rfl rfl (K _ _ (rI a :: rR b :: rI a :: rR b :: r) _ _ _ _ hW hL (List.forall_mem_cons.mpr ⟨hv, List.forall_mem_cons.mpr ⟨hv2, hS⟩⟩) h)
    · exact h.elim
  case dup_x1 =>
    subst hn
    simp only [rz_sem] at h
    split at h
    · next a b r =>
      obtain ⟨hv, hr⟩ := List.forall_mem_cons.mp hS
      exact lv_dup_x1 hx hb hd rfl rfl (K _ _ (rI a :: rR b :: rI a :: r) _ _ _ _ hW hL (List.forall_mem_cons.mpr ⟨hv, List.forall_mem_cons.mpr ⟨(List.forall_mem_cons.mp hr).1, List.forall_mem_cons.mpr ⟨hv, (List.forall_mem_cons.mp hr).2⟩⟩⟩) h)
    · exact h.elim
  case pop =>
    subst hn
    simp only [rz_sem] at h
    split at h
    · next v r => exact lv_pop hx hb hd rfl (K _ _ r _ _ _ _ hW hL (List.forall_mem_cons.mp hS).2 h)
    · exact h.elim
  case pop2 =>
    subst hn
    simp only [rz_sem] at h
    split at h
    · next v r => exact row_pop2 hx hb hd (K _ _ r _ _ _ _ hW hL (List.forall_mem_cons.mp hS).2 h)
    · exact h.elim
  case ireturn => exact so_ret hW hS hRt hd (Or.inl ⟨rfl, h⟩)
  case lreturn => exact so_ret hW hS hRt hd (Or.inr (Or.inl ⟨rfl, h⟩))
  case areturn => exact so_ret hW hS hRt hd (Or.inr (Or.inr (Or.inl ⟨rfl, h⟩)))
  case return_ => exact so_ret hW hS hRt hd (Or.inr (Or.inr (Or.inr ⟨rfl, h⟩)))
end RZA
theorem Snd_cl (w : rz_Wt) (l : Launch) : rz_cl (rz_Snd w l) := by
  intro y pc ls st M Q h p e R s m args below meth c H locs cells slots QW la hC hW hL hS hRt
  rcases h with h | ⟨ls', h1, h2⟩
  · exact so_step (fun pc' ls' st' M' H' locs' la' hW' hL' hS' hP => hP p e R s m args below meth c H' locs' cells slots QW la' hC hW' hL' hS' hRt) hW hL hS hC hRt h
  · refine h2 p e R s m args below meth c H locs cells slots QW la hC hW ⟨hL.1, by rw [h1.1]; exact hL.2.1, hL.2.2.1, fun k v hk hn => ?_⟩ hS hRt
    rcases h1.2 k with q | q
    · exact hL.2.2.2 k v (by rw [← q]; exact hk) hn
    · rw [q] at hk
      cases hk
      exact absurd hn (by decide)
/-- what the machine says of a run holds of the JVM's -/
theorem rz_sound (w : rz_Wt) (l : Launch) {y pc : Nat} {ls st : List rz_V} {M : rz_M} {Q : Int → rz_M → Prop} (h : rz_E y pc ls st M Q) : rz_Snd w l y pc ls st M Q := h _ (Snd_cl w l)
