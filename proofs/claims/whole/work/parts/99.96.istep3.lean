/-! the constructors' machine is right: arrays of arrays, and all instructions together -/
section RZJ3
variable {D : va_G} {ids : in_I} {A : Nat → Prop} {p : Program} {l : Launch} {e : Env} {R : Room} {s : State} {m : MethodId} {args : Array Value} {below : List Frame} {meth : Method} {c : Code} {QW : State → Prop}
variable {y pc n k d : Nat} {ls st : List rz_V} {Wl : List in_C} {la : Array Slot} {H : Heap} {locs : List Loc} {ad : Nat → Nat} {T : in_T}
theorem in_mu_ok (hX : in_X D ids A y p R s m args meth c) (hP : va_P D rz_cls (in_w ids ad Wl) H) (hD : va_D A (in_w ids ad Wl)) (hSS : va_S A s.heap H locs) (hL : rz_Lr ad c ls la) (hS : ∀ v ∈ st, rz_ok v) {i : Nat} (hdg : decode (rz_mB y) pc = .ok (.multianewarray i 2, 4))
    (h : in_mu y (pc + 4) ls st Wl k n (in_f in_ml (rz_mi y).1 i) = some T) (K : in_K D ids A p l e R s m args below meth c QW ad Wl.length T) : W p l e R s m args below meth c H locs k n QW (F0 m pc la (st.map (rz_cv ad))) := by
  obtain ⟨hx, hb, hown, hts, ⟨-, hr1, hr2, -⟩, hy, -, hK, hA, -, -, hLO⟩ := id hX
  cases hf : in_f in_ml (rz_mi y).1 i with
  | none =>
    rw [hf] at h
    unfold in_mu at h
    split at h
    · next e => cases e
    · cases h
  | some w =>
    have hw := in_ml_all _ (in_f_mem hf)
    dsimp only at hw
    rw [hf] at h
    unfold in_mu at h
    split at h
    · next b a r _ _ =>
      obtain ⟨hc, h⟩ := in_bif h
      simp only [Bool.and_eq_true, decide_eq_true_eq] at hc
      obtain ⟨hb0, ha0, hbl, hal, hok, hwl, hk1, hk2⟩ := hc
      obtain ⟨hb', h2⟩ := List.forall_mem_cons.mp hS
      obtain ⟨ha', hr⟩ := List.forall_mem_cons.mp h2
      have hb' : R32 b := hb'
      have ha' : R32 a := ha'
      have hbl : b.toNat < 10000 := by simpa [Nat.blt_eq] using hbl
      have hal : a.toNat < 10000 := by simpa [Nat.blt_eq] using hal
      have hwl := Nat.le_of_ble_eq_true hwl
      have hk1 := Nat.le_of_ble_eq_true hk1
      have hk2 := Nat.le_of_ble_eq_true hk2
      unfold in_ok at hok
      simp only [Bool.and_eq_true] at hok
      obtain ⟨o1, o2, o3⟩ := hok
      have hna : ¬ Int32.ofInt a < 0 := fun q => by
        have := (of32_lt ha' (b := 0) ⟨by decide, by decide⟩).mp q
        omega
      have hnb : ¬ Int32.ofInt b < 0 := fun q => by
        have := (of32_lt hb' (b := 0) ⟨by decide, by decide⟩).mp q
        omega
      refine in_multi (ty := .long) (N := a.toNat) (K := b.toNat) hx hb hown (hts _ (tb hw)) (over_moved (Vm.Alike.refl _) hLO) (hts _ (tb in_w_long)) hdg hna hnb (cl32_of ha' ha0) (cl32_of hb' hb0) (by omega) (by show b.toNat * 8 ≤ _; omega) (by omega) rfl (by omega) (by omega) (fun cA comp H1 locs1 f1 f2 z1 z2 z3 z4 z5 => ?_)
      have hcA : cA = ids.2.2.2 := by
        have h2 : s.vm.findClass ("[" ++ (FieldType.array .long).toString) = some ids.2.2.2 := (hK.2 3 _ in_Ty3).2
        exact Option.some.inj (f1.symm.trans h2)
      have hcp : comp = ids.2.1 := by
        have h2 : s.vm.findClass ("[" ++ FieldType.long.toString) = some ids.2.1 := (hK.2 1 _ in_Ty1).2
        exact Option.some.inj (f2.symm.trans h2)
      subst hcA; subst hcp
      cases h
      obtain ⟨ad', had⟩ : ∃ f : Nat → Nat, f = fun j => if Wl.length ≤ j ∧ j < Wl.length + 1 + a.toNat then H.size + (j - Wl.length) else ad j := ⟨_, rfl⟩
      have hex : in_ex ad ad' Wl.length := fun j hj => by
        rw [had]
        exact if_neg (by omega)
      have hnew : ∀ j, j < 1 + a.toNat → ad' (Wl.length + j) = H.size + j := fun j hj => by
        rw [had]
        show (if _ then _ else _) = _
        rw [if_pos ⟨by omega, by omega⟩]
        omega
      obtain ⟨W2, hW2⟩ : ∃ W2, W2 = Wl ++ ((3, a.toNat, (List.range a.toNat).map (fun j => rR (Wl.length + 1 + j))) :: List.replicate a.toNat (1, b.toNat, [])) := ⟨_, rfl⟩
      have hlen : W2.length = Wl.length + 1 + a.toNat := by rw [hW2]; simp; omega
      have get0 : ∀ j, j < Wl.length → (in_w ids ad' W2)[j]? = (in_w ids ad Wl)[j]? := fun j hj => by
        rw [← in_we hex o3, in_w_at, in_w_at, hW2, List.getElem?_append_left hj]
      have get1 : W2[Wl.length]? = some (3, a.toNat, (List.range a.toNat).map (fun j => rR (Wl.length + 1 + j))) := by
        rw [hW2, List.getElem?_append_right (Nat.le_refl _), Nat.sub_self]
        rfl
      have get2 : ∀ j, j < a.toNat → W2[Wl.length + (1 + j)]? = some (1, b.toNat, []) := fun j hj => by
        rw [hW2, List.getElem?_append_right (by omega), show Wl.length + (1 + j) - Wl.length = j + 1 from by omega, List.getElem?_cons_succ, List.getElem?_replicate, if_pos hj]
      have cases3 : ∀ (j : Nat) (q : Nat × va_E), (in_w ids ad' W2)[j]? = some q → (j < Wl.length ∧ (in_w ids ad Wl)[j]? = some q) ∨ (∃ i, i < 1 + a.toNat ∧ j = Wl.length + i ∧ q.1 = H.size + i) := fun j q hq => by
        by_cases hj : j < Wl.length
        · exact Or.inl ⟨hj, by rw [← get0 j hj]; exact hq⟩
        · have hj2 : j < W2.length := by
            have := (List.getElem?_eq_some_iff.mp hq).1
            rw [in_w_len] at this
            exact this
          refine Or.inr ⟨j - Wl.length, by omega, by omega, ?_⟩
          rw [in_w_at] at hq
          cases e : W2[j]? with
          | none => rw [e] at hq; cases hq
          | some u =>
            rw [e] at hq
            cases hq
            have := hnew (j - Wl.length) (by omega)
            rw [show Wl.length + (j - Wl.length) = j from by omega] at this
            exact this
      have hP1 : va_P D rz_cls (in_w ids ad' W2) H1 := fun j q hq => by
        rcases cases3 j q hq with ⟨-, h1⟩ | ⟨i, hi, rfl, hq1⟩
        · exact (hP j q h1).kept (z4 _ (hP j q h1).lt)
        · cases i with
          | zero =>
            have g := in_w_get (ids := ids) (ad := ad') get1
            have g := Option.some.inj (hq.symm.trans g)
            subst g
            show H1[ad' Wl.length]? = some (vp_cell _ _)
            have h0 := hnew 0 (by omega)
            rw [Nat.add_zero, Nat.add_zero] at h0
            rw [h0, z2, vp_cell_q]
            congr 2
            funext j
            rw [List.getD_eq_getElem?_getD, List.getElem?_map]
            by_cases hj : j < a.toNat
            · rw [if_pos hj, List.getElem?_range hj]
              have := hnew (1 + j) (by omega)
              show Value.ref (H.size + 1 + j) = va_rf (some (ad' (Wl.length + 1 + j)))
              rw [show Wl.length + 1 + j = Wl.length + (1 + j) from by omega, this, show H.size + (1 + j) = H.size + 1 + j from by omega]
              rfl
            · rw [if_neg hj, List.getElem?_eq_none (by simp; omega)]
              rfl
          | succ i =>
            have g := in_w_get (ids := ids) (ad := ad') (get2 i (by omega))
            rw [show Wl.length + (1 + i) = Wl.length + (i + 1) from by omega] at g
            have g := Option.some.inj (hq.symm.trans g)
            subst g
            show H1[ad' (Wl.length + (i + 1))]? = some (vp_cell _ _)
            rw [hnew (i + 1) hi, show H.size + (i + 1) = H.size + 1 + i from by omega, z3 i (by omega)]
            rfl
      have hD1 : va_D A (in_w ids ad' W2) := by
        refine ⟨fun i j x z hx' hz' hxz => ?_, fun j q hq => ?_⟩
        · rcases cases3 i x hx' with ⟨-, h1⟩ | ⟨i1, g1, g2, g3⟩
          · rcases cases3 j z hz' with ⟨-, h2⟩ | ⟨i2, g4, g5, g6⟩
            · exact hD.1 i j x z h1 h2 hxz
            · have := (hP i x h1).lt
              omega
          · rcases cases3 j z hz' with ⟨-, h2⟩ | ⟨i2, g4, g5, g6⟩
            · have := (hP j z h2).lt
              omega
            · omega
        · rcases cases3 j q hq with ⟨-, h1⟩ | ⟨i1, g1, g2, g3⟩
          · exact hD.2 j q h1
          · rw [g3]
            exact hA _ (Nat.le_trans hSS.1 (by omega))
      have hS1 : va_S A s.heap H1 locs1 := by
        refine ⟨Nat.le_trans hSS.1 (by omega), fun q h1 h2 => (z4 q (Nat.lt_of_lt_of_le h1 hSS.1)).trans (hSS.2.1 q h1 h2), fun q hq => ?_⟩
        rcases z5 q hq with h1 | h1
        · exact hSS.2.2 q h1
        · rw [h1]
          exact hA _ hSS.1
      have g := K ad' H1 locs1 la (by simp) hex ⟨by show va_P D rz_cls (in_w ids ad' _) H1; rw [← hW2]; exact hP1, by show va_D A (in_w ids ad' _); rw [← hW2]; exact hD1, hS1, in_Lr hex o1 hL, List.forall_mem_cons.mpr ⟨trivial, hr⟩⟩
      dsimp only at g
      have h0 := hnew 0 (by omega)
      rw [Nat.add_zero, Nat.add_zero] at h0
      rw [List.map_cons, in_cvs hex o2, show rz_cv ad' (rR Wl.length) = Value.ref H.size from congrArg Value.ref h0] at g
      exact g
    · cases h
set_option maxHeartbeats 4000000 in
theorem in_1_ok {T0 : in_T} (hX : in_X D ids A y p R s m args meth c) (hS0 : in_St D ids A s.heap H locs ad c la T0)
    (h : in_1 y T0 = some T) (K : in_K D ids A p l e R s m args below meth c QW ad T0.2.2.2.1.length T) : W p l e R s m args below meth c H locs T0.2.2.2.2.1 T0.2.2.2.2.2 QW (F0 m T0.1 la (T0.2.2.1.map (rz_cv ad))) := by
  obtain ⟨pc, ls, st, Wl, k, n⟩ := T0
  obtain ⟨hP, hD, hSS, hL, hS⟩ := hS0
  dsimp only at hP hD hSS hL hS K ⊢
  have hy := hX.2.2.2.2.2.1
  have hok := dk_all y hy pc
  have hlk := lkc_all y hy pc
  unfold in_1 at h
  dsimp only at h
  generalize rz_p y pc = en at hok hlk h
  obtain ⟨i, n', t⟩ := en
  dsimp only at hlk h
  obtain ⟨hx, hb, hown, hts, hrr, -, hnm, hO⟩ := id hX
  by_cases hni : i = .nop
  · subst hni
    cases h
  obtain ⟨hd, hn, htg⟩ := ok1_x hok hni
  clear hok
  generalize n' - pc = dd at hd hn
  cases i <;> try (exact absurd (show (none : Option in_T) = some T from h) (by simp))
  case iconst v =>
    have htg := of_decide_eq_true (show decide (-128 ≤ v ∧ v < 128) = true from htg)
    cases h
    exact lv_iconst hx hb hd rfl (io_psh K hP hD hSS hL hS (v := rI v) ⟨by omega, by omega⟩ rfl)
  case bipush v =>
    have htg := of_decide_eq_true (show decide (-128 ≤ v ∧ v < 128) = true from htg)
    cases h
    exact lv_bipush hx hb hd (i8_of htg) (io_psh K hP hD hSS hL hS (v := rI v) ⟨by omega, by omega⟩ rfl)
  case sipush v =>
    have htg := of_decide_eq_true (show decide (-32768 ≤ v ∧ v < 32768) = true from htg)
    cases h
    exact lv_sipush hx hb hd (i16_of htg) (io_psh K hP hD hSS hL hS (v := rI v) ⟨by omega, by omega⟩ rfl)
  case lconst v =>
    cases h
    exact lv_lconst hx hb hd rfl (io_psh K hP hD hSS hL hS (v := rL ((v : Nat) : Int)) (by show R64 _; unfold R64; have := v.2; omega) (congrArg Value.long rfl))
  case ldc2_w i =>
    obtain ⟨q1, q2⟩ := rz_co_all _ (of_elem hlk)
    cases h
    exact lv_ldc2 hx hb hown (hts _ (tb q1)) hd (io_psh K hP hD hSS hL hS (v := rL _) q2 rfl)
  case aload_n i =>
    have h : in_ld (pc + 1) ls st Wl k n i true = some T := h
    unfold in_ld at h
    split at h
    · cases h
    · next z hz =>
      cases h
      obtain ⟨h1, h2⟩ := Lr_ld (w := (D, ad, ids, A, 0, 0, fun _ => 0)) hL hz rfl
      exact lv_aload_n hx hb hd rfl h1 (io_psh K hP hD hSS hL hS (v := rR z) h2 rfl)
    · cases h
  case iload_n i =>
    have h : in_ld (pc + 1) ls st Wl k n i false = some T := h
    unfold in_ld at h
    split at h
    · next z hz =>
      cases h
      obtain ⟨h1, h2⟩ := Lr_ld (w := (D, ad, ids, A, 0, 0, fun _ => 0)) hL hz rfl
      exact lv_iload_n hx hb hd rfl h1 (io_psh K hP hD hSS hL hS (v := rI z) h2 rfl)
    · cases h
    · cases h
  case astore_n i =>
    have h : in_st (pc + 1) ls st Wl k n i true = some T := h
    unfold in_st at h
    split at h
    · cases h
    · next z r _ =>
      obtain ⟨hz, hr⟩ := List.forall_mem_cons.mp hS
      obtain ⟨hk, h⟩ := in_bif (show (bif Nat.blt i ls.length then some (pc + 1, rz_s1 ls i (rR z), r, Wl, k, n) else none) = some T from h)
      cases h
      have hk : (i : Nat) < ls.length := by simpa [Nat.blt_eq] using hk
      exact lv_astore_n hx hb hd rfl (Lr_has hL) (by rw [← hL.2.1]; exact hk) rfl (fun la' h' => K ad H locs la' (Nat.le_refl _) in_ex_rf ⟨hP, hD, hSS, Lr_s1 hL (v := rR z) hz hk h', hr⟩)
    · cases h
  case istore_n i =>
    have h : in_st (pc + 1) ls st Wl k n i false = some T := h
    unfold in_st at h
    split at h
    · next z r _ =>
      obtain ⟨hz, hr⟩ := List.forall_mem_cons.mp hS
      obtain ⟨hk, h⟩ := in_bif (show (bif Nat.blt i ls.length then some (pc + 1, rz_s1 ls i (rI z), r, Wl, k, n) else none) = some T from h)
      cases h
      have hk : (i : Nat) < ls.length := by simpa [Nat.blt_eq] using hk
      exact lv_istore_n hx hb hd rfl (Lr_has hL) (by rw [← hL.2.1]; exact hk) rfl (fun la' h' => K ad H locs la' (Nat.le_refl _) in_ex_rf ⟨hP, hD, hSS, Lr_s1 hL (v := rI z) hz hk h', hr⟩)
    · cases h
    · cases h
  case dup =>
    simp only at h
    split at h
    · next z r =>
      obtain ⟨hz, hr⟩ := List.forall_mem_cons.mp hS
      cases h
      exact lv_dup hx hb hd rfl (K ad H locs la (Nat.le_refl _) in_ex_rf ⟨hP, hD, hSS, hL, List.forall_mem_cons.mpr ⟨hz, hS⟩⟩)
    · cases h
  case iinc i d =>
    simp only at h
    split at h
    · next z hz =>
      cases h
      have h2 : ls[i]? = some (rI z) := by
        rw [List.getD_eq_getElem?_getD] at hz
        cases hq : ls[i]? with
        | none => rw [hq] at hz; cases hz
        | some u => rw [hq] at hz; exact congrArg some hz
      obtain ⟨j, hj⟩ := List.getElem?_of_mem (kn_mem (ad := ad) (q := (i, rz_cv ad (rI z))) |>.mpr ⟨rI z, h2, rfl, rfl⟩)
      have hlt : i < la.size := by rw [← hL.2.1]; exact (List.getElem?_eq_some_iff.mp h2).1
      exact lv_iinc hx hb hd (Lr_has hL) hj (v := Int32.ofInt (w32 (z + d))) (by rw [of32_w, Int32.ofInt_add]) hlt rfl (fun la' h' => K ad H locs la' (Nat.le_refl _) in_ex_rf ⟨hP, hD, hSS, Lr_inc hL h2 (w32_R _) h', hS⟩)
    · cases h
  case goto o =>
    cases h
    exact lv_goto hx hb hd (of_decide_eq_true htg) (K ad H locs la (Nat.le_refl _) in_ex_rf ⟨hP, hD, hSS, hL, hS⟩)
  case if_icmp cd o =>
    simp only at h
    split at h
    · next b a r =>
      obtain ⟨hb', h2⟩ := List.forall_mem_cons.mp hS
      obtain ⟨ha', hr⟩ := List.forall_mem_cons.mp h2
      cases h
      have hj := jc_con (k := .ge) ha' hb'
      refine row_if2 hx hb .ge hd (of_decide_eq_true htg) _ _ _ (fun q => ?_) (fun q => ?_)
      · have g := K ad H locs la (Nat.le_refl _) in_ex_rf ⟨hP, hD, hSS, hL, hr⟩
        dsimp only at g
        rw [show (decide (b ≤ a)) = true from decide_eq_true (hj.mp q)] at g
        exact g
      · have g := K ad H locs la (Nat.le_refl _) in_ex_rf ⟨hP, hD, hSS, hL, hr⟩
        dsimp only at g
        rw [show (decide (b ≤ a)) = false from decide_eq_false (fun z => q (hj.mpr z))] at g
        exact g
    · cases h
  case arraylength => exact in_alen_ok hX hP hD hSS hL hS hd h K
  case getfield i => exact in_get_ok hX hP hD hSS hL hS (rz_fl_all _ (of_elem hlk)) hd h K
  case putfield i => exact in_put_ok hX hP hD hSS hL hS (rz_fl_all _ (of_elem hlk)) hd h K
  case newarray t => exact in_na_ok hX hP hD hSS hL hS hd h K
  case anewarray i => exact in_aa_ok hX hP hD hSS hL hS hd h K
  case new i => exact in_nw_ok hX hP hD hSS hL hS hd h K
  case multianewarray i d =>
    obtain ⟨h2, h⟩ := in_bif (show (bif Nat.beq d 2 then in_mu y (pc + 4) ls st Wl k n (in_f in_ml (rz_mi y).1 i) else none) = some T from h)
    have h2 := Nat.eq_of_beq_eq_true h2
    subst h2
    exact in_mu_ok hX hP hD hSS hL hS hd h K
  case aastore => exact in_as_ok hX hP hD hSS hL hS hd h K
end RZJ3
