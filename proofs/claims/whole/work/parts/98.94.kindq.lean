/-! the group of a quartic that can't be parted, both sides -/
def sp1 (x D : Int) : Prop := isSq x ∨ sameQ x D
theorem rsv_bd {f : Int → Int} (hs : sm f) : (-(f 2)).natAbs ≤ 100 ∧ (f 3 * f 1 - 4 * f 0).natAbs ≤ 20000 ∧ (4 * f 2 * f 0 - f 3 * f 3 * f 0 - f 1 * f 1).natAbs ≤ 1100000 := by
  have n0 : (f 0).natAbs ≤ 100 := by have := hs 0 (by decide) (by decide); omega
  have n1 : (f 1).natAbs ≤ 100 := by have := hs 1 (by decide) (by decide); omega
  have n2 : (f 2).natAbs ≤ 100 := by have := hs 2 (by decide) (by decide); omega
  have n3 : (f 3).natAbs ≤ 100 := by have := hs 3 (by decide) (by decide); omega
  have a1 := nab n3 n1
  have a2 := nab (nab (show (4 : Int).natAbs ≤ 4 by decide) n2) n0
  have a3 := nab (nab n3 n3) n0
  have a4 := nab n1 n1
  omega
theorem dis4_bd {f : Int → Int} (h : sm f) : (dis4 f).natAbs ≤ 2000000000000000 := by
  have n0 : (f 0).natAbs ≤ 100 := by have := h 0 (by decide) (by decide); omega
  have n1 : (f 1).natAbs ≤ 100 := by have := h 1 (by decide) (by decide); omega
  have n2 : (f 2).natAbs ≤ 100 := by have := h 2 (by decide) (by decide); omega
  have n3 : (f 3).natAbs ≤ 100 := by have := h 3 (by decide) (by decide); omega
  have n4 : (f 4).natAbs ≤ 100 := by have := h 4 (by decide) (by decide); omega
  have s : (sq4 f).natAbs ≤ 160000 := by
    have a1 := nab (nab (show (12 : Int).natAbs ≤ 12 by decide) n4) n0
    have a2 := nab (nab (show (3 : Int).natAbs ≤ 3 by decide) n3) n1
    have a3 := nab n2 n2
    unfold sq4
    omega
  have c : (cb4 f).natAbs ≤ 137000000 := by
    have a1 := nab (nab (nab (show (72 : Int).natAbs ≤ 72 by decide) n4) n2) n0
    have a2 := nab (nab (nab (show (9 : Int).natAbs ≤ 9 by decide) n3) n2) n1
    have a3 := nab (nab (nab (show (27 : Int).natAbs ≤ 27 by decide) n4) n1) n1
    have a4 := nab (nab (nab (show (27 : Int).natAbs ≤ 27 by decide) n0) n3) n3
    have a5 := nab (nab (nab (show (2 : Int).natAbs ≤ 2 by decide) n2) n2) n2
    unfold cb4
    omega
  have b1 := nab (nab (nab (show (4 : Int).natAbs ≤ 4 by decide) s) s) s
  have b2 := nab c c
  have := dis4_27 f
  omega
theorem c_RC_splitsBy {x D : Int} (hx : x.natAbs < 4611686018427387904) (hD : D.natAbs < 4611686018427387904) (D0 : D ≠ 0) {m : rz_M} {K : Int → rz_M → Prop} (h1 : sp1 x D → K 1 m) (h0 : ¬ sp1 x D → K 0 m) : rz_C y_RC_splitsBy [rL x, rL D] m K :=
  T_RC_splitsBy_0 _ _ _ _ (bb (fun q => h1 (Or.inl (by rw [q]; exact sq_0))) (fun x0 => c_RC_isSquare (by omega) (fun s => b1n (h1 (Or.inl s))) (fun s => b0n (c_RC_isSame hx hD x0 D0 (fun s2 => b1t (h1 (Or.inr s2))) (fun s2 => b0t (h0 (fun w => w.elim s s2)))))))
def spl (f : Int → Int) (r : Int) : Prop := sp1 (r * r - 4 * f 0) (dis4 f) ∧ sp1 (f 3 * f 3 - 4 * (f 2 - r)) (dis4 f)
/-- the kind, by the class's numbers -/
noncomputable def kqA (rs : Int → Int) (D : Int) (sp : Int → Prop) : Nat := @dite Nat (∃ y, rs y = 0) (Classical.propDecidable _) (fun h => @ite Nat (isSq D) (Classical.propDecidable _) 6 (@ite Nat (sp (Classical.choose h)) (Classical.propDecidable _) 7 8)) (fun _ => @ite Nat (isSq D) (Classical.propDecidable _) 9 10)
noncomputable def kq (f : Int → Int) : Nat := kqA (rsv f) (dis4 f) (spl f)
theorem kq_congr {f g : Int → Int} (h : ∀ j : Int, 0 ≤ j → j < 7 → f j = g j) : kq f = kq g := by
  have e0 := h 0 (by decide) (by decide)
  have e1 := h 1 (by decide) (by decide)
  have e2 := h 2 (by decide) (by decide)
  have e3 := h 3 (by decide) (by decide)
  have e4 := h 4 (by decide) (by decide)
  have a1 : rsv f = rsv g := by funext y; unfold rsv; rw [e0, e1, e2, e3]
  have a2 : dis4 f = dis4 g := by unfold dis4; rw [e0, e1, e2, e3, e4]
  have a3 : spl f = spl g := by funext y; unfold spl; rw [e0, e2, e3, a2]
  unfold kq
  rw [a1, a2, a3]
theorem kq_le (f : Int → Int) : kq f ≤ 10 := by
  unfold kq kqA
  repeat' split
  all_goals omega
theorem kq_ge (f : Int → Int) : 6 ≤ kq f := by
  unfold kq kqA
  repeat' split
  all_goals omega
theorem kq_no {f : Int → Int} (h : ∀ y, rsv f y ≠ 0) : (isSq (dis4 f) → kq f = 9) ∧ (¬ isSq (dis4 f) → kq f = 10) := by
  unfold kq kqA
  rw [dif_neg (fun ⟨y, hy⟩ => h y hy)]
  exact ⟨fun s => if_pos s, fun s => if_neg s⟩
theorem kq_ev {f : Int → Int} {y : Int} (h : rsv f y = 0) (s : isSq (dis4 f)) : kq f = 6 := by
  unfold kq kqA
  rw [dif_pos ⟨y, h⟩, if_pos s]
theorem kq_od {f : Int → Int} {y : Int} (h : rsv f y = 0) (hu : ∀ y', rsv f y' = 0 → y' = y) (s : ¬ isSq (dis4 f)) : (spl f y → kq f = 7) ∧ (¬ spl f y → kq f = 8) := by
  have hx : ∃ y, rsv f y = 0 := ⟨y, h⟩
  have e : Classical.choose hx = y := hu _ (Classical.choose_spec hx)
  unfold kq kqA
  rw [dif_pos hx, if_neg s, e]
  exact ⟨fun q => if_pos q, fun q => if_neg q⟩
section
variable {R : Type}
theorem c_RC_kindOfQuartic [Lean.Grind.CommRing R] {co : R → Nat → Int} {mk : Nat → (Nat → Int) → R} (H : PolyR co mk) {a : Nat} (ha : isL a 7) {m : rz_M} (hs : sm (m a)) (irr : irz co (pR mk 7 (m a)) 4) (f4 : m a 4 = 1) {K : Int → rz_M → Prop} (h : K ((rz_NX : Int) + (kq (m a) : Nat)) m) : rz_C y_RC_kindOfQuartic [rR a] m K := by
  have hk := ha.1
  have hl := ha.2
  have bD := dis4_bd hs
  have bR := rsv_bd hs
  have hw := dis4_w hs
  refine T_RC_kindOfQuartic_0 _ _ _ (c_RC_discOf ha ?_)
  have eD : disC 4 (m a) = dis4 (m a) := by
    unfold disC
    rw [if_neg (by decide), if_neg (by decide), if_pos rfl, hw, w64_id (by omega) (by omega)]
  rw [eD]
  have go : ∀ v : Int, (v = 1 ∧ isSq (dis4 (m a)) ∨ v = 0 ∧ ¬ isSq (dis4 (m a))) → rz_C y_RC_wholeRoot [rL (w64 (-(m a 2))), rL (w64 ((w64 ((m a 3) * (m a 1))) - (w64 (4 * (m a 0))))), rL (w64 ((w64 ((w64 ((w64 (4 * (m a 2))) * (m a 0))) - (w64 ((w64 ((m a 3) * (m a 3))) * (m a 0))))) - (w64 ((m a 1) * (m a 1)))))] m (fun r3 m3 => rz_E y_RC_kindOfQuartic 66 [rR a, rL (dis4 (m a)), rX 1, rI v, rL r3, rX 1, rX 0] [] m3 K) := fun v hv => by
    simp only [w64_addl, w64_addr, w64_mull, w64_mulr, w64_subl, w64_subr, w64_w64]
    rw [w64_id (z := -(m a 2)) (by omega) (by omega), w64_id (z := m a 3 * m a 1 - 4 * m a 0) (by omega) (by omega), w64_id (by omega) (by omega)]
    refine c_RC_wholeRoot bR.1 bR.2.1 bR.2.2 (fun y hy by' => ?_) (fun hn => ?_)
    · have ry : rsv (m a) y = 0 := hy
      have res := quart_res H irr f4 ry
      refine T_RC_kindOfQuartic_66 _ _ _ _ _ _ (bt (by omega) ?_)
      rcases hv with ⟨rfl, s⟩ | ⟨rfl, s⟩
      · rw [kq_ev ry s] at h
        exact bf (by decide) h
      · have uq : ∀ y', rsv (m a) y' = 0 → y' = y := fun y' h' => Classical.byContradiction fun w => s (res.mpr ⟨y', w, h'⟩)
        have D0 : dis4 (m a) ≠ 0 := fun z => s (by rw [z]; exact sq_0)
        obtain ⟨k1, k2⟩ := kq_od ry uq s
        clear res
        have n0 : (m a 0).natAbs ≤ 100 := by have := hs 0 (by decide) (by decide); omega
        have n2 : (m a 2).natAbs ≤ 100 := by have := hs 2 (by decide) (by decide); omega
        have n3 : (m a 3).natAbs ≤ 100 := by have := hs 3 (by decide) (by decide); omega
        have n33 := nab n3 n3
        have nyy := nab by' by'
        refine bt rfl ⟨hk, ⟨by omega, by omega⟩, ?_⟩
        simp only [w64_addl, w64_addr, w64_mull, w64_mulr, w64_subl, w64_subr, w64_w64]
        rw [w64_id (z := y * y - 4 * m a 0) (by omega) (by omega)]
        refine c_RC_splitsBy (by omega) (by omega) D0 (fun s1 => b1t ⟨hk, ⟨by omega, by omega⟩, hk, ⟨by omega, by omega⟩, hk, ⟨by omega, by omega⟩, ?_⟩) (fun s1 => b0t (T_RC_kindOfQuartic_146 _ _ (b0t ?_)))
        · rw [w64_id (z := m a 3 * m a 3 - 4 * (m a 2 - y)) (by omega) (by omega)]
          refine c_RC_splitsBy (by omega) (by omega) D0 (fun s2 => b1t (T_RC_kindOfQuartic_142 _ _ (b1t ?_))) (fun s2 => b0t (T_RC_kindOfQuartic_146 _ _ (b0t ?_)))
          · rw [k1 ⟨s1, s2⟩] at h
            exact h
          · rw [k2 (fun w => s2 w.2)] at h
            exact h
        · rw [k2 (fun w => s1 w.1)] at h
          exact h
    · have rn : ∀ y, rsv (m a) y ≠ 0 := hn
      refine T_RC_kindOfQuartic_66 _ _ _ _ _ _ (bf (by decide) ?_)
      rcases hv with ⟨rfl, s⟩ | ⟨rfl, s⟩
      · rw [(kq_no rn).1 s] at h
        exact b1t h
      · rw [(kq_no rn).2 s] at h
        exact b0t h
  refine c_RC_isSquare (by omega) (fun s => ?_) (fun s => ?_)
  · exact ⟨hk, ⟨by omega, by omega⟩, hk, ⟨by omega, by omega⟩, hk, ⟨by omega, by omega⟩, hk, ⟨by omega, by omega⟩, hk, ⟨by omega, by omega⟩, hk, ⟨by omega, by omega⟩, hk, ⟨by omega, by omega⟩, hk, ⟨by omega, by omega⟩, hk, ⟨by omega, by omega⟩, hk, ⟨by omega, by omega⟩, hk, ⟨by omega, by omega⟩, go 1 (Or.inl ⟨rfl, s⟩)⟩
  · exact ⟨hk, ⟨by omega, by omega⟩, hk, ⟨by omega, by omega⟩, hk, ⟨by omega, by omega⟩, hk, ⟨by omega, by omega⟩, hk, ⟨by omega, by omega⟩, hk, ⟨by omega, by omega⟩, hk, ⟨by omega, by omega⟩, hk, ⟨by omega, by omega⟩, hk, ⟨by omega, by omega⟩, hk, ⟨by omega, by omega⟩, hk, ⟨by omega, by omega⟩, go 0 (Or.inr ⟨rfl, s⟩)⟩
/-- the reference's numbers of the kinds -/
def phK (i : Nat) : Nat := if i = 6 then 7 else if i = 7 then 6 else i
theorem c_M_quarticOf [Lean.Grind.CommRing R] {co : R → Nat → Int} {mk : Nat → (Nat → Int) → R} (H : PolyR co mk) {f : Int → Int} (hs : sm f) (irr : irz co (pR mk 7 f) 4) (f4 : f 4 = 1) {m : rz_M} {K : Int → rz_M → Prop} (h : K ((phK (kq f) : Nat) : Int) m) : rz_C y_M_quarticOf [rR 221, rL (f 3), rL (f 2), rL (f 1), rL (f 0)] m K := by
  have bD := dis4_bd hs
  have bR := rsv_bd hs
  have eD : w64 (d4a 1 (f 3) (f 2) (f 1) (f 0) + d4b 1 (f 3) (f 2) (f 1) (f 0) + d4c (f 3) (f 2) (f 1) (f 0)) = dis4 f := by
    have : d4a 1 (f 3) (f 2) (f 1) (f 0) + d4b 1 (f 3) (f 2) (f 1) (f 0) + d4c (f 3) (f 2) (f 1) (f 0) = dis4 f := by unfold dis4; rw [f4]
    rw [this]
    exact w64_id (by omega) (by omega)
  refine T_M_quarticOf_0 _ _ _ _ _ _ (c_M_fourOf ?_)
  rw [eD]
  simp only [w64_addl, w64_addr, w64_mull, w64_mulr, w64_subl, w64_subr, w64_w64]
  rw [w64_id (z := f 3 * f 1 - 4 * f 0) (by omega) (by omega), w64_id (z := 4 * f 2 * f 0 - f 3 * f 3 * f 0 - f 1 * f 1) (by omega) (by omega)]
  refine T_M_quarticOf_54 _ _ _ _ _ _ _ _ _ _ (l_M_qr59 (by omega) bR.2.1 bR.2.2 (fun many root hN => ?_) 42001 (-21000) 0 0 (by decide) (by decide) (Or.inl ⟨rfl, fun y y0 y1 => by omega⟩))
  have inr : ∀ y, rsv f y = 0 → -21000 ≤ y ∧ y < 21001 := fun y hy => by
    have := cb3_bd bR.1 bR.2.1 bR.2.2 hy
    omega
  refine T_M_quarticOf_59 _ _ _ _ _ _ _ _ _ _ _ (bt (by decide) ?_)
  rcases hN with ⟨rfl, hn⟩ | ⟨rfl, r0, r1, hr, hu⟩ | ⟨m2, _, y1, y2, hne, hy1, hy2⟩
  · have rn : ∀ y, rsv f y ≠ 0 := fun y hy => hn y (inr y hy).1 (inr y hy).2 hy
    refine bf (by decide) (c_M_isSquare (by omega) (fun s => b1t ?_) (fun s => b0t ?_))
    · rw [(kq_no rn).1 s] at h
      exact h
    · rw [(kq_no rn).2 s] at h
      exact h
  · have ry : rsv f root = 0 := hr
    have uq : ∀ y', rsv f y' = 0 → y' = root := fun y' h' => hu y' (inr y' h').1 (inr y' h').2 h'
    have s : ¬ isSq (dis4 f) := fun w => by
      obtain ⟨r1, hne, h1⟩ := (quart_res H irr f4 ry).mp w
      exact hne (uq r1 h1)
    have D0 : dis4 f ≠ 0 := fun z => s (by rw [z]; exact sq_0)
    obtain ⟨k1, k2⟩ := kq_od ry uq s
    have n0 : (f 0).natAbs ≤ 100 := by have := hs 0 (by decide) (by decide); omega
    have n2 : (f 2).natAbs ≤ 100 := by have := hs 2 (by decide) (by decide); omega
    have n3 : (f 3).natAbs ≤ 100 := by have := hs 3 (by decide) (by decide); omega
    have n33 := nab n3 n3
    have nyy := nab (show root.natAbs ≤ 21000 by omega) (show root.natAbs ≤ 21000 by omega)
    have spx : ∀ x : Int, (x = 0 ∨ dis4 f = 0 ∨ sameQ x (dis4 f)) → sp1 x (dis4 f) := fun x hx => by
      rcases hx with z | z | z
      · rw [z]; exact Or.inl sq_0
      · exact absurd z D0
      · exact Or.inr z
    simp only [w64_addl, w64_addr, w64_mull, w64_mulr, w64_subl, w64_subr, w64_w64]
    rw [w64_id (z := f 3 * f 3 - 4 * (f 2 - root)) (by omega) (by omega), w64_id (z := root * root - 4 * f 0) (by omega) (by omega)]
    have g8 : ¬ spl f root → K 8 m := fun q => by
      rw [k2 q] at h
      exact h
    have g7 : spl f root → K 6 m := fun q => by
      rw [k1 q] at h
      exact h
    have go190 : sp1 (f 3 * f 3 - 4 * (f 2 - root)) (dis4 f) → rz_E y_M_quarticOf 190 [rX 0, rX 0, rX 0, rX 0, rX 0, rX 0, rX 0, rX 0, rX 0, rL (dis4 f), rX 1, rX 0, rX 0, rX 0, rX 0, rX 0, rX 0, rX 0, rX 0, rX 0, rL (root * root - 4 * f 0), rX 1, rX 0] [] m K := fun s1 =>
      T_M_quarticOf_190 _ _ _ _ (c_M_isSquare (by omega) (fun s2 => b1n (b1t (g7 ⟨Or.inl s2, s1⟩))) (fun s2 => b0n (c_M_areSq (by omega) (by omega) (fun s3 => b1t (b1t (g7 ⟨spx _ s3, s1⟩))) (fun n1 n2 s3 => b0t (T_M_quarticOf_212 _ _ (b0t (g8 (fun w => w.1.elim s2 s3))))))))
    exact bt (by decide) (bt (by decide) (c_M_isSquare (by omega) (fun s1 => b1n (go190 (Or.inl s1))) (fun s1 => b0n (c_M_areSq (by omega) (by omega) (fun s3 => b1t (go190 (spx _ s3))) (fun n1 n2 s3 => b0t (T_M_quarticOf_212 _ _ (b0t (g8 (fun w => w.2.elim s1 s3)))))))))
  · have ry : rsv f y1 = 0 := hy1
    have s : isSq (dis4 f) := (quart_res H irr f4 ry).mpr ⟨y2, fun z => hne z.symm, hy2⟩
    rw [kq_ev ry s] at h
    exact bt (by omega) (bf (by omega) h)
end
