/-! Sturm: parts that can't be parted are unlike their derivatives and one another; how great a part's numbers can be -/
section
variable {R : Type}
def der (co : R → Nat → Int) (a' a : R) : Prop := ∀ j : Nat, co a' j = ((j : Int) + 1) * co a (j + 1)
theorem cop_sy [Lean.Grind.CommRing R] {mk : Nat → (Nat → Int) → R} {a b : R} (h : cop mk a b) : cop mk b a := by
  obtain ⟨u, v, c, c0, e⟩ := h
  exact ⟨v, u, c, c0, by rw [← e]; grind⟩
theorem cop_mul [Lean.Grind.CommRing R] {co : R → Nat → Int} {mk : Nat → (Nat → Int) → R} (H : PolyR co mk) {a b d : R} (h1 : cop mk a b) (h2 : cop mk a d) : cop mk a (b * d) := by
  obtain ⟨u, v, c, c0, e⟩ := h1
  obtain ⟨u', v', c', c0', e'⟩ := h2
  refine ⟨u * u' * a + u * v' * d + v * b * u', v * v', c * c', Int.mul_ne_zero c0 c0', ?_⟩
  rw [C_mul H, ← e, ← e']
  grind
theorem cop_ad [Lean.Grind.CommRing R] {mk : Nat → (Nat → Int) → R} {a b : R} (d : R) (h : cop mk a b) : cop mk a (b + a * d) := by
  obtain ⟨u, v, c, c0, e⟩ := h
  exact ⟨u - v * d, v, c, c0, by rw [← e]; grind⟩
theorem cop_1 [Lean.Grind.CommRing R] {co : R → Nat → Int} {mk : Nat → (Nat → Int) → R} (H : PolyR co mk) (a : R) : cop mk a 1 := ⟨0, 1, 1, by decide, by rw [C_one H]; grind⟩
theorem der_mul [Lean.Grind.CommRing R] {co : R → Nat → Int} {mk : Nat → (Nat → Int) → R} (H : PolyR co mk) {a b a' b' : R} (ha : der co a' a) (hb : der co b' b) : der co (a' * b + a * b') (a * b) := fun k => by
  rw [H.2.1, H.2.2.1, H.2.2.1, H.2.2.1, cv_der, cv_congr (f := co a') (f' := fun k => ((k : Int) + 1) * co a (k + 1)) (g' := co b) (fun i _ => ha i) (fun i _ => rfl), cv_congr (f := co a) (f' := co a) (g := co b') (g' := fun k => ((k : Int) + 1) * co b (k + 1)) (fun i _ => rfl) (fun i _ => hb i)]
theorem der_uq [Lean.Grind.CommRing R] {co : R → Nat → Int} {mk : Nat → (Nat → Int) → R} (H : PolyR co mk) {a a1 a2 : R} (h1 : der co a1 a) (h2 : der co a2 a) : a1 = a2 := H.1 _ _ (fun k => by rw [h1 k, h2 k])
theorem der_tz {co : R → Nat → Int} {a a' : R} {n : Nat} (h : der co a' a) (ht : tz co a (n + 1)) : tz co a' n := by
  refine ⟨?_, fun k hk => ?_⟩
  · rw [h n]
    exact Int.mul_ne_zero (by omega) ht.1
  · rw [h k, ht.2 (k + 1) (by omega), Int.mul_zero]
theorem irz_der [Lean.Grind.CommRing R] {co : R → Nat → Int} {mk : Nat → (Nat → Int) → R} (H : PolyR co mk) {f f' : R} {e : Nat} (h : irz co f e) (hd : der co f' f) : cop mk f f' := by
  have e1 := h.1
  obtain ⟨n, rfl⟩ : ∃ n, e = n + 1 := ⟨e - 1, by omega⟩
  have t := der_tz hd h.2.1
  refine zbez H h (fun ⟨g, hg⟩ => ?_)
  obtain ⟨i, j, hi, hj, hij⟩ := zd_deg H t hg
  have := tz_uniq hi h.2.1
  omega
theorem el_cop [Lean.Grind.CommRing R] {co : R → Nat → Int} {mk : Nat → (Nat → Int) → R} (H : PolyR co mk) {x y : E3} (hx : elOK co mk x) (hy : elOK co mk y) (hne : x.1 ≠ y.1) : cop mk (pR mk 7 x.1) (pR mk 7 y.1) :=
  zbez H hx.2.2.2.2.1 (fun w => hne (el_one H hx hy w).1)
/-- the product of the first parts, each once -/
def PL [Lean.Grind.CommRing R] (mk : Nat → (Nat → Int) → R) (F : Nat → E3) : Nat → R := PI (fun k => pR mk 7 (F k).1)
theorem PL_cop [Lean.Grind.CommRing R] {co : R → Nat → Int} {mk : Nat → (Nat → Int) → R} (H : PolyR co mk) {F : Nat → E3} {c : Nat} (ok : ∀ k, k < c → elOK co mk (F k)) (hd : ∀ k k', k < c → k' < c → (F k).1 = (F k').1 → k = k') : ∀ i k, i ≤ k → k < c → cop mk (pR mk 7 (F k).1) (PL mk F i)
  | 0, k, _, _ => cop_1 H _
  | i + 1, k, hi, hk => cop_mul H (PL_cop H ok hd i k (by omega) hk) (el_cop H (ok k hk) (ok i (by omega)) (fun e => by have := hd k i hk (by omega) e; omega))
theorem PL_der [Lean.Grind.CommRing R] {co : R → Nat → Int} {mk : Nat → (Nat → Int) → R} (H : PolyR co mk) {F : Nat → E3} {c : Nat} (ok : ∀ k, k < c → elOK co mk (F k)) (hd : ∀ k k', k < c → k' < c → (F k).1 = (F k').1 → k = k') : ∀ i, i ≤ c → ∃ P' : R, der co P' (PL mk F i) ∧ (1 ≤ i → cop mk (PL mk F i) P')
  | 0, _ => by
    obtain ⟨P', h⟩ := D_ex H (PL mk F 0)
    exact ⟨P', h, fun w => by omega⟩
  | i + 1, hi => by
    obtain ⟨P', h1, h2⟩ := PL_der H ok hd i (by omega)
    obtain ⟨f', hf'⟩ := D_ex H (pR mk 7 (F i).1)
    have cf := irz_der H (ok i (by omega)).2.2.2.2.1 hf'
    have cfp := PL_cop H ok hd i i (Nat.le_refl _) (by omega)
    refine ⟨P' * pR mk 7 (F i).1 + PL mk F i * f', der_mul H h1 hf', fun _ => ?_⟩
    show cop mk (PL mk F i * pR mk 7 (F i).1) _
    have a1 : cop mk (pR mk 7 (F i).1) (P' * pR mk 7 (F i).1 + PL mk F i * f') := by
      have := cop_ad P' (cop_mul H cfp cf)
      have e : PL mk F i * f' + pR mk 7 (F i).1 * P' = P' * pR mk 7 (F i).1 + PL mk F i * f' := by grind
      rwa [e] at this
    cases i with
    | zero =>
      have e : PL mk F 0 * pR mk 7 (F 0).1 = pR mk 7 (F 0).1 := by show (1 : R) * _ = _; grind
      rw [e]
      exact a1
    | succ i =>
      have a2 : cop mk (PL mk F (i + 1)) (P' * pR mk 7 (F (i + 1)).1 + PL mk F (i + 1) * f') := cop_ad f' (cop_mul H (h2 (by omega)) (cop_sy cfp))
      exact cop_sy (cop_mul H (cop_sy a2) (cop_sy a1))
theorem PL_tz [Lean.Grind.CommRing R] {co : R → Nat → Int} {mk : Nat → (Nat → Int) → R} (H : PolyR co mk) {F : Nat → E3} {c : Nat} (ok : ∀ k, k < c → elOK co mk (F k)) : ∀ i, i ≤ c → tz co (PL mk F i) (ro F i).toNat ∧ (i : Int) ≤ ro F i
  | 0, _ => ⟨tz_1 H, Int.le_refl _⟩
  | i + 1, hi => by
    obtain ⟨h1, h2⟩ := PL_tz H ok i (by omega)
    have o := ok i (by omega)
    have o1 := o.2.1
    have r : ro F (i + 1) = ro F i + (F i).2.1 := rfl
    refine ⟨?_, by omega⟩
    have := tz_mul H h1 o.2.2.2.2.1.2.1
    rw [show (ro F i).toNat + (F i).2.1.toNat = (ro F (i + 1)).toNat from by omega] at this
    exact this
/-- the product divides -/
theorem PL_zd [Lean.Grind.CommRing R] {co : R → Nat → Int} {mk : Nat → (Nat → Int) → R} (H : PolyR co mk) {F : Nat → E3} {c : Nat} (ok : ∀ k, k < c → elOK co mk (F k)) : ∀ i, i ≤ c → zd (PL mk F i) (prodL mk ((List.range i).map F))
  | 0, _ => ⟨1, by show (1 : R) = 1 * 1; grind⟩
  | i + 1, hi => by
    obtain ⟨h, e⟩ := PL_zd H ok i (by omega)
    have o := (ok i (by omega)).2.2.2.1
    obtain ⟨n, hn⟩ : ∃ n, (F i).2.2.toNat = n + 1 := ⟨(F i).2.2.toNat - 1, by omega⟩
    refine ⟨h * pR mk 7 (F i).1 ^ n, ?_⟩
    rw [prodL_sc, e, hn, Lean.Grind.Semiring.pow_succ]
    show _ = PL mk F i * pR mk 7 (F i).1 * _
    grind
theorem el_zd [Lean.Grind.CommRing R] {co : R → Nat → Int} {mk : Nat → (Nat → Int) → R} {F : Nat → E3} {c : Nat} (ok : ∀ k, k < c → elOK co mk (F k)) : ∀ i, i ≤ c → ∀ k, k < i → zd (pR mk 7 (F k).1) (prodL mk ((List.range i).map F))
  | 0, _, k, hk => by omega
  | i + 1, hi, k, hk => by
    rw [prodL_sc]
    by_cases q : k = i
    · subst q
      have o := (ok k (by omega)).2.2.2.1
      obtain ⟨n, hn⟩ : ∃ n, (F k).2.2.toNat = n + 1 := ⟨(F k).2.2.toNat - 1, by omega⟩
      refine ⟨prodL mk ((List.range k).map F) * pR mk 7 (F k).1 ^ n, ?_⟩
      rw [hn, Lean.Grind.Semiring.pow_succ]
      grind
    · obtain ⟨h, e⟩ := el_zd ok i (by omega) k (by omega)
      exact ⟨h * pR mk 7 (F i).1 ^ (F i).2.2.toNat, by rw [e]; grind⟩
end
/-- numbers by values at enough places -/
def iB : Nat → Int → Int
  | 0, V => V
  | d + 1, V => V + 7 * iB d (2 * V)
theorem iB_nn : ∀ (d : Nat) (V : Int), 0 ≤ V → V ≤ iB d V
  | 0, V, _ => Int.le_refl _
  | d + 1, V, h => by
    have := iB_nn d (2 * V) (by omega)
    show V ≤ V + 7 * iB d (2 * V)
    omega
/-- the quotient by x - c -/
def qH (g : Int → Int) (c : Int) : Int → Int := fun j =>
  if j = 5 then g 6 else if j = 4 then g 5 + c * g 6 else if j = 3 then g 4 + c * (g 5 + c * g 6) else if j = 2 then g 3 + c * (g 4 + c * (g 5 + c * g 6)) else if j = 1 then g 2 + c * (g 3 + c * (g 4 + c * (g 5 + c * g 6))) else if j = 0 then g 1 + c * (g 2 + c * (g 3 + c * (g 4 + c * (g 5 + c * g 6)))) else 0
theorem qH_ev (g : Int → Int) (c x : Int) : ev7 g x - ev7 g c = (x - c) * ev7 (qH g c) x := by
  have e0 : qH g c 0 = g 1 + c * (g 2 + c * (g 3 + c * (g 4 + c * (g 5 + c * g 6)))) := rfl
  have e1 : qH g c 1 = g 2 + c * (g 3 + c * (g 4 + c * (g 5 + c * g 6))) := rfl
  have e2 : qH g c 2 = g 3 + c * (g 4 + c * (g 5 + c * g 6)) := rfl
  have e3 : qH g c 3 = g 4 + c * (g 5 + c * g 6) := rfl
  have e4 : qH g c 4 = g 5 + c * g 6 := rfl
  have e5 : qH g c 5 = g 6 := rfl
  have e6 : qH g c 6 = 0 := rfl
  unfold ev7
  rw [e0, e1, e2, e3, e4, e5, e6]
  grind
theorem qH_st (g : Int → Int) (c : Int) : ∀ j : Int, 0 ≤ j → j < 6 → g (j + 1) = qH g c j - c * qH g c (j + 1) := by
  intro j j0 j1
  have : j = 0 ∨ j = 1 ∨ j = 2 ∨ j = 3 ∨ j = 4 ∨ j = 5 := by omega
  rcases this with rfl | rfl | rfl | rfl | rfl | rfl
  · show g 1 = g 1 + c * (g 2 + c * (g 3 + c * (g 4 + c * (g 5 + c * g 6)))) - c * (g 2 + c * (g 3 + c * (g 4 + c * (g 5 + c * g 6)))); omega
  · show g 2 = g 2 + c * (g 3 + c * (g 4 + c * (g 5 + c * g 6))) - c * (g 3 + c * (g 4 + c * (g 5 + c * g 6))); omega
  · show g 3 = g 3 + c * (g 4 + c * (g 5 + c * g 6)) - c * (g 4 + c * (g 5 + c * g 6)); omega
  · show g 4 = g 4 + c * (g 5 + c * g 6) - c * (g 5 + c * g 6); omega
  · show g 5 = g 5 + c * g 6 - c * g 6; omega
  · show g 6 = g 6 - c * 0; omega
theorem qH_z {g : Int → Int} {c : Int} {d : Nat} (hd : d + 1 ≤ 6) (hz : ∀ j : Int, (d : Int) + 1 < j → j < 7 → g j = 0) : ∀ j : Int, (d : Int) < j → j < 7 → qH g c j = 0 := by
  have : ∀ n : Nat, ∀ j : Int, 7 - j = n → (d : Int) < j → j < 7 → qH g c j = 0 := by
    intro n
    induction n with
    | zero => intro j h1 h2 h3; omega
    | succ n ih =>
      intro j h1 h2 h3
      by_cases q : j = 6
      · subst q; rfl
      · have e := qH_st g c j (by omega) (by omega)
        rw [ih (j + 1) (by omega) (by omega) (by omega), hz (j + 1) (by omega) (by omega), Int.mul_zero] at e
        omega
  exact fun j h1 h2 => this (7 - j).toNat j (by omega) h1 h2
theorem bd_n {x A : Int} : bd x A ↔ (x.natAbs : Int) ≤ A := by
  unfold bd
  omega
theorem interp : ∀ (d : Nat) (cs : List Int) (g : Int → Int) (V : Int), d ≤ 6 → 0 ≤ V → cs.Nodup → cs.length = d + 1 → (∀ c ∈ cs, bd c 6) → (∀ j : Int, (d : Int) < j → j < 7 → g j = 0) → (∀ c ∈ cs, bd (ev7 g c) V) → hB g (iB d V)
  | 0, cs, g, V, _, hV, _, hl, _, hz, hv => by
    obtain ⟨c, rfl⟩ := List.length_eq_one_iff.mp hl
    have e := hv c (by simp)
    have e0 : ev7 g c = g 0 := by
      unfold ev7
      rw [hz 1 (by decide) (by decide), hz 2 (by decide) (by decide), hz 3 (by decide) (by decide), hz 4 (by decide) (by decide), hz 5 (by decide) (by decide), hz 6 (by decide) (by decide)]
      simp
    rw [e0] at e
    intro k k0 k1
    by_cases q : k = 0
    · rw [q]; exact e
    · rw [hz k (by omega) k1]; exact ⟨by show -V ≤ 0; omega, hV⟩
  | d + 1, cs, g, V, hd, hV, hn, hl, hc, hz, hv => by
    cases cs with
    | nil => simp at hl
    | cons c cs =>
      have hn' := List.nodup_cons.mp hn
      have c6 := hc c (by simp)
      have vc := hv c (by simp)
      have ih := interp d cs (qH g c) (2 * V) (by omega) (by omega) hn'.2 (by simpa using hl) (fun x hx => hc x (by simp [hx])) (qH_z hd (fun j a b => hz j (by omega) b)) (fun x hx => by
        have e := qH_ev g c x
        have vx := hv x (by simp [hx])
        have ne : x - c ≠ 0 := fun w => hn'.1 (by rw [show c = x from by omega]; exact hx)
        rw [bd_n] at vx vc ⊢
        have h1 : ((x - c) * ev7 (qH g c) x).natAbs ≤ (ev7 g x).natAbs + (ev7 g c).natAbs := by rw [← e]; omega
        rw [Int.natAbs_mul] at h1
        have h2 : 1 * (ev7 (qH g c) x).natAbs ≤ (x - c).natAbs * (ev7 (qH g c) x).natAbs := Nat.mul_le_mul_right _ (by omega)
        omega)
      have nn := iB_nn d (2 * V) (by omega)
      have st := qH_st g c
      have mulb : ∀ y : Int, bd y (iB d (2 * V)) → bd (c * y) (6 * iB d (2 * V)) := fun y hy => bd_mul c6 hy
      intro k k0 k1
      show bd (g k) (V + 7 * iB d (2 * V))
      by_cases q : k = 0
      · subst q
        have e : g 0 = ev7 g c - c * qH g c 0 := by
          show g 0 = g 0 + c * (g 1 + c * (g 2 + c * (g 3 + c * (g 4 + c * (g 5 + c * g 6))))) - c * (g 1 + c * (g 2 + c * (g 3 + c * (g 4 + c * (g 5 + c * g 6)))))
          omega
        have b := mulb _ (ih 0 (by decide) (by decide))
        rw [e]
        unfold bd at *
        omega
      · have e := st (k - 1) (by omega) (by omega)
        rw [show k - 1 + 1 = k from by omega] at e
        have b1 := ih (k - 1) (by omega) (by omega)
        have b := mulb _ (ih k k0 k1)
        rw [e]
        unfold bd at *
        omega
/-- at most so many places are nought -/
theorem few_roots {g : Int → Int} {cs : List Int} (hn : cs.Nodup) (hc : ∀ c ∈ cs, bd c 6) (hz : ∀ c ∈ cs, ev7 g c = 0) (hl : 7 ≤ cs.length) : ∀ k : Int, 0 ≤ k → k < 7 → g k = 0 := by
  have h := interp 6 (cs.take 7) g 0 (by decide) (by decide) (hn.sublist (List.take_sublist 7 cs)) (by rw [List.length_take]; omega) (fun c h => hc c (List.mem_of_mem_take h)) (fun j a b => by omega) (fun c h => by rw [hz c (List.mem_of_mem_take h)]; exact ⟨by decide, by decide⟩)
  intro k k0 k1
  have := h k k0 k1
  have e : iB 6 0 = 0 := by decide
  rw [e] at this
  unfold bd at this
  omega
theorem len_split (p : Int → Bool) : ∀ l : List Int, (l.filter p).length + (l.filter (fun c => !p c)).length = l.length
  | [] => rfl
  | a :: l => by
    have ih := len_split p l
    rw [List.filter_cons, List.filter_cons]
    cases h : p a with
    | true => simp; omega
    | false => simp; omega
def plc : List Int := [-6, -5, -4, -3, -2, -1, 0, 1, 2, 3, 4, 5, 6]
theorem ex_places {f : Int → Int} (hf : ∃ k : Int, 0 ≤ k ∧ k < 7 ∧ f k ≠ 0) (d : Nat) (hd : d ≤ 6) : ∃ cs : List Int, cs.Nodup ∧ cs.length = d + 1 ∧ (∀ c ∈ cs, bd c 6) ∧ ∀ c ∈ cs, ev7 f c ≠ 0 := by
  have nd : plc.Nodup := by decide
  have b6 : ∀ c ∈ plc, bd c 6 := by unfold bd; decide
  have len : (plc.filter (fun c => decide (ev7 f c = 0))).length + (plc.filter (fun c => !decide (ev7 f c = 0))).length = 13 := by
    have := len_split (fun c => decide (ev7 f c = 0)) plc
    have l13 : plc.length = 13 := rfl
    omega
  have le6 : (plc.filter (fun c => decide (ev7 f c = 0))).length ≤ 6 := by
    refine Classical.byContradiction fun q => ?_
    obtain ⟨k, k0, k1, kz⟩ := hf
    refine kz (few_roots (cs := plc.filter (fun c => decide (ev7 f c = 0))) (nd.sublist List.filter_sublist) (fun c hc => b6 c ((List.mem_filter.mp hc).1)) (fun c hc => ?_) (by omega) k k0 k1)
    have := (List.mem_filter.mp hc).2
    simpa using this
  refine ⟨(plc.filter (fun c => !decide (ev7 f c = 0))).take (d + 1), (nd.sublist List.filter_sublist).sublist (List.take_sublist _ _), by rw [List.length_take]; omega, fun c hc => b6 c ((List.mem_filter.mp (List.mem_of_mem_take hc)).1), fun c hc => ?_⟩
  have := (List.mem_filter.mp (List.mem_of_mem_take hc)).2
  simpa using this
theorem ev_6 {f : Int → Int} (h : hB f 100) {c : Int} (hc : bd c 6) : bd (ev7 f c) 5600000 := by
  have s : ∀ x y A : Int, bd x 100 → bd y A → bd (x + c * y) (100 + 6 * A) := fun x y A hx hy => by
    have := bd_mul hc hy
    exact bd_add hx this
  have h6 := h 6 (by decide) (by decide)
  have h5 := s _ _ _ (h 5 (by decide) (by decide)) h6
  have h4 := s _ _ _ (h 4 (by decide) (by decide)) h5
  have h3 := s _ _ _ (h 3 (by decide) (by decide)) h4
  have h2 := s _ _ _ (h 2 (by decide) (by decide)) h3
  have h1 := s _ _ _ (h 1 (by decide) (by decide)) h2
  have h0 := s _ _ _ (h 0 (by decide) (by decide)) h1
  exact bd_le h0 (by decide)
/-- bounds for a divisor of degree d -/
def gbd (d : Int) : Int := if d = 6 then 100 else if d = 5 then 600 else 250000000000
section
variable {R : Type}
theorem div_bd [Lean.Grind.CommRing R] {co : R → Nat → Int} {mk : Nat → (Nat → Int) → R} (H : PolyR co mk) {f g : Int → Int} {n d : Int} (hc : core co mk f n) (hf : hB f 100) (hd : 0 ≤ d ∧ d ≤ 6) (g0 : g d ≠ 0) (gz : ∀ k : Int, d < k → k < 7 → g k = 0) (h : zd (pR mk 7 g) (pR mk 7 f)) : hB g (gbd d) := by
  have zr := zd_row H hc hd g0 gz h
  have n06 := hc.1
  have tg := row_tz H ⟨hd.1, by omega⟩ g0 gz
  obtain ⟨q, hq⟩ := h
  obtain ⟨i, j, hi, hj, hij⟩ := zd_deg H (core_tz H hc) hq
  have ed := tz_uniq hi tg
  have low : d ≤ 4 → hB g (gbd d) := fun d4 => by
    obtain ⟨cs, c1, c2, c3, c4⟩ := ex_places (f := f) ⟨n, n06.1, by omega, by have := hc.2.1; omega⟩ d.toNat (by omega)
    have := interp d.toNat cs g 5600000 (by omega) (by decide) c1 c2 c3 (fun k a b => gz k (by omega) b) (fun c hcs => by
      have h1 := Nat.le_of_dvd (by have := c4 c hcs; omega) (Int.natAbs_dvd_natAbs.mpr (zr.2.2 c))
      have h2 := bd_n.mp (ev_6 hf (c3 c hcs))
      exact bd_n.mpr (by omega))
    intro k k0 k1
    refine bd_le (this k k0 k1) ?_
    have : ∀ e : Nat, e ≤ 4 → iB e 5600000 ≤ 250000000000 := by decide +kernel
    have t := this d.toNat (by omega)
    unfold gbd
    rw [if_neg (by omega), if_neg (by omega)]
    exact t
  have unit : n = d → hB g 100 := fun e => by
    have j0 : j = 0 := by omega
    subst j0
    have u := unit_of H hc.2.2.2.2.2.2 hj ⟨pR mk 7 g, by rw [hq]; grind⟩
    intro k k0 k1
    have ee : pR mk 7 f = pR mk 7 g ∨ pR mk 7 f = -(pR mk 7 g) := by
      rcases u with w | w
      · exact Or.inl (by rw [hq, w]; grind)
      · exact Or.inr (by rw [hq, w]; grind)
    have fk := hf k k0 k1
    rcases ee with w | w
    · have c : co (pR mk 7 f) k.toNat = co (pR mk 7 g) k.toNat := by rw [w]
      rw [co_pR H, co_pR H, if_pos (by omega), if_pos (by omega), Int.toNat_of_nonneg k0] at c
      rw [← c]; exact fk
    · have c : co (pR mk 7 f) k.toNat = co (-(pR mk 7 g)) k.toNat := by rw [w]
      rw [co_neg H, co_pR H, co_pR H, if_pos (by omega), if_pos (by omega), Int.toNat_of_nonneg k0] at c
      unfold bd at fk ⊢
      omega
  by_cases d6 : d = 6
  · have := unit (by omega)
    unfold gbd
    rw [if_pos d6]
    exact this
  · by_cases d5 : d = 5
    · unfold gbd
      rw [if_neg d6, if_pos d5]
      by_cases n5 : n = 5
      · have := unit (by omega)
        intro k k0 k1
        exact bd_le (this k k0 k1) (by decide)
      · have n6 : n = 6 := by omega
        subst n6
        subst d5
        have j1 : j = 1 := by omega
        subst j1
        have lf := lin_form H hj
        have pl := prt_lin (R := R) H (co q 1) (co q 0)
        have lq := lin_q H (g := prt (co q 0) (co q 1) 0 0) (h := g) hc (by decide) (by show (prt (co q 0) (co q 1) 0 0) 1 ≠ 0; exact hj.1) (fun k a b => by
          have : k = 2 ∨ k = 3 ∨ 3 < k := by omega
          rcases this with w | w | w
          · subst w; rfl
          · subst w; rfl
          · exact prt_z w) (fun k a b => gz k (by omega) b) (by rw [pl, ← lf, hq]; grind)
        have tb : tbn (6 - 1) = 600 := by decide
        rw [tb] at lq
        exact lq
    · exact low (by omega)
end
