/-! the reference: a quadratic factor -/
theorem l_M_valueAt {a : Nat} (ha : isL a 7) {m : rz_M} {x : Int} {K : Int → rz_M → Prop} : ∀ (n : Nat) (v : Int), n ≤ 7 → K (hrn (m a) x n v) m → rz_E y_M_valueAt 6 [rR a, rX 0, rL x, rX 1, rL v, rX 1, rI ((n : Int) - 1)] [] m K
  | 0, v, _, h => T_M_valueAt_6 _ _ _ _ _ _ (bt (by decide) h)
  | n + 1, v, hn, h => by
    rw [show ((n + 1 : Nat) : Int) - 1 = n from by omega]
    refine T_M_valueAt_6 _ _ _ _ _ _ (bf (by omega) ⟨ha.1, ⟨by omega, by have := ha.2; omega⟩, ?_⟩)
    rw [w32_id (by omega) (by omega), show (n : Int) + -1 = (n : Int) - 1 from by omega]
    exact l_M_valueAt ha n _ (by omega) h
theorem hrn_z {f : Int → Int} {x : Int} : ∀ (s n : Nat), (∀ k : Int, n ≤ k → k < n + s → f k = 0) → hrn f x (n + s) 0 = hrn f x n 0
  | 0, n, _ => rfl
  | s + 1, n, h => by
    show hrn f x (n + s) (w64 (w64 (0 * x) + f ((n + s : Nat) : Int))) = _
    rw [h _ (by omega) (by omega), Int.zero_mul, show w64 (w64 0 + 0) = 0 from by decide +kernel]
    exact hrn_z s n (fun k a b => h k a (by omega))
theorem c_M_valueAt {a : Nat} (ha : isL a 7) {n : Int} (hn : 0 ≤ n ∧ n ≤ 6) {m : rz_M} {g : Int → Int} (hg : ∀ k : Int, 0 ≤ k → k ≤ n → m a k = g k) (hz : ∀ k : Int, n < k → k < 7 → g k = 0) {x B : Int} (hx : x = 1 ∨ x = -1 ∨ x = 2) (hB' : hB g B) (hb : B ≤ 100000000) {K : Int → rz_M → Prop} (h : K (ev7 g x) m) : rz_C y_M_valueAt [rR a, rI n, rL x] m K := by
  refine T_M_valueAt_0 _ _ _ _ _ ?_
  have := l_M_valueAt (K := K) ha (m := m) (x := x) (n + 1).toNat 0 (by omega) (by
    rw [hrn_congr (g := g) (n + 1).toNat 0 (fun k a b => hg k a (by omega))]
    have e := hrn_z (f := g) (x := x) (7 - (n + 1).toNat) (n + 1).toNat (fun k a b => hz k (by omega) (by omega))
    rw [show (n + 1).toNat + (7 - (n + 1).toNat) = 7 from by omega] at e
    rw [← e, hrn7 hx hB' hb]
    exact h)
  rwa [show (((n + 1).toNat : Nat) : Int) - 1 = n from by omega] at this
def gq (n : Int) : Int := if n = 6 then 900 else if n = 5 then 3800 else 20200
theorem gq_le (n : Int) : 900 ≤ gq n ∧ gq n ≤ 20200 := by
  unfold gq
  repeat' split
  all_goals omega
theorem gw_2 {n : Int} (hn : 4 ≤ n ∧ n ≤ 6) : ∀ nn : Int, 2 ≤ nn → nn ≤ n → tbn nn * (1 + gq n) ^ (nn - 2 + 1).toNat ≤ 4000000000000000000 := fun nn h1 h2 => by
  have : n = 4 ∨ n = 5 ∨ n = 6 := by omega
  rcases this with q | q | q <;> subst q
  · have : nn = 2 ∨ nn = 3 ∨ nn = 4 := by omega
    rcases this with q | q | q <;> subst q <;> decide +kernel
  · have : nn = 2 ∨ nn = 3 ∨ nn = 4 ∨ nn = 5 := by omega
    rcases this with q | q | q | q <;> subst q <;> decide +kernel
  · have : nn = 2 ∨ nn = 3 ∨ nn = 4 ∨ nn = 5 ∨ nn = 6 := by omega
    rcases this with q | q | q | q | q <;> subst q <;> decide +kernel
theorem gw_3 : ∀ nn : Int, 3 ≤ nn → nn ≤ 6 → tbn nn * (1 + 900) ^ (nn - 3 + 1).toNat ≤ 4000000000000000000 := fun nn h1 h2 => by
  have : nn = 3 ∨ nn = 4 ∨ nn = 5 ∨ nn = 6 := by omega
  rcases this with q | q | q | q <;> subst q <;> decide +kernel
section
variable {R : Type}
theorem core_ev2 [Lean.Grind.CommRing R] {co : R → Nat → Int} {mk : Nat → (Nat → Int) → R} {f : Int → Int} {n : Int} (hc : core co mk f n) (hn : 4 ≤ n) : bd (ev7 f 1) (gq n - 200) ∧ bd (ev7 f (-1)) (gq n - 200) := by
  have n06 := hc.1
  have fz := hc.2.2.1
  have hb := hc.2.2.2.1
  have : n = 4 ∨ n = 5 ∨ n = 6 := by omega
  rcases this with q | q | q <;> subst q
  · have e := ev_b4 hb (fz 6 (by decide) (by decide)) (fz 5 (by decide) (by decide))
    exact ⟨bd_le e.2.1 (by decide), bd_le e.2.2.1 (by decide)⟩
  · have e := ev_b5 hb (fz 6 (by decide) (by decide))
    exact ⟨bd_le e.2.1 (by decide), bd_le e.2.2.1 (by decide)⟩
  · have e := ev_b hb
    exact ⟨bd_le e.2.1 (by decide), bd_le e.2.2.1 (by decide)⟩
theorem c_M_tryG [Lean.Grind.CommRing R] {co : R → Nat → Int} {mk : Nat → (Nat → Int) → R} (H : PolyR co mk) {m0 m : rz_M} {A : R} {n d : Int} (hd : d = 2 ∨ d = 3) {a b c e : Int} (hI : mI co mk m0 m A n) (nl : nolin mk (pR mk 7 (m 224))) (hp : ∀ y : Int, 0 ≤ y → y ≤ d → m 228 y = prt a b c e y) (a0 : a ≠ 0) (h2 : d = 2 → 0 < c ∧ e = 0) (h3 : d = 3 → 0 < e) {G : Int} (hG : 0 ≤ G ∧ G ≤ 1000000000) (ba : bd a G) (bb' : bd b G) (bc : bd c G) (be : bd e G) (hGW : ∀ nn : Int, d ≤ nn → nn ≤ n → tbn nn * (1 + G) ^ (nn - d + 1).toNat ≤ 4000000000000000000) {K : Int → rz_M → Prop}
    (h : ∀ (r : Int) (m' : rz_M) (n' : Int), mI co mk m0 m' A n' → zd (pR mk 7 (m' 224)) (pR mk 7 (m 224)) → (r = 0 ∧ n' = n ∧ pR mk 7 (m' 224) = pR mk 7 (m 224) ∧ ¬ zd (pR mk 7 (prt a b c e)) (pR mk 7 (m 224)) ∨ r = 1 ∧ n' ≤ n - d) → K r m') : rz_C y_M_takesOut [rR 221, rI d] m K := by
  have gd : 0 < prt a b c e d := by
    rcases hd with q | q <;> subst q
    · exact (h2 rfl).1
    · exact h3 rfl
  have gz : ∀ k : Int, d < k → k < 7 → prt a b c e k = 0 := fun k k0 k1 => by
    rcases hd with q | q <;> subst q
    · unfold prt
      rw [if_neg (by omega), if_neg (by omega), if_neg (by omega), (h2 rfl).2]
      split <;> rfl
    · exact prt_z k0
  refine c_M_takesOut H hI hp ⟨⟨by omega, by omega⟩, gd, gz, Or.inr nl, Or.inl a0⟩ hG (fun k k0 k1 => ?_) hGW (fun z => ?_) (fun r m' n' I' _ zr nz _ rr => h r m' n' I' zr ?_)
  · unfold prt
    split
    · exact ba
    · split
      · exact bb'
      · split
        · exact bc
        · split
          · exact be
          · exact ⟨by omega, by omega⟩
  · exact irz_23 H (by omega) hI.2.2.2.1.2.2.2.2.2.2 nl (row_tz H ⟨by omega, by omega⟩ (by omega) gz) z
  · rcases rr with ⟨q1, q2, q3⟩ | q
    · exact Or.inl ⟨q1, q2, q3, by rwa [q3] at nz⟩
    · exact Or.inr q
def tm [Lean.Grind.CommRing R] (mk : Nat → (Nat → Int) → R) (f0 : Int → Int) (a e d : Int) : Prop := ¬ zd (pR mk 7 (prt e (d - a - e) a 0)) (pR mk 7 f0)
def qM [Lean.Grind.CommRing R] (co : R → Nat → Int) (mk : Nat → (Nat → Int) → R) (m0 : rz_M) (A : R) (n : Int) (f0 : Int → Int) (m : rz_M) : Prop := mI co mk m0 m A n ∧ pR mk 7 (m 224) = pR mk 7 f0
theorem l_M_q107 [Lean.Grind.CommRing R] {co : R → Nat → Int} {mk : Nat → (Nat → Int) → R} (H : PolyR co mk) {m0 : rz_M} {A : R} {n : Int} (hn : 4 ≤ n) {f0 : Int → Int} (hc0 : core co mk f0 n) (nl : nolin mk (pR mk 7 f0)) {a e gr : Int} (ha : 1 ≤ a ∧ a ≤ 100) (he : -100 ≤ e ∧ e ≤ 100 ∧ e ≠ 0) (hgr : 0 ≤ gr ∧ gr ≤ gq n - 200) {K : Int → rz_M → Prop}
    (h1 : ∀ (m' : rz_M) (n' : Int), mI co mk m0 m' A n' → zd (pR mk 7 (m' 224)) (pR mk 7 f0) → n' ≤ n - 2 → K 1 m')
    (hx : ∀ m' : rz_M, qM co mk m0 A n f0 m' → (∀ d : Int, -gr ≤ d → d ≤ gr → tm mk f0 a e d) → rz_E y_M_findQuadratic 59 [rR 221, rL (ev7 f0 1), rX 1, rL (ev7 f0 (-1)), rX 1, rL gr, rX 1, rL a, rX 1, rL (e + 1), rX 1, rX 0, rX 0] [] m' K) : ∀ (r : Nat) (d : Int) (m : rz_M), (gr + 1 - d).toNat = r → -gr ≤ d → qM co mk m0 A n f0 m → (∀ d' : Int, -gr ≤ d' → d' < d → tm mk f0 a e d') → rz_E y_M_findQuadratic 107 [rR 221, rL (ev7 f0 1), rX 1, rL (ev7 f0 (-1)), rX 1, rL gr, rX 1, rL a, rX 1, rL e, rX 1, rL d, rX 1] [] m K := by
  have gl := gq_le n
  intro r
  induction r with
  | zero =>
    intro d m hr hd hJ ht
    refine T_M_findQuadratic_107 _ _ _ _ _ _ _ _ (bt (by omega) ?_)
    rw [w64_id (by omega) (by omega)]
    exact hx m hJ (fun d' a b => ht d' a (by omega))
  | succ r ih =>
    intro d m hr hd hJ ht
    have n06 := hc0.1
    have nxt : ∀ m' : rz_M, qM co mk m0 A n f0 m' → tm mk f0 a e d → rz_E y_M_findQuadratic 107 [rR 221, rL (ev7 f0 1), rX 1, rL (ev7 f0 (-1)), rX 1, rL gr, rX 1, rL a, rX 1, rL e, rX 1, rL (w64 (d + 1)), rX 1] [] m' K := fun m' hJ' t => by
      rw [w64_id (by omega) (by omega)]
      refine ih (d + 1) m' (by omega) (by omega) hJ' (fun d' x y => ?_)
      by_cases w : d' = d
      · rw [w]; exact t
      · exact ht d' x (by omega)
    have zr : zd (pR mk 7 (prt e (d - a - e) a 0)) (pR mk 7 f0) → ∀ c : Int, ev7 (prt e (d - a - e) a 0) c ∣ ev7 f0 c ∧ ev7 (prt e (d - a - e) a 0) c ≠ 0 := fun z c => by
      have := (zd_row H (d := 2) hc0 ⟨by decide, by decide⟩ (by show a ≠ 0; omega) (fun k k0 k1 => by
        unfold prt
        rw [if_neg (by omega), if_neg (by omega), if_neg (by omega)]
        split <;> rfl) z).2.2 c
      exact ⟨this, fun w => nl_ev H nl c (by obtain ⟨t, ht⟩ := this; rw [ht, w, Int.zero_mul])⟩
    have v1 : ev7 (prt e (d - a - e) a 0) 1 = d := by
      show e + 1 * ((d - a - e) + 1 * (a + 1 * (0 + 1 * (0 + 1 * (0 + 1 * 0))))) = _
      omega
    have v2 : ev7 (prt e (d - a - e) a 0) (-1) = d - 2 * (d - a - e) := by
      show e + (-1) * ((d - a - e) + (-1) * (a + (-1) * (0 + (-1) * (0 + (-1) * (0 + (-1) * 0))))) = _
      omega
    have wA : w64 (w64 (d - a) - e) = d - a - e := by rw [w64_id (z := d - a) (by omega) (by omega), w64_id (by omega) (by omega)]
    have wB : w64 (d - w64 (2 * (d - a - e))) = d - 2 * (d - a - e) := by rw [w64_id (z := 2 * (d - a - e)) (by omega) (by omega), w64_id (by omega) (by omega)]
    refine T_M_findQuadratic_107 _ _ _ _ _ _ _ _ (bf (by omega) ?_)
    rw [wA, wB]
    refine c_M_into (fun _ _ => b1t (c_M_into (fun _ _ => b1n ⟨⟨by decide, by decide⟩, ⟨by decide, by decide⟩, T_M_findQuadratic_171 _ _ _ _ _ _ _ _ ⟨⟨by decide, by decide⟩, ?_⟩⟩) (fun w => b0n (nxt m hJ (fun z => w ?_))))) (fun w => b0t (nxt m hJ (fun z => w ?_)))
    · have f1 : ∀ i, i ≠ 228 → rz_up (rz_up (rz_up m 228 0 e) 228 1 (d - a - e)) 228 2 a i = m i := fun i hi => by rw [up_ne hi, up_ne hi, up_ne hi]
      refine c_M_tryG H (a := e) (b := d - a - e) (c := a) (e := 0) (G := gq n) (Or.inl rfl) (mI_228 hJ.1 (fun i i1 _ _ => f1 i i1)) (by rw [f1 224 (by decide), hJ.2]; exact nl) (fun y y0 y1 => ?_) he.2.2 (fun _ => ⟨by omega, rfl⟩) (fun z => absurd z (by decide)) ⟨by omega, by omega⟩ ⟨by omega, by omega⟩ ⟨by omega, by omega⟩ ⟨by omega, by omega⟩ ⟨by omega, by omega⟩ (gw_2 ⟨hn, n06.2⟩) (fun r2 m2 n2 I2 z2 d2 => ?_)
      · have : y = 0 ∨ y = 1 ∨ y = 2 := by omega
        rcases this with q | q | q <;> subst q
        · rw [up_nj (by decide), up_nj (by decide), up_eq]; rfl
        · rw [up_nj (by decide), up_eq]; rfl
        · rw [up_eq]; rfl
      · rw [f1 224 (by decide), hJ.2] at z2 d2
        rcases d2 with ⟨q1, q2, q3, q4⟩ | ⟨q1, q2⟩
        · subst q1; subst q2
          exact b0t (nxt m2 ⟨I2, q3⟩ q4)
        · subst q1
          exact b1t (h1 m2 n2 I2 z2 q2)
    · have := zr z (-1)
      rw [v2] at this
      exact ⟨this.2, this.1⟩
    · have := zr z 1
      rw [v1] at this
      exact ⟨this.2, this.1⟩
end
