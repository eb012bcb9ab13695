/-! TYPE by a prime: what the digits are; the class's way -/
def rep (d : Int) : Nat → Int → Int
  | 0, z => z
  | k + 1, z => rep d k (z * 10 + d)
/-- the digits of the degrees from 7 - n on, behind z -/
def tyG (c : Nat → Nat) : Nat → Int → Int
  | 0, z => z
  | n + 1, z => tyG c n (rep ((6 - n : Nat) : Int) (c (6 - n)) z)
theorem tyG_0 {c : Nat → Nat} : ∀ (n : Nat) (z : Int), (∀ e, 6 < e + n → e ≤ 6 → c e = 0) → n ≤ 6 → tyG c n z = z
  | 0, _, _, _ => rfl
  | n + 1, z, h, hn => by
    show tyG c n (rep _ (c (6 - n)) z) = z
    rw [h (6 - n) (by omega) (by omega)]
    exact tyG_0 n z (fun e a b => h e (by omega) b) (by omega)
theorem tyG_1 {c : Nat → Nat} {D : Nat} : ∀ (n : Nat) (z : Int), 6 < D + n → D ≤ 6 → n ≤ 6 → c D = 1 → (∀ e, 6 < e + n → e ≤ 6 → e ≠ D → c e = 0) → tyG c n z = z * 10 + D
  | 0, z, h, h2, _, _, _ => by omega
  | n + 1, z, h, h2, hn, h3, h4 => by
    show tyG c n (rep _ (c (6 - n)) z) = _
    by_cases q : D = 6 - n
    · rw [← q, h3]
      show tyG c n (z * 10 + (D : Int)) = _
      exact tyG_0 n _ (fun e a b => h4 e (by omega) b (by omega)) (by omega)
    · rw [h4 (6 - n) (by omega) (by omega) (fun w => q w.symm)]
      exact tyG_1 n z (by omega) h2 (by omega) h3 (fun e a b => h4 e (by omega) b)
theorem tyG_cg {c c' : Nat → Nat} : ∀ (n : Nat) (z : Int), n ≤ 6 → (∀ e, 6 < e + n → e ≤ 6 → c e = c' e) → tyG c n z = tyG c' n z
  | 0, _, _, _ => rfl
  | n + 1, z, hn, h => by
    show tyG c n (rep _ (c (6 - n)) z) = tyG c' n (rep _ (c' (6 - n)) z)
    rw [h (6 - n) (by omega) (by omega)]
    exact tyG_cg n _ (by omega) (fun e a b => h e (by omega) b)
section
variable {R : Type}
def cn (d : Nat) : List (R × Nat) → Nat
  | [] => 0
  | x :: l => (if x.2 = d then 1 else 0) + cn d l
theorem cn_app (d : Nat) : ∀ l1 l2 : List (R × Nat), cn d (l1 ++ l2) = cn d l1 + cn d l2
  | [], l2 => by show cn d l2 = 0 + cn d l2; omega
  | x :: l, l2 => by
    show (if x.2 = d then 1 else 0) + cn d (l ++ l2) = (if x.2 = d then 1 else 0) + cn d l + cn d l2
    rw [cn_app d l l2]
    omega
theorem cn_perm (d : Nat) {l1 l2 : List (R × Nat)} (h : l1.Perm l2) : cn d l1 = cn d l2 := by
  induction h with
  | nil => rfl
  | cons x _ ih => show (if x.2 = d then 1 else 0) + _ = (if x.2 = d then 1 else 0) + _; rw [ih]
  | swap x y l => show (if y.2 = d then 1 else 0) + ((if x.2 = d then 1 else 0) + cn d l) = (if x.2 = d then 1 else 0) + ((if y.2 = d then 1 else 0) + cn d l); omega
  | trans _ _ a b => exact a.trans b
theorem sumd_perm {l1 l2 : List (R × Nat)} (h : l1.Perm l2) : sumd l1 = sumd l2 := by
  induction h with
  | nil => rfl
  | cons x _ ih => show x.2 + _ = x.2 + _; rw [ih]
  | swap x y l => show y.2 + (x.2 + sumd l) = x.2 + (y.2 + sumd l); omega
  | trans _ _ a b => exact a.trans b
theorem cn_all {d : Nat} : ∀ l : List (R × Nat), (∀ x ∈ l, x.2 = d) → cn d l = l.length ∧ sumd l = d * l.length ∧ ∀ e, e ≠ d → cn e l = 0
  | [], _ => ⟨rfl, by simp [sumd], fun _ _ => rfl⟩
  | x :: l, h => by
    obtain ⟨i1, i2, i3⟩ := cn_all l (fun y hy => h y (by simp [hy]))
    have hx := h x (by simp)
    refine ⟨?_, ?_, fun e he => ?_⟩
    · show (if x.2 = d then 1 else 0) + cn d l = l.length + 1
      rw [if_pos hx, i1]
      omega
    · show x.2 + sumd l = d * (l.length + 1)
      rw [hx, i2, Nat.mul_add]
      omega
    · show (if x.2 = e then 1 else 0) + cn e l = 0
      rw [if_neg (by omega), i3 e he]
theorem cn_no {d : Nat} : ∀ l : List (R × Nat), (∀ x ∈ l, x.2 ≠ d) → cn d l = 0
  | [], _ => rfl
  | x :: l, h => by
    show (if x.2 = d then 1 else 0) + cn d l = 0
    rw [if_neg (h x (by simp)), cn_no l (fun y hy => h y (by simp [hy]))]
theorem sumd_mem : ∀ (l : List (R × Nat)) (x : R × Nat), x ∈ l → x.2 ≤ sumd l
  | y :: l, x, h => by
    show x.2 ≤ y.2 + sumd l
    rcases List.mem_cons.mp h with q | q
    · rw [q]; omega
    · have := sumd_mem l x q
      omega
/-- the parts behind a step: those of degree d are out -/
theorem part_step [Lean.Grind.CommRing R] {co : R → Nat → Int} {mk : Nat → (Nat → Int) → R} (H : PolyR co mk) {P : Nat} (hp : isPr (P : Int)) {W S G : R} {d e : Nat} {lw : List (R × Nat)} {c : R} (hc : tpp co P c 0) (hir : ∀ x ∈ lw, irp co P x.1 x.2) (hpw : lw.Pairwise (fun x y => ¬ jd co P x.1 y.1 ∧ ¬ jd co P y.1 x.1)) (hW : dvp co P (W - c * prd lw)) (hS : jd co P W (mo mk 1 1 ^ (P ^ d) - S)) (hG : gcdp co P G W (S - mo mk 1 1)) (hGt : tpp co P G e) :
    ∃ (l1 l2 : List (R × Nat)) (c' h : R), lw.Perm (l1 ++ l2) ∧ (∀ x ∈ l1, x.2 ∣ d) ∧ (∀ x ∈ l2, ¬ x.2 ∣ d) ∧ e = sumd l1 ∧ tpp co P c' 0 ∧ dvp co P (W - G * h) ∧ dvp co P (h - c' * prd l2) ∧ (∀ x ∈ l2, irp co P x.1 x.2) ∧ l2.Pairwise (fun x y => ¬ jd co P x.1 y.1 ∧ ¬ jd co P y.1 x.1) := by
  obtain ⟨h, hh⟩ := hG.1
  obtain ⟨l1, l2, c', b1, b2, b3, b4, b5, b6⟩ := deg_div H hp lw hir hpw c G h hc (by
    have := dvp_add H hW (dvp_neg H hh)
    rwa [show W - c * prd lw + -(W - G * h) = G * h - c * prd lw from by grind] at this)
  have xW : ∀ x ∈ lw, jd co P x.1 W := fun x hx => by
    obtain ⟨r, hr⟩ := prd_mem lw x hx
    exact jd_nd H (jd_self H x.1 (c * r)) (by
      rw [show x.1 * (c * r) - W = -(W - c * (x.1 * r)) from by grind, ← hr]
      exact dvp_neg H hW)
  have mem1 : ∀ x ∈ l1, x ∈ lw := fun x hx => b1.mem_iff.mpr (by simp [hx])
  have mem2 : ∀ x ∈ l2, x ∈ lw := fun x hx => b1.mem_iff.mpr (by simp [hx])
  have iff : ∀ x ∈ lw, jd co P x.1 G ↔ x.2 ∣ d := fun x hx => by
    have jx := jd_trans H (xW x hx) hS
    rw [← k1 H hp (hir x hx) d]
    constructor
    · intro q
      have q2 := jd_trans H q hG.2.1
      have := jd_add H jx q2
      rwa [show ∀ A S X : R, A - S + (S - X) = A - X from fun A S X => by grind] at this
    · intro q
      refine gcdp_jd H hG (xW x hx) ?_
      have := jd_sub H q jx
      rwa [show ∀ A S X : R, A - X - (A - S) = S - X from fun A S X => by grind] at this
  refine ⟨l1, l2, c', h, b1, fun x hx => (iff x (mem1 x hx)).mp (b2 x hx), fun x hx q => b3 x hx ((iff x (mem2 x hx)).mpr q), tpp_uniq hGt b4, b5, hh, b6, fun x hx => hir x (mem2 x hx), ?_⟩
  have := (b1.pairwise_iff (fun {x y} q => ⟨q.2, q.1⟩)).mp hpw
  exact (List.pairwise_append.mp this).2.1
/-- the digits of one degree -/
theorem l_PV_t69 {D d s : Int} (hd : 1 ≤ d ∧ d ≤ 6) {m : rz_M} {K : Int → rz_M → Prop} : ∀ (r : Nat) (z v : Int), s < v + d * r → v + d * r ≤ s + d → 0 ≤ v → v ≤ 12 → s ≤ 6 → 0 ≤ z → z * (10 ^ r : Nat) + (10 ^ r : Nat) ≤ 1000000 →
    (∀ v', s < v' → rz_E y_PV_typeBy 69 [rR 47, rX 0, rX 0, rI D, rI (rep d r z), rI d, rI s, rI v'] [] m K) → rz_E y_PV_typeBy 69 [rR 47, rX 0, rX 0, rI D, rI z, rI d, rI s, rI v] [] m K
  | 0, z, v, h1, h2, h3, h4, h5, h6, h7, h => by
    rw [show ((0 : Nat) : Int) = 0 from rfl, Int.mul_zero, Int.add_zero] at h1
    exact h v h1
  | r + 1, z, v, h1, h2, h3, h4, h5, h6, h7, h => by
    have er : d * ((r + 1 : Nat) : Int) = d * r + d := by rw [show ((r + 1 : Nat) : Int) = (r : Int) + 1 from by omega, Int.mul_add, Int.mul_one]
    have dr : 0 ≤ d * (r : Int) := Int.mul_nonneg (by omega) (by omega)
    have ep : ((10 ^ (r + 1) : Nat) : Int) = 10 * ((10 ^ r : Nat) : Int) := by rw [Nat.pow_succ, Nat.mul_comm, Int.natCast_mul]; rfl
    have pp : (1 : Int) ≤ ((10 ^ r : Nat) : Int) := by
      have : 0 < 10 ^ r := Nat.pow_pos (by decide)
      omega
    have zz : z * 1 ≤ z * ((10 ^ r : Nat) : Int) := Int.mul_le_mul_of_nonneg_left pp h6
    have e7 : z * (10 * ((10 ^ r : Nat) : Int)) = 10 * (z * ((10 ^ r : Nat) : Int)) := by grind
    rw [ep, e7] at h7
    refine T_PV_typeBy_69 _ _ _ _ _ _ _ (bf (by omega) ?_)
    rw [w32_id (z := z * 10) (by omega) (by omega), w32_id (z := z * 10 + d) (by omega) (by omega), w32_id (z := v + d) (by omega) (by omega)]
    refine l_PV_t69 hd r (z * 10 + d) (v + d) (by omega) (by omega) (by omega) (by omega) h5 (by omega) ?_ h
    have e8 : (z * 10 + d) * ((10 ^ r : Nat) : Int) = 10 * (z * ((10 ^ r : Nat) : Int)) + d * ((10 ^ r : Nat) : Int) := by grind
    have e9 : d * ((10 ^ r : Nat) : Int) ≤ 6 * ((10 ^ r : Nat) : Int) := Int.mul_le_mul_of_nonneg_right hd.2 (by omega)
    rw [e8]
    omega
theorem rep_b {d : Int} (hd : 1 ≤ d ∧ d ≤ 6) : ∀ (r : Nat) (z B : Int), 0 ≤ z → z < B → 0 ≤ rep d r z ∧ rep d r z < B * (10 ^ r : Nat)
  | 0, z, B, h0, h1 => ⟨h0, by show z < B * ((10 ^ 0 : Nat) : Int); rw [Nat.pow_zero]; omega⟩
  | r + 1, z, B, h0, h1 => by
    have := rep_b hd r (z * 10 + d) (B * 10) (by omega) (by omega)
    have ep : ((10 ^ (r + 1) : Nat) : Int) = 10 * ((10 ^ r : Nat) : Int) := by rw [Nat.pow_succ, Nat.mul_comm, Int.natCast_mul]; rfl
    rw [ep, show B * (10 * ((10 ^ r : Nat) : Int)) = B * 10 * ((10 ^ r : Nat) : Int) from by grind]
    exact this
/-- what holds at the head of the loop over the degrees -/
def tyI [Lean.Grind.CommRing R] (co : R → Nat → Int) (mk : Nat → (Nat → Int) → R) (m : rz_M) (P D d : Nat) (lw : List (R × Nat)) : Prop :=
  whOK (m 48) P D ∧ sumd lw = D ∧ (∀ x ∈ lw, irp co P x.1 x.2) ∧ lw.Pairwise (fun x y => ¬ jd co P x.1 y.1 ∧ ¬ jd co P y.1 x.1) ∧ (∀ x ∈ lw, d ≤ x.2) ∧ (∃ c, tpp co P c 0 ∧ dvp co P (pR mk 7 (m 48) - c * prd lw)) ∧
  (2 ≤ d → stOK (m 49) P D ∧ stOK (m 50) P D ∧ jd co P (pR mk 7 (m 48)) (mo mk 1 1 ^ (P ^ (d - 1)) - pR mk 7 (m 49)) ∧ jd co P (pR mk 7 (m 48)) (mo mk 1 1 ^ P - pR mk 7 (m 50)))
theorem l_PV_ty32 [Lean.Grind.CommRing R] {co : R → Nat → Int} {mk : Nat → (Nat → Int) → R} (H : PolyR co mk) {P : Nat} (hP : okP P) {m0 : rz_M} {T : Int} {K : Int → rz_M → Prop} (h : ∀ m' : rz_M, (∀ i, (i < 48 ∨ 54 < i) → m' i = m0 i) → K T m') : ∀ (n d D : Nat) (m : rz_M) (z : Int) (lw : List (R × Nat)), d + n = 7 → 1 ≤ d → D ≤ 6 → 0 ≤ z → z < ((10 ^ (6 - D) : Nat) : Int) → m 47 7 = P → (∀ i, (i < 48 ∨ 54 < i) → m i = m0 i) → tyI co mk m P D d lw → tyG (fun e => cn e lw) n z = T → rz_E y_PV_typeBy 32 [rR 47, rX 0, rX 0, rI D, rI z, rI d, rX 0, rX 0] [] m K := by
  have p2 := hP.1.1
  have p3 := hP.2
  intro n
  induction n with
  | zero =>
    intro d D m z lw hdn hd hD hz0 hz1 hm hfr hI hT
    obtain ⟨hw, hs, hir, hpw, hge, _, _⟩ := hI
    have hl : lw = [] := by
      cases lw with
      | nil => rfl
      | cons x l =>
        have a1 := hge x (by simp)
        have a2 := sumd_mem (x :: l) x (by simp)
        omega
    subst hl
    have hD0 : D = 0 := hs.symm
    subst hD0
    refine T_PV_typeBy_32 _ _ _ _ _ (bt (by rw [w32_id (by omega) (by omega)]; omega) (bt (by decide) ?_))
    have : z = T := hT
    rw [this]
    exact h m hfr
  | succ n ih =>
    intro d D m z lw hdn hd hD hz0 hz1 hm hfr hI hT
    obtain ⟨hw, hs, hir, hpw, hge, ⟨c, hc, hWc⟩, hst⟩ := hI
    have zb : ((10 ^ (6 - D) : Nat) : Int) ≤ 1000000 := by
      have : 10 ^ (6 - D) ≤ 10 ^ 6 := Nat.pow_le_pow_right (by decide) (by omega)
      have e6 : 10 ^ 6 = 1000000 := by decide
      omega
    have hdeg : ∀ x ∈ lw, d ≤ x.2 ∧ x.2 ≤ D := fun x hx => ⟨hge x hx, by rw [← hs]; exact sumd_mem lw x hx⟩
    have he : 6 - n = d := by omega
    have e2d : w32 (2 * (d : Int)) = 2 * d := w32_id (by omega) (by omega)
    refine T_PV_typeBy_32 _ _ _ _ _ ⟨fun q => ?_, fun q => ?_⟩
    · -- the end: what is left is one part, or none
      rw [e2d] at q
      cases lw with
      | nil =>
        have hD0 : D = 0 := hs.symm
        subst hD0
        refine bt (by decide) ?_
        have : z = T := by rw [← hT]; exact (tyG_0 (n + 1) z (fun _ _ _ => rfl) (by omega)).symm
        rw [this]
        exact h m hfr
      | cons x l =>
        have hl : l = [] := by
          cases l with
          | nil => rfl
          | cons y l =>
            have a1 := hge x (by simp)
            have a2 := hge y (by simp)
            have a3 : sumd (x :: y :: l) = x.2 + (y.2 + sumd l) := rfl
            omega
        subst hl
        have hx : x.2 = D := by
          have a3 : sumd [x] = x.2 + 0 := rfl
          omega
        have hx1 := hge x (by simp)
        refine bf (by omega) ?_
        rw [w32_id (z := z * 10) (by omega) (by omega), w32_id (by omega) (by omega)]
        have : z * 10 + (D : Int) = T := by
          rw [← hT]
          refine (tyG_1 (n + 1) z (by omega) hD (by omega) ?_ (fun e _ _ e1 => ?_)).symm
          · show (if x.2 = D then 1 else 0) + 0 = 1
            rw [if_pos hx]
          · show (if x.2 = e then 1 else 0) + 0 = 0
            rw [if_neg (by omega)]
        rw [this]
        exact h m hfr
    · rw [e2d] at q
      have hD2 : 2 ≤ D := by omega
      have d3 : d ≤ 3 := by omega
      -- behind the power
      have main : ∀ m1 : rz_M, (∀ i, i ≠ 49 → i ≠ 50 → i ≠ 51 → i ≠ 54 → m1 i = m i) → stOK (m1 49) P D → stOK (m1 50) P D → jd co P (pR mk 7 (m 48)) (mo mk 1 1 ^ (P ^ d) - pR mk 7 (m1 49)) → jd co P (pR mk 7 (m 48)) (mo mk 1 1 ^ P - pR mk 7 (m1 50)) → rz_C y_PV_shareWithStep [rR 47] m1 (fun r2 m2 => rz_E y_PV_typeBy 69 [rR 47, rX 0, rX 0, rI D, rI z, rI d, rI r2, rI d] [] m2 K) := by
        intro m1 f1 s49 s50 j49 j50
        have e48 : m1 48 = m 48 := f1 48 (by decide) (by decide) (by decide) (by decide)
        have em1 : m1 47 7 = P := by rw [f1 47 (by decide) (by decide) (by decide) (by decide)]; exact hm
        refine c_PV_sws H hP (D := (D : Int)) ⟨by omega, by omega⟩ em1 (by rw [e48]; exact hw) s49 (fun m2 f2 r52 d0 d1 hg => ?_)
        rw [e48] at hg
        have rr := dg_rng (m2 52)
        have tG := dg_tpp H r52 d0
        obtain ⟨l1, l2, c', hq, b1, b2, b3, b4, b5, b6, b7, b8, b9⟩ := part_step H hP.1 hc hir hpw hWc j49 hg tG
        have mem1 : ∀ x ∈ l1, x ∈ lw := fun x hx => b1.mem_iff.mpr (by simp [hx])
        have mem2 : ∀ x ∈ l2, x ∈ lw := fun x hx => b1.mem_iff.mpr (by simp [hx])
        have all1 : ∀ x ∈ l1, x.2 = d := fun x hx => Nat.le_antisymm (Nat.le_of_dvd (by omega) (b2 x hx)) (hge x (mem1 x hx))
        obtain ⟨k1', k2', k3'⟩ := cn_all l1 all1
        have ge2 : ∀ x ∈ l2, d + 1 ≤ x.2 := fun x hx => by
          have a1 := hge x (mem2 x hx)
          have a2 : x.2 ≠ d := fun w => b3 x hx (by rw [w]; exact Nat.dvd_refl d)
          omega
        have sm := sumd_perm b1
        rw [sumd_app] at sm
        generalize hk : l1.length = k at k1' k2'
        have hsh : dg (m2 52) = ((d * k : Nat) : Int) := by omega
        have kD : k ≤ d * k := Nat.le_mul_of_pos_left k (by omega)
        have cnd : cn d lw = k := by rw [cn_perm d b1, cn_app, k1', cn_no l2 (fun x hx => by have := ge2 x hx; omega)]; omega
        have cne : ∀ e, e ≠ d → cn e lw = cn e l2 := fun e he' => by rw [cn_perm e b1, cn_app, k3' e he']; omega
        have hT2 : tyG (fun e => cn e l2) n (rep (d : Int) k z) = T := by
          rw [← hT]
          show _ = tyG (fun e => cn e lw) n (rep ((6 - n : Nat) : Int) (cn (6 - n) lw) z)
          rw [he, cnd]
          exact tyG_cg n _ (by omega) (fun e a b => (cne e (by omega)).symm)
        have pk : ((10 ^ (6 - D) : Nat) : Int) * ((10 ^ k : Nat) : Int) = ((10 ^ (6 - D + k) : Nat) : Int) := by rw [Nat.pow_add, Int.natCast_mul]
        have pm : ∀ x y : Nat, x ≤ y → ((10 ^ x : Nat) : Int) ≤ ((10 ^ y : Nat) : Int) := fun x y hxy => by
          have := Nat.pow_le_pow_right (show 0 < 10 by decide) hxy
          omega
        have e6 : ((10 ^ 6 : Nat) : Int) = 1000000 := by decide
        have rb := rep_b (d := (d : Int)) ⟨by omega, by omega⟩ k z _ hz0 hz1
        rw [pk] at rb
        rw [hsh]
        refine l_PV_t69 ⟨by omega, by omega⟩ k z d (by rw [Int.natCast_mul]; omega) (by rw [Int.natCast_mul]; omega) (by omega) (by omega) (by omega) hz0 ?_ (fun v' hv' => ?_)
        · have a1 := pm (6 - D + k) 6 (by omega)
          have a2 : (z + 1) * ((10 ^ k : Nat) : Int) ≤ ((10 ^ (6 - D) : Nat) : Int) * ((10 ^ k : Nat) : Int) := Int.mul_le_mul_of_nonneg_right (by omega) (Int.natCast_nonneg _)
          rw [pk, Int.add_mul, Int.one_mul] at a2
          omega
        · have fr2 : ∀ i, (i < 48 ∨ 54 < i) → m2 i = m0 i := fun i hi => by rw [f2 i (by omega) (by omega), f1 i (by omega) (by omega) (by omega) (by omega)]; exact hfr i hi
          have em2 : m2 47 7 = P := by rw [f2 47 (by decide) (by decide)]; exact em1
          have e482 : m2 48 = m 48 := by rw [f2 48 (by decide) (by decide)]; exact e48
          have e492 : m2 49 = m1 49 := f2 49 (by decide) (by decide)
          have e502 : m2 50 = m1 50 := f2 50 (by decide) (by decide)
          refine T_PV_typeBy_69 _ _ _ _ _ _ _ (bt hv' (bb (fun k0 => ?_) (fun k0 => ?_)))
          · -- nothing of this degree
            have hk0 : d * k = 0 := by omega
            have hk1 : k = 0 := by omega
            rw [w32_id (by omega) (by omega), show (d : Int) + 1 = ((d + 1 : Nat) : Int) from by omega]
            refine ih (d + 1) D m2 _ l2 (by omega) (by omega) hD rb.1 ?_ em2 fr2 ⟨by rw [e482]; exact hw, by omega, b8, b9, ge2, ⟨pR mk 7 (m2 52) * c', ?_, ?_⟩, fun _ => ?_⟩ hT2
            · rw [hk1, Nat.add_zero] at rb
              rw [hk1]
              exact rb.2
            · have t0 := tpp_mul H hP.1 tG b5
              rwa [show (dg (m2 52)).toNat + 0 = 0 from by omega] at t0
            · rw [e482]
              have := dvp_add H b6 (dvp_mul H (pR mk 7 (m2 52)) b7)
              rwa [show ∀ W G h c P : R, W - G * h + G * (h - c * P) = W - G * c * P from fun W G h c P => by grind] at this
            · rw [e492, e502, e482, show d + 1 - 1 = d from by omega]
              exact ⟨s49, s50, j49, j50⟩
          · have kp : 0 < d * k := by omega
            have wl : whOK (m2 52) P ((d * k : Nat) : Int) := ⟨r52, by rw [← hsh]; exact d1, fun y y0 y1 => dgk_top _ 7 y (by show dg (m2 52) < y; omega) (by omega)⟩
            refine c_PV_part H hP (D := (D : Int)) (e := ((d * k : Nat) : Int)) ⟨by omega, by omega⟩ (by omega) em2 (by rw [e482]; exact hw) wl (by rw [e482]; exact hg.1) (fun m3 f3 w3 q3 => ?_)
            rw [e482] at q3
            have em3 : m3 47 7 = P := by rw [f3 47 (by decide) (by decide)]; exact em2
            rw [w32_id (z := (D : Int) - ((d * k : Nat) : Int)) (by omega) (by omega)]
            have eDk : (D : Int) - ((d * k : Nat) : Int) = ((D - d * k : Nat) : Int) := by omega
            rw [eDk] at w3 ⊢
            -- the quotient has the other parts
            have nG : ¬ dvp co P (pR mk 7 (m2 52)) := tpp_nd tG
            have qh : dvp co P (pR mk 7 (m3 48) - hq) := dvp_cancel H hP.1 nG (by
              have := dvp_add H q3 b6
              rwa [show ∀ L Q W h : R, L * Q - W + (W - L * h) = L * (Q - h) from fun L Q W h => by grind] at this)
            have jW : jd co P (pR mk 7 (m3 48)) (pR mk 7 (m 48)) := ⟨pR mk 7 (m2 52), by
              have := dvp_neg H q3
              rwa [show ∀ L Q W : R, -(L * Q - W) = W - Q * L from fun L Q W => by grind] at this⟩
            have k48 : isL 48 7 := ⟨by decide +kernel, by decide +kernel⟩
            have e493 : m3 49 = m1 49 := by rw [f3 49 (by decide) (by decide)]; exact e492
            have e503 : m3 50 = m1 50 := by rw [f3 50 (by decide) (by decide)]; exact e502
            refine c_PV_reduce H hP (N := 7) (a := 49) (b := 48) (dg := ((D - d * k : Nat) : Int)) (by decide +kernel) (by decide +kernel) (by decide) k48 (by decide) (by decide) ⟨by omega, by omega⟩ em3 (by rw [e493]; exact s49.1) w3.1 w3.2.1 w3.2.2 (fun g1 hg1 hz1 hs1 => ?_)
            rw [show ((7 : Nat) : Int) = 7 from rfl] at hg1 hz1 ⊢
            obtain ⟨u1, hu1⟩ := hs1
            rw [e493] at hu1
            have e484 : wr m3 49 7 g1 48 = m3 48 := wr_ne (by decide)
            refine c_PV_reduce H hP (N := 7) (a := 50) (b := 48) (dg := ((D - d * k : Nat) : Int)) (by decide +kernel) (by decide +kernel) (by decide) k48 (by decide) (by decide) ⟨by omega, by omega⟩ (by rw [wr_ne (by decide)]; exact em3) (by rw [wr_ne (by decide), e503]; exact s50.1) (by rw [e484]; exact w3.1) (by rw [e484]; exact w3.2.1) (by rw [e484]; exact w3.2.2) (fun g2 hg2 hz2 hs2 => ?_)
            rw [show ((7 : Nat) : Int) = 7 from rfl] at hg2 hz2 ⊢
            obtain ⟨u2, hu2⟩ := hs2
            rw [e484, wr_ne (x := 50) (by decide), e503] at hu2
            have f49 : ∀ y : Int, 0 ≤ y → y < 7 → wr (wr m3 49 7 g1) 50 7 g2 49 y = g1 y := fun y y0 y1 => by rw [wr_ne (by decide), wr_in y0 y1]
            have f50 : ∀ y : Int, 0 ≤ y → y < 7 → wr (wr m3 49 7 g1) 50 7 g2 50 y = g2 y := fun y y0 y1 => wr_in y0 y1
            have f48 : wr (wr m3 49 7 g1) 50 7 g2 48 = m3 48 := by rw [wr_ne (by decide), wr_ne (by decide)]
            rw [w32_id (z := (d : Int) + 1) (by omega) (by omega), show (d : Int) + 1 = ((d + 1 : Nat) : Int) from by omega]
            refine ih (d + 1) (D - d * k) _ _ l2 (by omega) (by omega) (by omega) rb.1 ?_ (by rw [wr_ne (by decide), wr_ne (by decide)]; exact em3) (fun i hi => by rw [wr_ne (by omega), wr_ne (by omega), f3 i (by omega) (by omega)]; exact fr2 i hi) ⟨by rw [f48]; exact w3, by omega, b8, b9, ge2, ⟨c', b5, ?_⟩, fun _ => ⟨⟨fun y y0 y1 => by rw [f49 y y0 y1]; exact hg1 y y0 y1, fun y y0 y1 => by rw [f49 y (by omega) y1]; exact hz1 y y0 y1⟩, ⟨fun y y0 y1 => by rw [f50 y y0 y1]; exact hg2 y y0 y1, fun y y0 y1 => by rw [f50 y (by omega) y1]; exact hz2 y y0 y1⟩, ?_, ?_⟩⟩ hT2
            · have := pm (6 - D + k) (6 - (D - d * k)) (by omega)
              omega
            · rw [f48]
              have := dvp_add H qh b7
              rwa [show ∀ Q h c : R, Q - h + (h - c) = Q - c from fun Q h c => by grind] at this
            · rw [f48, pR_congr H (f := wr (wr m3 49 7 g1) 50 7 g2 49) (g := g1) (fun y y0 y1 => f49 y y0 (by omega)), show d + 1 - 1 = d from by omega]
              have := jd_add H (jd_trans H jW j49) (jd_add H (jd_dvp H hu1) (jd_self H (pR mk 7 (m3 48)) u1))
              rwa [show ∀ X S u W g : R, X - S + (S - (u * W + g) + W * u) = X - g from fun X S u W g => by grind] at this
            · rw [f48, pR_congr H (f := wr (wr m3 49 7 g1) 50 7 g2 50) (g := g2) (fun y y0 y1 => f50 y y0 (by omega))]
              have := jd_add H (jd_trans H jW j50) (jd_add H (jd_dvp H hu2) (jd_self H (pR mk 7 (m3 48)) u2))
              rwa [show ∀ X S u W g : R, X - S + (S - (u * W + g) + W * u) = X - g from fun X S u W g => by grind] at this
      refine bb (fun d1 => ?_) (fun d1 => ?_)
      · obtain ⟨s49, s50, j49, j50⟩ := hst (by omega)
        refine c_PV_next H hP (D := D) ⟨hD2, hD⟩ hm hw s49 s50 j50 (fun m1 f1 s1 j1 => main m1 (fun i a b c e => f1 i a c e) s1 (by rw [f1 50 (by decide) (by decide) (by decide)]; exact s50) ?_ (by rw [f1 50 (by decide) (by decide) (by decide)]; exact j50))
        have := jd_pw H j49 P
        rw [← rpow_mul, ← Nat.pow_succ, show (d - 1).succ = d from by omega] at this
        exact jd_tr H this j1
      · have d1' : d = 1 := by omega
        subst d1'
        refine c_PV_first H hP (D := (D : Int)) ⟨by omega, by omega⟩ hm hw (fun m1 f1 s1 e1 j1 => ?_)
        have s50 : stOK (m1 50) P D := ⟨fun y y0 y1 => by rw [e1 y y0 y1]; exact s1.1 y y0 y1, fun y y0 y1 => by rw [e1 y (by omega) y1]; exact s1.2 y y0 y1⟩
        refine main m1 (fun i a b c e => f1 i a b e) s1 s50 (by rw [Nat.pow_one]; exact j1) ?_
        rw [pR_congr H (f := m1 50) (g := m1 49) (fun y y0 y1 => e1 y y0 (by omega))]
        exact j1
end
