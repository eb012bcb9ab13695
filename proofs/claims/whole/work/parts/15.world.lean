/-! what the machine's state means in the JVM: values, cells, locals -/
def R32 (z : Int) : Prop := -2147483648 ≤ z ∧ z < 2147483648
def R64 (z : Int) : Prop := -9223372036854775808 ≤ z ∧ z < 9223372036854775808
def rz_cv (ad : Nat → Nat) (v : rz_V) : Value := match v with
  | .inl z => .int (Int32.ofInt z)
  | .inr (.inl z) => .long (Int64.ofInt z)
  | .inr (.inr (.inl k)) => .ref (ad k)
  | .inr (.inr (.inr _)) => .null
def rz_ok (v : rz_V) : Prop := match v with
  | .inl z => R32 z
  | .inr (.inl z) => R64 z
  | .inr (.inr (.inl _)) => True
  | .inr (.inr (.inr _)) => False
def rz_okm (i : Nat) (j v : Int) : Prop := match (rz_S i).1 with
  | 0 => R32 v
  | 1 => R64 v
  | 2 => True
  | 3 => True
  | c + 4 => (match rz_ft c j.toNat with
    | 0 => R32 v
    | 1 => R64 v
    | _ => True)
def rz_fv (ad : Nat → Nat) (m : rz_M) (i c : Nat) : List Value := (List.range (rz_nf c)).map (fun k => match rz_ft c k with
  | 0 => .int (Int32.ofInt (m i k))
  | 1 => .long (Int64.ofInt (m i k))
  | 2 => .ref (ad (rz_R i k))
  | _ => if m i k < 0 then .null else .ref (ad (m i k).toNat))
def rz_ce (cI cJ cB cJJ : ClassId) (ad : Nat → Nat) (m : rz_M) (i : Nat) : va_E := match rz_S i with
  | (0, n) => .inl (cI, n, .inl (fun j => Int32.ofInt (m i j)))
  | (1, n) => .inl (cJ, n, .inr (.inl (fun j => Int64.ofInt (m i j))))
  | (2, n) => .inl (cB, n, .inr (.inr (.inr (.inr (fun j => some (ad (rz_R i j)))))))
  | (3, n) => .inl (cJJ, n, .inr (.inr (.inr (.inr (fun j => some (ad (rz_R i j)))))))
  | (c + 4, _) => .inr (c, rz_fv ad m i c)
def rz_ws (cI cJ cB cJJ : ClassId) (ad : Nat → Nat) (m : rz_M) : va_W := (List.range rz_NX).map (fun i => (ad i, rz_ce cI cJ cB cJJ ad m i))
def rz_ty (cI cJ cB cJJ : ClassId) : List (ClassId × FieldType) := [(cI, .int), (cJ, .long), (cB, .object "RootChanges$Big"), (cJJ, .array .long)]
/-- the numbers, where they lie -/
theorem w32_R (z : Int) : R32 (w32 z) := by
  unfold R32 w32
  have h1 := @Int.le_bmod z 4294967296 (by decide)
  have h2 := @Int.bmod_lt z 4294967296 (by decide)
  constructor <;> omega
theorem w64_R (z : Int) : R64 (w64 z) := by
  unfold R64 w64
  have h1 := @Int.le_bmod z 18446744073709551616 (by decide)
  have h2 := @Int.bmod_lt z 18446744073709551616 (by decide)
  constructor <;> omega
theorem of32_w (z : Int) : Int32.ofInt (w32 z) = Int32.ofInt z := by
  rw [← Int32.toInt_inj, Int32.toInt_ofInt, Int32.toInt_ofInt]
  exact Int.bmod_bmod
theorem of64_w (z : Int) : Int64.ofInt (w64 z) = Int64.ofInt z := by
  rw [← Int64.toInt_inj, Int64.toInt_ofInt, Int64.toInt_ofInt]
  exact Int.bmod_bmod
theorem to32_of {z : Int} (h : R32 z) : (Int32.ofInt z).toInt = z := Int32.toInt_ofInt_of_le h.1 h.2
theorem to64_of {z : Int} (h : R64 z) : (Int64.ofInt z).toInt = z := Int64.toInt_ofInt_of_le h.1 h.2
theorem to32_R (x : Int32) : R32 x.toInt := ⟨by have := Int32.le_toInt x; simpa using this, by have := Int32.toInt_lt x; simpa using this⟩
theorem to64_R (x : Int64) : R64 x.toInt := ⟨by have := Int64.le_toInt x; simpa using this, by have := Int64.toInt_lt x; simpa using this⟩
theorem w32_id {z : Int} (h1 : -2147483648 ≤ z) (h2 : z < 2147483648) : w32 z = z := by
  unfold w32
  rw [Int.bmod_eq_of_le] <;> omega
theorem w64_id {z : Int} (h1 : -9223372036854775808 ≤ z) (h2 : z < 9223372036854775808) : w64 z = z := by
  unfold w64
  rw [Int.bmod_eq_of_le] <;> omega
theorem cl32_of {z : Int} (h : R32 z) (h0 : 0 ≤ z) : (Int32.ofInt z).toNatClampNeg = z.toNat := by
  show (Int32.ofInt z).toInt.toNat = z.toNat
  rw [to32_of h]
theorem in_of {i : Int} {n : Nat} (h : R32 i) (hi : rz_in i n) : vp_in (Int32.ofInt i) n := by
  rw [vp_in_iff, to32_of h]
  exact hi
/-- the shapes -/
theorem rz_S_far {a : Nat} (h : ¬ a < 249) : rz_S a = (12, 0) ∨ rz_S a = (99, 0) := by
  have e := rz_bltf h
  unfold rz_S
  rw [e, cond_false]
  cases Nat.blt a 260
  · exact Or.inr rfl
  · exact Or.inl rfl
theorem rz_S_lt {a : Nat} (h : (rz_S a).1 < 12) : a < rz_NX := by
  refine Nat.lt_of_not_le fun h2 => ?_
  have h3 : ¬ a < 249 := fun q => absurd h2 (Nat.not_le.mpr q)
  rcases rz_S_far h3 with e | e <;> (rw [e] at h; exact absurd h (by decide))
theorem rz_S_len (a : Nat) : (rz_S a).2 ≤ 9600 := by
  by_cases h : a < 249
  · exact (by decide +kernel : ∀ a, a < 249 → (rz_S a).2 ≤ 9600) a h
  · rcases rz_S_far h with e | e <;> (rw [e]; exact Nat.zero_le _)
section RZW
variable {cI cJ cB cJJ : ClassId} {ad : Nat → Nat} {m m' : rz_M}
theorem ws_get {i : Nat} (h : i < rz_NX) : (rz_ws cI cJ cB cJJ ad m)[i]? = some (ad i, rz_ce cI cJ cB cJJ ad m i) := by
  unfold rz_ws
  rw [List.getElem?_map, List.getElem?_range h]
  rfl
theorem ws_set {i : Nat} (h : i < rz_NX) {E : va_E} (h1 : rz_ce cI cJ cB cJJ ad m' i = E) (h2 : ∀ j, j ≠ i → rz_ce cI cJ cB cJJ ad m' j = rz_ce cI cJ cB cJJ ad m j) : (rz_ws cI cJ cB cJJ ad m).set i (ad i, E) = rz_ws cI cJ cB cJJ ad m' := by
  refine List.ext_getElem? fun k => ?_
  by_cases hk : k < rz_NX
  · rw [ws_get hk]
    by_cases e : i = k
    · subst e
      rw [List.getElem?_set_self (by unfold rz_ws; simpa using hk), h1]
    · rw [List.getElem?_set_ne e, ws_get hk, h2 k (fun q => e q.symm)]
  · rw [List.getElem?_eq_none (by unfold rz_ws; simp; omega), List.getElem?_eq_none (by unfold rz_ws; simp; omega)]
theorem ce_ne {a : Nat} {i v : Int} {j : Nat} (h : j ≠ a) : rz_ce cI cJ cB cJJ ad (rz_up m a i v) j = rz_ce cI cJ cB cJJ ad m j := by
  have e : ∀ q, rz_up m a i v j q = m j q := fun q => if_neg fun hh => h hh.1
  unfold rz_ce rz_fv
  simp only [e]
theorem ce_cp {a b : Nat} {sp dp c : Int} {j : Nat} (h : j ≠ b) : rz_ce cI cJ cB cJJ ad (rz_cp m a sp b dp c) j = rz_ce cI cJ cB cJJ ad m j := by
  have e : ∀ q, rz_cp m a sp b dp c j q = m j q := fun q => if_neg fun hh => h hh.1
  unfold rz_ce rz_fv
  simp only [e]
theorem ce_0 {a n : Nat} (h : rz_S a = (0, n)) : rz_ce cI cJ cB cJJ ad m a = .inl (cI, n, .inl (fun j => Int32.ofInt (m a j))) := by unfold rz_ce; rw [h]
theorem ce_1 {a n : Nat} (h : rz_S a = (1, n)) : rz_ce cI cJ cB cJJ ad m a = .inl (cJ, n, .inr (.inl (fun j => Int64.ofInt (m a j)))) := by unfold rz_ce; rw [h]
theorem ce_2 {a n : Nat} (h : rz_S a = (2, n)) : rz_ce cI cJ cB cJJ ad m a = .inl (cB, n, .inr (.inr (.inr (.inr (fun j => some (ad (rz_R a j))))))) := by unfold rz_ce; rw [h]
theorem ce_3 {a n : Nat} (h : rz_S a = (3, n)) : rz_ce cI cJ cB cJJ ad m a = .inl (cJJ, n, .inr (.inr (.inr (.inr (fun j => some (ad (rz_R a j))))))) := by unfold rz_ce; rw [h]
theorem ce_4 {a c n : Nat} (h : rz_S a = (c + 4, n)) : rz_ce cI cJ cB cJJ ad m a = .inr (c, rz_fv ad m a c) := by unfold rz_ce; rw [h]
end RZW
theorem isK_S {a k : Nat} (h : rz_isK a k = true) : ∃ n : Nat, rz_S a = (k, n) ∧ rz_len a = n ∧ n ≤ 9600 := ⟨(rz_S a).2, by have := Nat.eq_of_beq_eq_true h; rw [← this], rfl, rz_S_len a⟩
theorem isC_S {o c : Nat} (h : rz_isC o c = true) : ∃ n : Nat, rz_S o = (c + 4, n) := ⟨(rz_S o).2, by have := Nat.eq_of_beq_eq_true h; rw [Nat.add_comm c 4, ← this]⟩
def rz_mo (m : rz_M) : Prop := ∀ (i : Nat) (j : Int), rz_okm i j (m i j)
theorem mo_0 {m : rz_M} {a n : Nat} (h : rz_mo m) (ha : rz_S a = (0, n)) (j : Int) : R32 (m a j) := by have := h a j; unfold rz_okm at this; rw [ha] at this; exact this
theorem mo_1 {m : rz_M} {a n : Nat} (h : rz_mo m) (ha : rz_S a = (1, n)) (j : Int) : R64 (m a j) := by have := h a j; unfold rz_okm at this; rw [ha] at this; exact this
theorem mo_up {m : rz_M} {a : Nat} {i v : Int} (h : rz_mo m) (hv : rz_okm a i v) : rz_mo (rz_up m a i v) := by
  intro x y
  unfold rz_up
  split
  · next e => obtain ⟨rfl, rfl⟩ := e; exact hv
  · exact h x y
