/-! the machine's rules: steps may be taken, calls by their contracts, ends weakened -/
section RZR
variable {CH CH' : Nat → List rz_V → rz_M → (Int → rz_M → Prop) → Prop} {y n t : Nat} {ls st : List rz_V} {m : rz_M} {P P' : Nat → List rz_V → List rz_V → rz_M → Prop} {Q : Int → rz_M → Prop}
theorem rz_bm {b : Bool} {A A' : Prop} (h : A → A') : (bif b then A else False) → (bif b then A' else False) := by
  cases b with
  | true => exact h
  | false => exact fun h => h
theorem rz_sw_mono (hP : ∀ pc ls st m, P pc ls st m → P' pc ls st m) (pc : Nat) (x : Int) : ∀ (offs : List Int) (lo : Int), rz_sw ls st m P offs pc lo x → rz_sw ls st m P' offs pc lo x
  | [], _, _ => trivial
  | _ :: r, lo, h => ⟨fun e => hP _ _ _ _ (h.1 e), rz_sw_mono hP pc x r (lo + 1) h.2⟩
set_option maxHeartbeats 4000000 in
theorem rz_sem_mono (hC : ∀ z as m (K K' : Int → rz_M → Prop), (∀ r m', K r m' → K' r m') → CH z as m K → CH' z as m K') (hP : ∀ pc ls st m, P pc ls st m → P' pc ls st m) (i : Instr) (pc : Nat)
    (h : rz_sem CH y n t ls st m P Q i pc) : rz_sem CH' y n t ls st m P' Q i pc := by
  have bb : ∀ {b : Bool} {A B A' B' : Prop}, (A → A') → (B → B') → (bif b then A else B) → (bif b then A' else B') := by
    intro b A B A' B' f g
    cases b with
    | true => exact f
    | false => exact g
  have cpy : rz_cpy n ls st m P → rz_cpy n ls st m P' := by
    unfold rz_cpy
    intro h
    split at h
    · exact rz_bm (fun h => ⟨h.1, hP _ _ _ _ h.2⟩) h
    · exact h.elim
  have jm : ∀ z, rz_jm n ls st m P z → rz_jm n ls st m P' z := by
    intro z h
    unfold rz_jm at h ⊢
    split at h
    all_goals
      split at h
      · exact rz_bm (fun h => hP _ _ _ _ h) h
      · exact h.elim
  have calx : ∀ z, rz_calx CH y n ls st m P z → rz_calx CH' y n ls st m P' z := by
    intro z h
    unfold rz_calx at h ⊢
    exact rz_bm (fun h => hC _ _ _ _ _ (fun r m' k => hP _ _ _ _ k) h) h
  have call : ∀ z, rz_call CH y n ls st m P z → rz_call CH' y n ls st m P' z := fun z h => bb (rz_bm cpy) (bb (rz_bm (jm z)) (calx z)) h
  have scr : rz_scr n ls st m P → rz_scr n ls st m P' := by
    unfold rz_scr
    intro h
    split at h
    · exact rz_bm (fun h => ⟨h.1, hP _ _ _ _ h.2⟩) h
    · exact h.elim
  have scl : rz_scl n ls st m P → rz_scl n ls st m P' := by
    unfold rz_scl
    intro h
    split at h
    · exact rz_bm (fun h => hP _ _ _ _ h) h
    · exact h.elim
  have ald : rz_ald n ls st m P → rz_ald n ls st m P' := by
    unfold rz_ald
    intro h
    split at h
    · exact rz_bm (fun h => ⟨h.1, hP _ _ _ _ h.2⟩) h
    · exact h.elim
  have alen : rz_alen n ls st m P → rz_alen n ls st m P' := by
    unfold rz_alen
    intro h
    split at h
    · exact rz_bm (fun h => hP _ _ _ _ h) h
    · exact h.elim
  cases i <;> try exact h
  all_goals first
    | exact hP _ _ _ _ h
    | exact call _ h
    | exact bb scr ald h
    | exact bb scl alen h
    | skip
  all_goals simp only [rz_sem] at h ⊢
  all_goals first
    | (unfold rz_tsw at h ⊢; split at h; exact ⟨fun e => hP _ _ _ _ (h.1 e), rz_sw_mono hP _ _ _ _ h.2⟩; exact h.elim)
    | skip
  all_goals first
    | unfold rz_ldi at h ⊢
    | unfold rz_ldl at h ⊢
    | unfold rz_lda at h ⊢
    | unfold rz_sti at h ⊢
    | unfold rz_stl at h ⊢
    | unfold rz_sta at h ⊢
    | unfold rz_b32 at h ⊢
    | unfold rz_b64 at h ⊢
    | unfold rz_d32 at h ⊢
    | unfold rz_d64 at h ⊢
    | unfold rz_h64 at h ⊢
    | unfold rz_u32 at h ⊢
    | unfold rz_u64 at h ⊢
    | unfold rz_i2l at h ⊢
    | unfold rz_l2i at h ⊢
    | unfold rz_lcmp at h ⊢
    | unfold rz_if1 at h ⊢
    | unfold rz_if2 at h ⊢
    | unfold rz_ald at h ⊢
    | unfold rz_lald at h ⊢
    | unfold rz_aald at h ⊢
    | unfold rz_ast at h ⊢
    | unfold rz_last at h ⊢
    | unfold rz_alen at h ⊢
    | unfold rz_getf at h ⊢
    | unfold rz_putf at h ⊢
    | unfold rz_gets at h ⊢
    | skip
  all_goals first
    | exact hP _ _ _ _ h
    | (split at h <;> first | exact h.elim | exact rz_bm (fun h => hP _ _ _ _ h) h | exact rz_bm (fun h => ⟨h.1, hP _ _ _ _ h.2⟩) h | exact hP _ _ _ _ h | exact ⟨h.1, hP _ _ _ _ h.2⟩ | exact ⟨fun e => hP _ _ _ _ (h.1 e), fun e => hP _ _ _ _ (h.2 e)⟩)
    | skip
  · revert h
    generalize (rz_lf (rz_mi y).1 _) = q
    obtain ⟨c, k⟩ := q
    dsimp only
    intro h
    split at h
    · refine rz_bm ?_ h
      intro h
      split at h
      · exact hP _ _ _ _ h
      · split at h
        · exact hP _ _ _ _ h
        · exact hP _ _ _ _ h
        · exact hP _ _ _ _ h
        · exact ⟨h.1, hP _ _ _ _ h.2⟩
        · exact h.elim
    · exact h.elim
  · exact rz_bm (fun h => hP _ _ _ _ h) h
theorem rz_sem_post {Q' : Int → rz_M → Prop} (hQ : ∀ r m', Q r m' → Q' r m') (i : Instr) (pc : Nat) (h : rz_sem CH y n t ls st m P Q i pc) : rz_sem CH y n t ls st m P Q' i pc := by
  cases i <;> try exact h
  all_goals simp only [rz_sem] at h ⊢
  · unfold rz_reta at h ⊢
    split at h
    · exact rz_bm (fun h => hQ _ _ h) h
    · exact h.elim
  · unfold rz_reti at h ⊢
    split at h
    · split at h
      · exact hQ _ _ h
      · exact ⟨h.1, hQ _ _ h.2⟩
      · exact h.elim
    · exact h.elim
  · unfold rz_retl at h ⊢
    split at h
    · exact rz_bm (fun h => hQ _ _ h) h
    · exact h.elim
  · unfold rz_retv at h ⊢
    split at h
    · exact rz_bm (fun h => hQ _ _ h) h
    · exact h.elim
end RZR
theorem rz_CX_mono {X Y : Nat → Nat → List rz_V → List rz_V → rz_M → (Int → rz_M → Prop) → Prop} (h : ∀ y pc ls st m Q, X y pc ls st m Q → Y y pc ls st m Q) (z : Nat) (as : List rz_V) (m : rz_M) (K K' : Int → rz_M → Prop) (hK : ∀ r m', K r m' → K' r m') : rz_CX X z as m K → rz_CX Y z as m K' := by
  rintro ⟨R, h1, h2⟩
  exact ⟨R, h _ _ _ _ _ _ h1, fun r m' hr => hK _ _ (h2 r m' hr)⟩
theorem rz_E_cl : rz_cl rz_E := by
  intro y pc ls st m Q h X hX
  refine hX y pc ls st m Q ?_
  rcases h with h | ⟨ls', h1, h2⟩
  · exact Or.inl (rz_sem_mono (fun z as m K K' hK hc => rz_CX_mono (fun y pc ls st m Q k => k X hX) z as m K K' hK hc) (fun pc ls st m k => k X hX) _ _ h)
  · exact Or.inr ⟨ls', h1, h2 X hX⟩
theorem rz_E_wk {y pc : Nat} {ls ls' st : List rz_V} {m : rz_M} {Q : Int → rz_M → Prop} (h : rz_wk ls' ls) (k : rz_E y pc ls' st m Q) : rz_E y pc ls st m Q := rz_E_cl _ _ _ _ _ _ (Or.inr ⟨ls', h, k⟩)
theorem rz_E_cs {y pc : Nat} {ls st : List rz_V} {m : rz_M} {Q Q' : Int → rz_M → Prop} (h : rz_E y pc ls st m Q) (hQ : ∀ r m', Q r m' → Q' r m') : rz_E y pc ls st m Q' := by
  refine h (fun y pc ls st m Q => ∀ Q' : Int → rz_M → Prop, (∀ r m', Q r m' → Q' r m') → rz_E y pc ls st m Q') ?_ Q' hQ
  intro y pc ls st m Q h Q' hQ
  refine rz_E_cl _ _ _ _ _ _ ?_
  rcases h with h | ⟨ls', h1, h2⟩
  · refine Or.inl ?_
    unfold rz_st at h ⊢
    have h3 := rz_sem_mono (CH' := rz_CX rz_E) (P' := fun pc ls st m => rz_E y pc ls st m Q') (fun z as m K K' hK hc => by
      obtain ⟨R, a, b⟩ := hc
      exact ⟨R, a R (fun _ _ k => k), fun r m' hr => hK _ _ (b r m' hr)⟩) (fun pc ls st m k => k Q' hQ) _ _ h
    exact rz_sem_post hQ _ _ h3
  · exact Or.inr ⟨ls', h1, h2 Q' hQ⟩
/-- a step, its calls by what they are known to do -/
theorem rz_E_go {y pc : Nat} {ls st : List rz_V} {m : rz_M} {Q : Int → rz_M → Prop} (h : rz_st rz_C y pc ls st m (fun pc ls st m => rz_E y pc ls st m Q) Q) : rz_E y pc ls st m Q := by
  refine rz_E_cl _ _ _ _ _ _ (Or.inl ?_)
  exact rz_sem_mono (fun z as m K K' hK hc => ⟨K, hc, hK⟩) (fun pc ls st m k => k) _ _ h
/-- up to k steps on, stopping at the cuts, where dead locals are forgotten -/
def rz_mk : List Bool → List rz_V → List rz_V
  | true :: b, _ :: l => rX 0 :: rz_mk b l
  | false :: b, v :: l => v :: rz_mk b l
  | _, l => l
def rz_N (cuts : List (Nat × List Bool)) (y : Nat) (Q : Int → rz_M → Prop) : Nat → Nat → List rz_V → List rz_V → rz_M → Prop
  | 0, pc, ls, st, m => rz_E y pc ls st m Q
  | k + 1, pc, ls, st, m => match cuts.lookup pc with
    | some dead => rz_E y pc (rz_mk dead ls) st m Q
    | none => rz_st rz_C y pc ls st m (rz_N cuts y Q k) Q
theorem rz_wk_mk : ∀ (b : List Bool) (l : List rz_V), rz_wk (rz_mk b l) l
  | [], l => ⟨by simp [rz_mk], fun k => Or.inl (by simp [rz_mk])⟩
  | true :: b, [] => ⟨rfl, fun k => Or.inl rfl⟩
  | false :: b, [] => ⟨rfl, fun k => Or.inl rfl⟩
  | true :: b, v :: l => by
    have h := rz_wk_mk b l
    refine ⟨by simp [rz_mk, h.1], fun k => ?_⟩
    cases k with
    | zero => exact Or.inr rfl
    | succ k => simpa [rz_mk] using h.2 k
  | false :: b, v :: l => by
    have h := rz_wk_mk b l
    refine ⟨by simp [rz_mk, h.1], fun k => ?_⟩
    cases k with
    | zero => exact Or.inl rfl
    | succ k => simpa [rz_mk] using h.2 k
theorem rz_C_cs {z : Nat} {as : List rz_V} {m : rz_M} {K K' : Int → rz_M → Prop} (h : rz_C z as m K) (hK : ∀ r m', K r m' → K' r m') : rz_C z as m K' := rz_E_cs h hK
theorem rz_N_E (cuts : List (Nat × List Bool)) (y : Nat) (Q : Int → rz_M → Prop) : ∀ (k pc : Nat) (ls st : List rz_V) (m : rz_M), rz_N cuts y Q k pc ls st m → rz_E y pc ls st m Q
  | 0, _, _, _, _, h => h
  | k + 1, pc, ls, st, m, h => by
    unfold rz_N at h
    split at h
    · exact rz_E_wk (rz_wk_mk _ ls) h
    · exact rz_E_go (rz_sem_mono (CH := rz_C) (CH' := rz_C) (fun z as m K K' hK hc => rz_C_cs hc hK) (rz_N_E cuts y Q k) _ _ h)
/-- the first step is taken, also at a cut -/
theorem rz_run (cuts : List (Nat × List Bool)) (k : Nat) {y pc : Nat} {ls st : List rz_V} {m : rz_M} {Q : Int → rz_M → Prop} (h : rz_st rz_C y pc ls st m (rz_N cuts y Q k) Q) : rz_E y pc ls st m Q :=
  rz_E_go (rz_sem_mono (CH := rz_C) (CH' := rz_C) (fun z as m K K' hK hc => rz_C_cs hc hK) (rz_N_E cuts y Q k) _ _ h)

theorem rz_bif (b : Bool) (A : Prop) : (bif b then A else False) = (b = true ∧ A) := by cases b <;> simp
theorem rz_cmp_eq (a b : Int) : (rz_cmp a b = 0) = (a = b) := by
  unfold rz_cmp; split <;> (try split) <;> simp <;> omega
theorem rz_cmp_ne (a b : Int) : (rz_cmp a b ≠ 0) = (a ≠ b) := by
  unfold rz_cmp; split <;> (try split) <;> simp <;> omega
theorem rz_cmp_lt (a b : Int) : (rz_cmp a b < 0) = (a < b) := by
  unfold rz_cmp; split <;> (try split) <;> simp <;> omega
theorem rz_cmp_ge (a b : Int) : (0 ≤ rz_cmp a b) = (b ≤ a) := by
  unfold rz_cmp; split <;> (try split) <;> simp <;> omega
theorem rz_cmp_gt (a b : Int) : (0 < rz_cmp a b) = (b < a) := by
  unfold rz_cmp; split <;> (try split) <;> simp <;> omega
theorem rz_cmp_le (a b : Int) : (rz_cmp a b ≤ 0) = (a ≤ b) := by
  unfold rz_cmp; split <;> (try split) <;> simp <;> omega
