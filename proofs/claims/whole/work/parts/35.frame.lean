/-! the script's cell is never written -/
theorem rz_nK {a k : Nat} (hk : k < 5) (h : rz_isK a k = true) : a ≠ 400 := by
  intro e
  subst e
  have e2 : ∀ k : Fin 5, rz_isK 400 k.val = false := by decide +kernel
  rw [e2 ⟨k, hk⟩] at h
  exact absurd h (by decide)
theorem rz_nC {a c : Nat} (hc : c < 9) (h : rz_isC a c = true) : a ≠ 400 := by
  intro e
  subst e
  have e2 : ∀ k : Fin 9, rz_isC 400 k.val = false := by decide +kernel
  rw [e2 ⟨c, hc⟩] at h
  exact absurd h (by decide)
theorem upS {a : Nat} (h : a ≠ 400) (m : rz_M) (i v : Int) : rz_up m a i v 400 = m 400 := up_ne (Ne.symm h)
theorem cpS {b : Nat} (h : b ≠ 400) (m : rz_M) (a : Nat) (sp dp c : Int) : rz_cp m a sp b dp c 400 = m 400 := by
  funext j
  unfold rz_cp
  exact if_neg (fun e => h e.1.symm)
theorem rz_bm2 {b : Bool} {A A' : Prop} (h : b = true → A → A') : (bif b then A else False) → (bif b then A' else False) := by
  cases b with
  | true => exact h rfl
  | false => exact fun h => h
section RZF
variable {CH CH' : Nat → List rz_V → rz_M → (Int → rz_M → Prop) → Prop} {y n t : Nat} {ls st : List rz_V} {m : rz_M} {P P' : Nat → List rz_V → List rz_V → rz_M → Prop} {Q : Int → rz_M → Prop}
theorem rz_sw_mono2 (hP : ∀ pc ls st, P pc ls st m → P' pc ls st m) (pc : Nat) (x : Int) : ∀ (offs : List Int) (lo : Int), rz_sw ls st m P offs pc lo x → rz_sw ls st m P' offs pc lo x
  | [], _, _ => trivial
  | _ :: r, lo, h => ⟨fun e => hP _ _ _ (h.1 e), rz_sw_mono2 hP pc x r (lo + 1) h.2⟩
set_option maxHeartbeats 4000000 in
theorem rz_sem_fr (hC : ∀ z as (K K' : Int → rz_M → Prop), (∀ r m', m' 400 = m 400 → K r m' → K' r m') → CH z as m K → CH' z as m K') (hF : ∀ pc ls st m', m' 400 = m 400 → P pc ls st m' → P' pc ls st m') (i : Instr) (pc : Nat)
    (h : rz_sem CH y n t ls st m P Q i pc) : rz_sem CH' y n t ls st m P' Q i pc := by
  have hP : ∀ pc ls st, P pc ls st m → P' pc ls st m := fun pc ls st h => hF pc ls st m rfl h
  have bb : ∀ {b : Bool} {A B A' B' : Prop}, (A → A') → (B → B') → (bif b then A else B) → (bif b then A' else B') := by
    intro b A B A' B' f g
    cases b with
    | true => exact f
    | false => exact g
  have cpy : rz_cpy n ls st m P → rz_cpy n ls st m P' := by
    unfold rz_cpy
    intro h
    split at h
    · exact rz_bm2 (fun e h => ⟨h.1, hF _ _ _ _ (cpS (rz_nK (k := 1) (by decide) (by simp only [Bool.and_eq_true] at e; exact e.1.2)) _ _ _ _ _) h.2⟩) h
    · exact h.elim
  have jm : ∀ z, rz_jm n ls st m P z → rz_jm n ls st m P' z := by
    intro z h
    unfold rz_jm at h ⊢
    split at h
    all_goals
      split at h
      · exact rz_bm (fun h => hP _ _ _ h) h
      · exact h.elim
  have calx : ∀ z, rz_calx CH y n ls st m P z → rz_calx CH' y n ls st m P' z := by
    intro z h
    unfold rz_calx at h ⊢
    exact rz_bm (fun h => hC _ _ _ _ (fun r m' q k => hF _ _ _ _ q k) h) h
  have call : ∀ z, rz_call CH y n ls st m P z → rz_call CH' y n ls st m P' z := fun z h => bb (rz_bm cpy) (bb (rz_bm (jm z)) (calx z)) h
  have scr : rz_scr n ls st m P → rz_scr n ls st m P' := by
    unfold rz_scr
    intro h
    split at h
    · exact rz_bm (fun h => ⟨h.1, hP _ _ _ h.2⟩) h
    · exact h.elim
  have scl : rz_scl n ls st m P → rz_scl n ls st m P' := by
    unfold rz_scl
    intro h
    split at h
    · exact rz_bm (fun h => hP _ _ _ h) h
    · exact h.elim
  have ald : rz_ald n ls st m P → rz_ald n ls st m P' := by
    unfold rz_ald
    intro h
    split at h
    · exact rz_bm (fun h => ⟨h.1, hP _ _ _ h.2⟩) h
    · exact h.elim
  have alen : rz_alen n ls st m P → rz_alen n ls st m P' := by
    unfold rz_alen
    intro h
    split at h
    · exact rz_bm (fun h => hP _ _ _ h) h
    · exact h.elim
  have ast : rz_ast n ls st m P → rz_ast n ls st m P' := by
    unfold rz_ast
    intro h
    split at h
    · exact rz_bm2 (fun e h => ⟨h.1, hF _ _ _ _ (upS (rz_nK (k := 0) (by decide) e) _ _ _) h.2⟩) h
    · exact h.elim
  have last : rz_last n ls st m P → rz_last n ls st m P' := by
    unfold rz_last
    intro h
    split at h
    · exact rz_bm2 (fun e h => ⟨h.1, hF _ _ _ _ (upS (rz_nK (k := 1) (by decide) e) _ _ _) h.2⟩) h
    · exact h.elim
  have putf : ∀ c k, rz_putf n ls st m P c k → rz_putf n ls st m P' c k := by
    unfold rz_putf
    intro c k h
    split at h
    · exact rz_bm2 (fun e h => hF _ _ _ _ (upS (rz_nC (c := c) (by simp only [Bool.and_eq_true] at e; have := Nat.le_of_ble_eq_true e.2; omega) (by simp only [Bool.and_eq_true] at e; exact e.1.1)) _ _ _) h) h
    · exact rz_bm2 (fun e h => hF _ _ _ _ (upS (rz_nC (c := c) (by simp only [Bool.and_eq_true] at e; have := Nat.le_of_ble_eq_true e.2; omega) (by simp only [Bool.and_eq_true] at e; exact e.1.1)) _ _ _) h) h
    · exact rz_bm2 (fun e h => hF _ _ _ _ (upS (rz_nC (c := c) (by simp only [Bool.and_eq_true] at e; have := Nat.le_of_ble_eq_true e.2; omega) (by simp only [Bool.and_eq_true] at e; exact e.1.1.1)) _ _ _) h) h
    · exact h.elim
  cases i <;> try exact h
  all_goals first
    | exact hP _ _ _ h
    | exact call _ h
    | exact ast h
    | exact last h
    | exact putf _ _ h
    | exact bb scr ald h
    | exact bb scl alen h
    | skip
  all_goals simp only [rz_sem] at h ⊢
  all_goals first
    | (unfold rz_tsw at h ⊢; split at h; exact ⟨fun e => hP _ _ _ (h.1 e), rz_sw_mono2 hP _ _ _ _ h.2⟩; exact h.elim)
    | skip
  all_goals first
    | unfold rz_ldi at h ⊢
    | unfold rz_ldl at h ⊢
    | unfold rz_lda at h ⊢
    | unfold rz_sti at h ⊢
    | unfold rz_stl at h ⊢
    | unfold rz_sta at h ⊢
    | unfold rz_b32 at h ⊢
    | unfold rz_b64 at h ⊢
    | unfold rz_d32 at h ⊢
    | unfold rz_d64 at h ⊢
    | unfold rz_h64 at h ⊢
    | unfold rz_u32 at h ⊢
    | unfold rz_u64 at h ⊢
    | unfold rz_i2l at h ⊢
    | unfold rz_l2i at h ⊢
    | unfold rz_lcmp at h ⊢
    | unfold rz_if1 at h ⊢
    | unfold rz_if2 at h ⊢
    | unfold rz_ald at h ⊢
    | unfold rz_lald at h ⊢
    | unfold rz_aald at h ⊢
    | unfold rz_ast at h ⊢
    | unfold rz_last at h ⊢
    | unfold rz_alen at h ⊢
    | unfold rz_getf at h ⊢
    | unfold rz_putf at h ⊢
    | unfold rz_gets at h ⊢
    | skip
  all_goals first
    | exact hP _ _ _ h
    | (split at h <;> first | exact h.elim | exact rz_bm (fun h => hP _ _ _ h) h | exact rz_bm (fun h => ⟨h.1, hP _ _ _ h.2⟩) h | exact hP _ _ _ h | exact ⟨h.1, hP _ _ _ h.2⟩ | exact ⟨fun e => hP _ _ _ (h.1 e), fun e => hP _ _ _ (h.2 e)⟩)
    | skip
  · revert h
    generalize (rz_lf (rz_mi y).1 _) = q
    obtain ⟨c, k⟩ := q
    dsimp only
    intro h
    split at h
    · refine rz_bm ?_ h
      intro h
      split at h
      · exact hP _ _ _ h
      · split at h
        · exact hP _ _ _ h
        · exact hP _ _ _ h
        · exact hP _ _ _ h
        · exact ⟨h.1, hP _ _ _ h.2⟩
        · exact h.elim
    · exact h.elim
  · exact rz_bm (fun h => hP _ _ _ h) h
theorem rz_sem_post2 {Q' : Int → rz_M → Prop} (hQ : ∀ r, Q r m → Q' r m) (i : Instr) (pc : Nat) (h : rz_sem CH y n t ls st m P Q i pc) : rz_sem CH y n t ls st m P Q' i pc := by
  cases i <;> try exact h
  all_goals simp only [rz_sem] at h ⊢
  · unfold rz_reta at h ⊢
    split at h
    · exact rz_bm (fun h => hQ _ h) h
    · exact h.elim
  · unfold rz_reti at h ⊢
    split at h
    · split at h
      · exact hQ _ h
      · exact ⟨h.1, hQ _ h.2⟩
      · exact h.elim
    · exact h.elim
  · unfold rz_retl at h ⊢
    split at h
    · exact rz_bm (fun h => hQ _ h) h
    · exact h.elim
  · unfold rz_retv at h ⊢
    split at h
    · exact rz_bm (fun h => hQ _ h) h
    · exact h.elim
end RZF
theorem rz_E_fr {y pc : Nat} {ls st : List rz_V} {m : rz_M} {Q Q' : Int → rz_M → Prop} (h : rz_E y pc ls st m Q) (hQ : ∀ r m', m' 400 = m 400 → Q r m' → Q' r m') : rz_E y pc ls st m Q' := by
  refine h (fun y pc ls st m Q => ∀ Q' : Int → rz_M → Prop, (∀ r m', m' 400 = m 400 → Q r m' → Q' r m') → rz_E y pc ls st m Q') ?_ Q' hQ
  intro y pc ls st m Q h Q' hQ
  refine rz_E_cl _ _ _ _ _ _ ?_
  rcases h with h | ⟨ls', h1, h2⟩
  · refine Or.inl ?_
    unfold rz_st at h ⊢
    have h3 := rz_sem_fr (CH' := rz_CX rz_E) (P' := fun pc ls st m => rz_E y pc ls st m Q') (fun z as K K' hK hc => by
      obtain ⟨R, a, b⟩ := hc
      exact ⟨fun r m' => m' 400 = m 400 ∧ R r m', a _ (fun _ _ e k => ⟨e, k⟩), fun r m' hr => hK _ _ hr.1 (b r m' hr.2)⟩) (fun pc ls st m' e k => k Q' (fun r m2 e2 q => hQ r m2 (e2.trans e) q)) _ _ h
    exact rz_sem_post2 (fun r q => hQ r _ rfl q) _ _ h3
  · exact Or.inr ⟨ls', h1, h2 Q' hQ⟩
theorem rz_C_fr {z : Nat} {as : List rz_V} {m : rz_M} {K K' : Int → rz_M → Prop} (h : rz_C z as m K) (hK : ∀ r m', m' 400 = m 400 → K r m' → K' r m') : rz_C z as m K' := rz_E_fr h hK
