/-! Parts: a factor is put in its place -/
def isP (P : Nat) : Prop := P = 14 ∨ P = 25 ∨ P = 36
theorem parts_c {P : Nat} (h : isP P) : rz_isC P 1 = true ∧ rz_R P 0 = P + 1 ∧ rz_R P 1 = P + 8 ∧ rz_R P 2 = P + 9 ∧ rz_R P 3 = P + 10 ∧ (rz_isK (P + 1) 2 || rz_isK (P + 1) 3) = true ∧ rz_len (P + 1) = 6 ∧ rz_isK (P + 8) 0 = true ∧ rz_len (P + 8) = 6 ∧ rz_isK (P + 9) 0 = true ∧ rz_len (P + 9) = 6 := by
  rcases h with z | z | z <;> subst z <;> decide +kernel
theorem parts_r {P : Nat} (h : isP P) : ∀ k : Nat, k < 6 → rz_R (P + 1) (k : Int) = P + 2 + k ∧ rz_isK (P + 2 + k) 1 = true ∧ rz_len (P + 2 + k) = 7 := by
  rcases h with z | z | z <;> subst z <;> decide +kernel
def elC (m : rz_M) (P k : Nat) : E3 := (cutf (m (P + 2 + k)), m (P + 8) k, m (P + 9) k)
def ptl (m : rz_M) (P : Nat) : List E3 := (List.range (m P 4).toNat).map (elC m P)
theorem elC_of {m m' : rz_M} {P P' k k' : Nat} (h1 : ∀ y : Int, 0 ≤ y → y < 7 → m' (P' + 2 + k') y = m (P + 2 + k) y) (h2 : m' (P' + 8) k' = m (P + 8) k) (h3 : m' (P' + 9) k' = m (P + 9) k) : elC m' P' k' = elC m P k := by
  unfold elC
  rw [h2, h3]
  congr 1
  exact canon_ext (cutf_canon _) (cutf_canon _) (fun y y0 y1 => by rw [cutf_in y0 y1, cutf_in y0 y1]; exact h1 y y0 y1)
theorem l_Parts_ib30 {P : Nat} (hP : isP P) {S : Nat} (hS : S = 56 ∨ S = 59) {k : Nat} (hk : k < 6) {m : rz_M} {d e : Int} (hd : d = m (P + 8) k) {K : Int → rz_M → Prop} (h1 : bef (cutf (m S), d, e) (elC m P k) → K 1 m) (h0 : ¬ bef (cutf (m S), d, e) (elC m P k) → K 0 m) : ∀ n : Nat, n ≤ 7 → (∀ j : Int, n ≤ j → j < 7 → m S j = m (P + 2 + k) j) → rz_E y_Parts_isBefore 30 [rR P, rR S, rX 0, rI k, rI ((n : Int) - 1)] [] m K
  | 0, _, hs => by
    refine T_Parts_isBefore_30 _ _ _ _ _ _ (bt (by decide) (h0 (fun z => ?_)))
    rcases z with z | ⟨_, l, l0, l1, l2, _⟩
    · have : d < m (P + 8) k := z
      omega
    · have l2' : cutf (m S) l < cutf (m (P + 2 + k)) l := l2
      rw [cutf_in l0 l1, cutf_in l0 l1, hs l l0 l1] at l2'
      omega
  | n + 1, hn, hs => by
    have c := parts_c hP
    have r := parts_r hP k hk
    have k59 : rz_isK S 1 = true := by rcases hS with z | z <;> subst z <;> decide +kernel
    have l59 : rz_len S = 7 := by rcases hS with z | z <;> subst z <;> decide +kernel
    rw [show ((n + 1 : Nat) : Int) - 1 = n from by omega]
    refine T_Parts_isBefore_30 _ _ _ _ _ _ (bf (by omega) ?_)
    rw [c.2.1, r.1, l59, c.2.2.2.2.2.2.1, r.2.2]
    have below : m S n < m (P + 2 + k) n → bef (cutf (m S), d, e) (elC m P k) := fun q => Or.inr ⟨hd, n, by omega, by omega, by
      show cutf (m S) n < cutf (m (P + 2 + k)) n
      rw [cutf_in (by omega) (by omega), cutf_in (by omega) (by omega)]
      exact q, fun j a b => by
      show cutf (m S) j = cutf (m (P + 2 + k)) j
      rw [cutf_in (by omega) b, cutf_in (by omega) b]
      exact hs j (by omega) b⟩
    have above : m (P + 2 + k) n < m S n → ¬ bef (cutf (m S), d, e) (elC m P k) := fun q z => bef_as _ _ z (Or.inr ⟨hd.symm, n, by omega, by omega, by
      show cutf (m (P + 2 + k)) n < cutf (m S) n
      rw [cutf_in (by omega) (by omega), cutf_in (by omega) (by omega)]
      exact q, fun j a b => by
      show cutf (m (P + 2 + k)) j = cutf (m S) j
      rw [cutf_in (by omega) b, cutf_in (by omega) b]
      exact (hs j (by omega) b).symm⟩)
    refine ⟨k59, ⟨by omega, by omega⟩, c.1, c.2.2.2.2.2.1, ⟨by omega, by omega⟩, r.2.1, ⟨by omega, by omega⟩, bb (fun q => ?_) (fun q => ⟨k59, ⟨by omega, by omega⟩, c.1, c.2.2.2.2.2.1, ⟨by omega, by omega⟩, r.2.1, ⟨by omega, by omega⟩, bb (fun z => h0 (above (by omega))) (fun z => h1 (below (by omega)))⟩)⟩
    rw [w32_id (by omega) (by omega), show (n : Int) + -1 = (n : Int) - 1 from by omega]
    exact l_Parts_ib30 hP hS hk hd h1 h0 n (by omega) (fun j a b => by
      by_cases z : j = n
      · rw [z]; exact q
      · exact hs j (by omega) b)
theorem c_Parts_isBefore {P : Nat} (hP : isP P) {S : Nat} (hS : S = 56 ∨ S = 59) {k : Nat} (hk : k < 6) {m : rz_M} {d e : Int} {K : Int → rz_M → Prop} (h1 : bef (cutf (m S), d, e) (elC m P k) → K 1 m) (h0 : ¬ bef (cutf (m S), d, e) (elC m P k) → K 0 m) : rz_C y_Parts_isBefore [rR P, rR S, rI d, rI k] m K := by
  have c := parts_c hP
  refine T_Parts_isBefore_0 _ _ _ _ _ _ ?_
  rw [c.2.2.1, c.2.2.2.2.2.2.2.2.1]
  refine ⟨c.1, c.2.2.2.2.2.2.2.1, ⟨by omega, by omega⟩, bb (fun q => l_Parts_ib30 hP hS hk q h1 h0 7 (by decide) (fun j a b => by omega)) (fun q => ⟨c.1, c.2.2.2.2.2.2.2.1, ⟨by omega, by omega⟩, bb (fun z => h0 (fun w => ?_)) (fun z => h1 (Or.inl (by show d < m (P + 8) k; omega)))⟩)⟩
  rcases w with w | ⟨w, _⟩
  · have : d < m (P + 8) k := w
    omega
  · have : d = m (P + 8) k := w
    omega
/-- the list with x put in at place j -/
theorem ins_list {E F : Nat → E3} {x : E3} {c j : Nat} (hj : j ≤ c) (h1 : ∀ k, k < j → F k = E k) (h2 : F j = x) (h3 : ∀ k, j < k → k ≤ c → F k = E (k - 1)) : ((List.range (c + 1)).map F).Perm (x :: (List.range c).map E) := by
  have e1 : (List.range (c + 1)).map F = (List.range j).map E ++ x :: (List.range (c - j)).map (fun k => E (j + k)) := by
    rw [show c + 1 = j + ((c - j) + 1) from by omega, List.range_add, List.map_append, List.map_map, List.range_succ_eq_map, List.map_cons, List.map_map]
    congr 1
    · exact List.map_congr_left (fun k hk => h1 k (List.mem_range.mp hk))
    · congr 1
      refine List.map_congr_left (fun k hk => ?_)
      have := List.mem_range.mp hk
      show F (j + (k + 1)) = E (j + k)
      rw [h3 (j + (k + 1)) (by omega) (by omega)]
      congr 1
  have e2 : (List.range c).map E = (List.range j).map E ++ (List.range (c - j)).map (fun k => E (j + k)) := by
    conv => lhs; rw [show c = j + (c - j) from by omega, List.range_add, List.map_append, List.map_map]
    rfl
  rw [e1, e2]
  exact List.perm_middle
theorem pw_range {F : Nat → E3} {n : Nat} (h : ∀ i k, i < k → k < n → bef (F i) (F k)) : ((List.range n).map F).Pairwise bef := by
  refine List.pairwise_map.mpr ?_
  refine List.Pairwise.imp_of_mem ?_ List.pairwise_lt_range
  intro a b _ hb hab
  exact h a b hab (List.mem_range.mp hb)
theorem range_pw {F : Nat → E3} {n : Nat} (h : ((List.range n).map F).Pairwise bef) : ∀ i k, i < k → k < n → bef (F i) (F k) := by
  intro i k hik hk
  have h2 := List.pairwise_map.mp h
  have h3 := List.pairwise_iff_getElem.mp h2 i k (by rw [List.length_range]; omega) (by rw [List.length_range]; omega) hik
  rw [List.getElem_range, List.getElem_range] at h3
  exact h3
/-- part 59 goes to its place -/
theorem c_Parts_take {P : Nat} (hP : isP P) {S : Nat} (hS : S = 56 ∨ S = 59) {m0 : rz_M} {c : Nat} (hc : m0 P 4 = c) (hc6 : c < 6) {d e : Int} {x : E3} (hx : x = (cutf (m0 S), d, e)) (hs : (ptl m0 P).Pairwise bef) (hn : ∀ y ∈ ptl m0 P, x.1 ≠ y.1) {K : Int → rz_M → Prop} (h : ∀ m' : rz_M, (∀ i : Nat, i ≠ P → (i < P + 2 ∨ P + 9 < i) → m' i = m0 i) → (∀ y : Int, y ≠ 4 → m' P y = m0 P y) → m' P 4 = ((c + 1 : Nat) : Int) → (ptl m' P).Perm (x :: ptl m0 P) → (ptl m' P).Pairwise bef → K 0 m') : rz_C y_Parts_take [rR P, rR S, rI d, rI e] m0 K := by
  have pc := parts_c hP
  have P59 : P + 10 < S := by rcases hP with z | z | z <;> rcases hS with w | w <;> omega
  have i59 : isL S 7 := by rcases hS with z | z <;> subst z <;> exact ⟨by decide +kernel, by decide +kernel⟩
  have isx : ∀ k : Nat, k < 6 → isL (P + 2 + k) 7 := fun k hk => ⟨(parts_r hP k hk).2.1, by rw [(parts_r hP k hk).2.2]; decide⟩
  have el : ptl m0 P = (List.range c).map (elC m0 P) := by unfold ptl; rw [hc, Int.toNat_natCast]
  rw [el] at hs hn
  have so := range_pw hs
  have ne : ∀ k, k < c → x.1 ≠ (elC m0 P k).1 := fun k hk => hn _ (List.mem_map.mpr ⟨k, List.mem_range.mpr hk, rfl⟩)
  -- the hole at j
  have loop : ∀ (j : Nat) (M : rz_M), j ≤ c → (∀ i : Nat, (i < P + 2 ∨ P + 9 < i) → M i = m0 i) → (∀ k, k < j → elC M P k = elC m0 P k) → (∀ k, j < k → k ≤ c → elC M P k = elC m0 P (k - 1)) → (∀ k, j ≤ k → k < c → bef x (elC m0 P k)) → rz_E y_Parts_take 16 [rR P, rR S, rI d, rI e, rI (j : Int)] [] M K := by
    intro j
    -- the writing at its place
    have fin : ∀ (j : Nat) (M : rz_M), j ≤ c → (∀ i : Nat, (i < P + 2 ∨ P + 9 < i) → M i = m0 i) → (∀ k, k < j → elC M P k = elC m0 P k) → (∀ k, j < k → k ≤ c → elC M P k = elC m0 P (k - 1)) → (∀ k, j ≤ k → k < c → bef x (elC m0 P k)) → (∀ k, k < j → bef (elC m0 P k) x) → rz_E y_Parts_take 91 [rR P, rR S, rI d, rI e, rI (j : Int)] [] M K := by
      intro j M hj hf ha hb hbx hax
      have r := parts_r hP j (by omega)
      refine T_Parts_take_91 _ _ _ _ _ _ _ ?_
      rw [pc.2.1, pc.2.2.2.2.2.2.1, r.1, pc.2.2.1, pc.2.2.2.1, pc.2.2.2.2.2.2.2.2.1, pc.2.2.2.2.2.2.2.2.2.2]
      refine ⟨pc.1, pc.2.2.2.2.2.1, ⟨by omega, by omega⟩, c_RC_copy i59 (isx j (by omega)) ⟨pc.1, pc.2.2.2.2.2.2.2.1, ⟨by omega, by omega⟩, pc.1, pc.2.2.2.2.2.2.2.2.2.1, ⟨by omega, by omega⟩, pc.1, pc.1, ?_⟩⟩
      have e4 : rz_up (rz_up (wr M (P + 2 + j) 7 (M S)) (P + 8) j d) (P + 9) j e P 4 = c := by rw [up_ne (by omega), up_ne (by omega), wr_ne (by omega), hf P (by omega)]; exact hc
      rw [e4, w32_id (by omega) (by omega), show (c : Int) + 1 = ((c + 1 : Nat) : Int) from by omega]
      generalize hM : rz_up (rz_up (rz_up (wr M (P + 2 + j) 7 (M S)) (P + 8) j d) (P + 9) j e) P 4 ((c + 1 : Nat) : Int) = M'
      have q8 : ∀ y : Int, M' (P + 8) y = if y = j then d else M (P + 8) y := fun y => by
        rw [← hM, up_ne (by omega), up_ne (by omega)]
        by_cases z : y = j
        · rw [z, up_eq, if_pos rfl]
        · rw [up_nj z, if_neg z, wr_ne (by omega)]
      have q9 : ∀ y : Int, M' (P + 9) y = if y = j then e else M (P + 9) y := fun y => by
        rw [← hM, up_ne (by omega)]
        by_cases z : y = j
        · rw [z, up_eq, if_pos rfl]
        · rw [up_nj z, if_neg z, up_ne (by omega), wr_ne (by omega)]
      have qr : ∀ k : Nat, k < 6 → k ≠ j → M' (P + 2 + k) = M (P + 2 + k) := fun k hk hkj => by
        rw [← hM, up_ne (by omega), up_ne (by omega), up_ne (by omega), wr_ne (by omega)]
      have qj : ∀ y : Int, 0 ≤ y → y < 7 → M' (P + 2 + j) y = m0 S y := fun y y0 y1 => by
        rw [← hM, up_ne (by omega), up_ne (by omega), up_ne (by omega), wr_in y0 y1, hf S (by omega)]
      have ek : ∀ k : Nat, k < 6 → k ≠ j → elC M' P k = elC M P k := fun k hk hkj => elC_of (fun y _ _ => by rw [qr k hk hkj]) (by rw [q8, if_neg (by omega)]) (by rw [q9, if_neg (by omega)])
      have ej : elC M' P j = x := by
        rw [hx]
        unfold elC
        rw [q8, q9, if_pos rfl, if_pos rfl]
        congr 1
        exact canon_ext (cutf_canon _) (cutf_canon _) (fun y y0 y1 => by rw [cutf_in y0 y1, cutf_in y0 y1]; exact qj y y0 y1)
      have p4 : M' P 4 = ((c + 1 : Nat) : Int) := by rw [← hM]; exact up_eq
      have el' : ptl M' P = (List.range (c + 1)).map (elC M' P) := by unfold ptl; rw [p4, Int.toNat_natCast]
      have F1 : ∀ k, k < j → elC M' P k = elC m0 P k := fun k hk => by rw [ek k (by omega) (by omega)]; exact ha k hk
      have F3 : ∀ k, j < k → k ≤ c → elC M' P k = elC m0 P (k - 1) := fun k k0 k1 => by rw [ek k (by omega) (by omega)]; exact hb k k0 k1
      refine h M' (fun i i1 i2 => ?_) (fun y hy => ?_) p4 ?_ ?_
      · rw [← hM, up_ne i1, up_ne (by omega), up_ne (by omega), wr_ne (by omega)]
        exact hf i i2
      · rw [← hM, up_nj hy, up_ne (by omega), up_ne (by omega), wr_ne (by omega), hf P (by omega)]
      · rw [el', el]
        exact ins_list hj F1 ej F3
      · rw [el']
        refine pw_range (fun i k hik hk => ?_)
        rcases Nat.lt_trichotomy k j with q | q | q
        · rw [F1 i (by omega), F1 k q]
          exact so i k hik (by omega)
        · rw [q, ej, F1 i (by omega)]
          exact hax i (by omega)
        · rw [F3 k q (by omega)]
          rcases Nat.lt_trichotomy i j with z | z | z
          · rw [F1 i z]
            exact so i (k - 1) (by omega) (by omega)
          · rw [z, ej]
            exact hbx (k - 1) (by omega) (by omega)
          · rw [F3 i z (by omega)]
            exact so (i - 1) (k - 1) (by omega) (by omega)
    induction j with
    | zero =>
      intro M hj hf ha hb hbx
      exact T_Parts_take_16 _ _ _ _ _ _ _ (bt (by decide) (fin 0 M hj hf ha hb hbx (fun k hk => absurd hk (by omega))))
    | succ j ih =>
      intro M hj hf ha hb hbx
      refine T_Parts_take_16 _ _ _ _ _ _ _ (bf (by omega) ?_)
      rw [w32_id (z := ((j + 1 : Nat) : Int) - 1) (by omega) (by omega), show ((j + 1 : Nat) : Int) - 1 = (j : Int) from by omega]
      have e59 : M S = m0 S := hf S (by omega)
      have ex : (cutf (M S), d, e) = x := by rw [e59, hx]
      have ej0 : elC M P j = elC m0 P j := ha j (by omega)
      refine ⟨pc.1, c_Parts_isBefore hP hS (e := e) (by omega) (fun q => b1t ?_) (fun q => b0t ?_)⟩
      · rw [ex, ej0] at q
        rw [pc.2.1, pc.2.2.2.2.2.2.1, (parts_r hP j (by omega)).1, (parts_r hP (j + 1) (by omega)).1, pc.2.2.1, pc.2.2.2.1, pc.2.2.2.2.2.2.2.2.1, pc.2.2.2.2.2.2.2.2.2.2]
        refine ⟨pc.1, pc.2.2.2.2.2.1, ⟨by omega, by omega⟩, pc.1, pc.2.2.2.2.2.1, ⟨by omega, by omega⟩, c_RC_copy (isx j (by omega)) (isx (j + 1) (by omega)) ⟨pc.1, pc.1, pc.2.2.2.2.2.2.2.1, ⟨by omega, by omega⟩, pc.2.2.2.2.2.2.2.1, ⟨by omega, by omega⟩, pc.1, pc.1, pc.2.2.2.2.2.2.2.2.2.1, ⟨by omega, by omega⟩, pc.2.2.2.2.2.2.2.2.2.1, ⟨by omega, by omega⟩, T_Parts_take_85 _ _ _ _ _ _ _ ?_⟩⟩
        rw [w32_id (by omega) (by omega), show ((j + 1 : Nat) : Int) + -1 = (j : Int) from by omega]
        generalize hM : rz_up (rz_up (wr M (P + 2 + (j + 1)) 7 (M (P + 2 + j))) (P + 8) ((j + 1 : Nat) : Int) (wr M (P + 2 + (j + 1)) 7 (M (P + 2 + j)) (P + 8) (j : Int))) (P + 9) ((j + 1 : Nat) : Int) (rz_up (wr M (P + 2 + (j + 1)) 7 (M (P + 2 + j))) (P + 8) ((j + 1 : Nat) : Int) (wr M (P + 2 + (j + 1)) 7 (M (P + 2 + j)) (P + 8) (j : Int)) (P + 9) (j : Int)) = M'
        have q8 : ∀ y : Int, M' (P + 8) y = if y = ((j + 1 : Nat) : Int) then M (P + 8) j else M (P + 8) y := fun y => by
          rw [← hM, up_ne (by omega)]
          by_cases z : y = ((j + 1 : Nat) : Int)
          · rw [z, up_eq, if_pos rfl, wr_ne (by omega)]
          · rw [up_nj z, if_neg z, wr_ne (by omega)]
        have q9 : ∀ y : Int, M' (P + 9) y = if y = ((j + 1 : Nat) : Int) then M (P + 9) j else M (P + 9) y := fun y => by
          rw [← hM]
          by_cases z : y = ((j + 1 : Nat) : Int)
          · rw [z, up_eq, if_pos rfl, up_ne (by omega), wr_ne (by omega)]
          · rw [up_nj z, if_neg z, up_ne (by omega), wr_ne (by omega)]
        have qr : ∀ k : Nat, k < 6 → k ≠ j + 1 → M' (P + 2 + k) = M (P + 2 + k) := fun k hk hkj => by
          rw [← hM, up_ne (by omega), up_ne (by omega), wr_ne (by omega)]
        have qj : ∀ y : Int, 0 ≤ y → y < 7 → M' (P + 2 + (j + 1)) y = M (P + 2 + j) y := fun y y0 y1 => by
          rw [← hM, up_ne (by omega), up_ne (by omega), wr_in y0 y1]
        have ek : ∀ k : Nat, k < 6 → k ≠ j + 1 → elC M' P k = elC M P k := fun k hk hkj => elC_of (fun y _ _ => by rw [qr k hk hkj]) (by rw [q8, if_neg (by omega)]) (by rw [q9, if_neg (by omega)])
        have ej1 : elC M' P (j + 1) = elC M P j := elC_of qj (by rw [q8, if_pos rfl]) (by rw [q9, if_pos rfl])
        refine ih M' (by omega) (fun i hi => ?_) (fun k hk => by rw [ek k (by omega) (by omega)]; exact ha k (by omega)) (fun k k0 k1 => ?_) (fun k k0 k1 => ?_)
        · rw [← hM, up_ne (by omega), up_ne (by omega), wr_ne (by omega)]
          exact hf i hi
        · by_cases z : k = j + 1
          · subst z
            rw [ej1, ej0]
            rfl
          · rw [ek k (by omega) z]
            exact hb k (by omega) k1
        · by_cases z : k = j
          · subst z; exact q
          · exact hbx k (by omega) k1
      · rw [ex, ej0] at q
        refine fin (j + 1) M hj hf ha hb hbx (fun k hk => ?_)
        have cx : canon x.1 := by rw [hx]; exact cutf_canon _
        have b1 : bef (elC m0 P j) x := by
          rcases bef_to cx (cutf_canon _ : canon (elC m0 P j).1) (ne j (by omega)) with z | z
          · exact absurd z q
          · exact z
        by_cases z : k = j
        · subst z; exact b1
        · exact bef_tr (so k j (by omega) (by omega)) b1
  refine T_Parts_take_0 _ _ _ _ _ _ ⟨pc.1, ?_⟩
  rw [hc]
  exact bt (by omega) ⟨pc.1, loop c m0 (Nat.le_refl _) (fun _ _ => rfl) (fun _ _ => rfl) (fun k k0 k1 => by omega) (fun k k0 k1 => by omega)⟩
