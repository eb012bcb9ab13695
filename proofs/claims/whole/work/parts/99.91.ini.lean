/-! the constructors: a second small machine, that makes cells and is computed; a world is the list of its cells in the order of their making -/
abbrev in_C : Type := Nat × Nat × List rz_V
/-- pc, locals, stack, cells, and how many cells and slots this frame has made -/
abbrev in_T : Type := Nat × List rz_V × List rz_V × List in_C × Nat × Nat
def in_f : List (Nat × Nat × Nat) → Nat → Nat → Option Nat
  | [], _, _ => none
  | (x, y, z) :: r, a, b => bif Nat.beq x a && Nat.beq y b then some z else in_f r a b
theorem in_f_mem : ∀ {l : List (Nat × Nat × Nat)} {a b z : Nat}, in_f l a b = some z → (a, b, z) ∈ l
  | [], _, _, _, h => by cases h
  | (x, y, z) :: r, a, b, q, h => by
    unfold in_f at h
    cases e : Nat.beq x a && Nat.beq y b with
    | true =>
      rw [e] at h
      simp only [Bool.and_eq_true] at e
      have e1 := Nat.eq_of_beq_eq_true e.1
      have e2 := Nat.eq_of_beq_eq_true e.2
      subst e1; subst e2
      cases h
      exact List.mem_cons_self
    | false =>
      rw [e] at h
      exact List.mem_cons_of_mem _ (in_f_mem h)
/-- (class, index) of Object's constructor -/
def in_ol : List (Nat × Nat × Nat) := [(0, 1, 0), (1, 3, 0), (2, 3, 0), (3, 3, 0), (4, 3, 0), (5, 3, 0), (6, 1, 0), (7, 1, 0)]
/-- (class, index, constructor): by a link, by a nest mate's link -/
def in_vl : List (Nat × Nat × Nat) := [(6, 43, 52), (6, 52, 45), (6, 59, 41), (9, 12, 119), (9, 9, 66)]
def in_nl : List (Nat × Nat × Nat) := [(6, 23, 19), (6, 36, 26), (5, 38, 19), (3, 23, 0), (4, 21, 0)]
/-- (class, index, class that is made) -/
def in_cl : List (Nat × Nat × Nat) := [(6, 21, 1), (5, 36, 1), (6, 34, 2), (6, 41, 5), (6, 50, 4), (6, 57, 3), (3, 9, 0), (4, 9, 0), (9, 10, 7), (9, 7, 6)]
def in_al : List (Nat × Nat × Nat) := [(3, 9, 0), (4, 9, 0)]
def in_ml : List (Nat × Nat × Nat) := [(6, 9, 0), (1, 9, 0)]
/-- frames, cells, slots, locals of a constructor -/
def in_rm (y : Nat) : Nat × Nat × Nat × Nat := match y with
  | 0 => (1, 1, 40, 20)
  | 19 => (1, 10, 67, 20)
  | 26 => (1, 7, 55, 20)
  | 52 => (2, 19, 2149, 44)
  | 45 => (2, 106, 2292, 44)
  | 41 => (2, 49, 1010, 44)
  | 66 => (3, 300, 9000, 70)
  | 119 => (1, 27, 10200, 20)
  | _ => (10, 600000, 7302250, 424)
/-- where it ends -/
def in_end (y : Nat) : Nat := match y with
  | 0 => 12
  | 19 => 40
  | 26 => 67
  | 52 => 88
  | 45 => 84
  | 41 => 106
  | 66 => 118
  | 119 => 226
  | _ => 16
def in_vk (n : Nat) (v : rz_V) : Bool := match v with
  | .inr (.inr (.inl k)) => Nat.blt k n || Nat.ble 300 k
  | _ => true
def in_vs (n : Nat) (l : List rz_V) : Bool := l.all (in_vk n)
def in_ok (ls st : List rz_V) (W : List in_C) : Bool := in_vs W.length ls && (in_vs W.length st && W.all (fun q => in_vs W.length q.2.2))
def in_def (c : Nat) : List rz_V := (List.range (rz_nf c)).map (fun k => match rz_ft c k with
  | 0 => rI 0
  | 1 => rL 0
  | _ => rX 0)
/-- a cell is made -/
def in_mk (y pc : Nat) (ls st : List rz_V) (W : List in_C) (k n : Nat) (q : in_C) (d : Nat) : Option in_T :=
  bif in_ok ls st W && (in_vs W.length q.2.2 && (Nat.blt W.length 260 && (Nat.ble (k + 1) (in_rm y).2.1 && Nat.ble (n + d) (in_rm y).2.2.1))) then some (pc, ls, rR W.length :: st, W ++ [q], k + 1, n + d) else none
def in_ld (pc : Nat) (ls st : List rz_V) (W : List in_C) (k n : Nat) (i : Nat) (w : Bool) : Option in_T := match ls.getD i (rX 0) with
  | .inl z => bif w then none else some (pc, ls, rI z :: st, W, k, n)
  | .inr (.inr (.inl z)) => bif w then some (pc, ls, rR z :: st, W, k, n) else none
  | _ => none
def in_st (pc : Nat) (ls st : List rz_V) (W : List in_C) (k n : Nat) (i : Nat) (w : Bool) : Option in_T := match st with
  | .inl z :: r => bif w then none else (bif Nat.blt i ls.length then some (pc, rz_s1 ls i (rI z), r, W, k, n) else none)
  | .inr (.inr (.inl z)) :: r => bif w then (bif Nat.blt i ls.length then some (pc, rz_s1 ls i (rR z), r, W, k, n) else none) else none
  | _ => none
def in_alen (pc : Nat) (ls st : List rz_V) (W : List in_C) (k n : Nat) : Option in_T := match st with
  | .inr (.inr (.inl a)) :: r => (match W[a]? with
    | some (2, x, _) => bif Nat.blt x 10000 then some (pc, ls, rI x :: r, W, k, n) else none
    | _ => none)
  | _ => none
def in_get (pc : Nat) (ls st : List rz_V) (W : List in_C) (k n : Nat) (q : Nat × Nat) : Option in_T := match st with
  | .inr (.inr (.inl o)) :: r => (match W[o]? with
    | some (c + 4, _, vs) => bif Nat.beq c q.1 && Nat.blt c 8 then (match vs[q.2]? with
      | some (.inr (.inr (.inl z))) => some (pc, ls, rR z :: r, W, k, n)
      | _ => none) else none
    | _ => none)
  | _ => none
/-- does the value fit the field -/
def in_pt (t : FieldType) (v : rz_V) : Bool := match t, v with
  | .int, .inl _ => true
  | .long, .inr (.inl _) => true
  | .object _, .inr (.inr (.inl _)) => true
  | .array _, .inr (.inr (.inl _)) => true
  | _, _ => false
def in_put (y pc : Nat) (ls st : List rz_V) (W : List in_C) (k n : Nat) (q : Nat × Nat) : Option in_T := match st with
  | v :: .inr (.inr (.inl o)) :: r => (match W[o]? with
    | some (c + 4, x, vs) => bif Nat.beq c q.1 && (Nat.blt c 8 && (Nat.beq c (rz_mi y).1 && (Nat.blt q.2 vs.length && (Nat.blt y 212 && in_pt (rz_yt c q.2) v)))) then some (pc, ls, r, W.set o (c + 4, x, vs.set q.2 v), k, n) else none
    | _ => none)
  | _ => none
def in_na (y pc : Nat) (ls st : List rz_V) (W : List in_C) (k n : Nat) (t : ArrayType) : Option in_T := match st with
  | .inl z :: r => bif decide (0 ≤ z) && Nat.blt z.toNat 10000 then (match t with
    | .int => in_mk y pc ls r W k n (0, z.toNat, []) z.toNat
    | .long => in_mk y pc ls r W k n (1, z.toNat, []) z.toNat
    | _ => none) else none
  | _ => none
def in_aa (y pc : Nat) (ls st : List rz_V) (W : List in_C) (k n : Nat) (o : Option Nat) : Option in_T := match st, o with
  | .inl z :: r, some _ => bif decide (0 ≤ z) && Nat.blt z.toNat 10000 then in_mk y pc ls r W k n (2, z.toNat, List.replicate z.toNat (rX 0)) z.toNat else none
  | _, _ => none
def in_nw (y pc : Nat) (ls st : List rz_V) (W : List in_C) (k n : Nat) (o : Option Nat) : Option in_T := match o with
  | some c => in_mk y pc ls st W k n (c + 4, 0, in_def c) (rz_nf c)
  | _ => none
def in_mu (y pc : Nat) (ls st : List rz_V) (W : List in_C) (k n : Nat) (o : Option Nat) : Option in_T := match st, o with
  | .inl b :: .inl a :: r, some _ => bif decide (0 ≤ b) && (decide (0 ≤ a) && (Nat.blt b.toNat 10000 && (Nat.blt a.toNat 10000 && (in_ok ls r W && (Nat.ble (W.length + 1 + a.toNat) 260 && (Nat.ble (k + (1 + a.toNat)) (in_rm y).2.1 && Nat.ble (n + (a.toNat + a.toNat * b.toNat)) (in_rm y).2.2.1))))))
    then some (pc, ls, rR W.length :: r, W ++ ((3, a.toNat, (List.range a.toNat).map (fun j => rR (W.length + 1 + j))) :: List.replicate a.toNat (1, b.toNat, [])), k + 1 + a.toNat, n + a.toNat + a.toNat * b.toNat) else none
  | _, _ => none
def in_as (pc : Nat) (ls st : List rz_V) (W : List in_C) (k n : Nat) : Option in_T := match st with
  | .inr (.inr (.inl v)) :: .inl i :: .inr (.inr (.inl a)) :: r => (match W[a]?, W[v]? with
    | some (2, x, vs), some (4, _, _) => bif decide (0 ≤ i) && (Nat.blt i.toNat x && (Nat.blt i.toNat vs.length && Nat.blt x 10000)) then some (pc, ls, r, W.set a (2, x, vs.set i.toNat (rR v)), k, n) else none
    | _, _ => none)
  | _ => none
def in_1 (y : Nat) (T : in_T) : Option in_T := match T with
  | (pc, ls, st, W, k, n) => (match (rz_p y pc).1 with
    | .iconst v => some (pc + 1, ls, rI v :: st, W, k, n)
    | .bipush v => some (pc + 2, ls, rI v :: st, W, k, n)
    | .sipush v => some (pc + 3, ls, rI v :: st, W, k, n)
    | .lconst v => some (pc + 1, ls, rL ((v : Nat) : Int) :: st, W, k, n)
    | .ldc2_w i => some (pc + 3, ls, rL (rz_ll (rz_mi y).1 i) :: st, W, k, n)
    | .aload_n i => in_ld (pc + 1) ls st W k n i true
    | .iload_n i => in_ld (pc + 1) ls st W k n i false
    | .astore_n i => in_st (pc + 1) ls st W k n i true
    | .istore_n i => in_st (pc + 1) ls st W k n i false
    | .dup => (match st with
      | .inr (.inr (.inl z)) :: r => some (pc + 1, ls, rR z :: rR z :: r, W, k, n)
      | _ => none)
    | .iinc i d => (match ls.getD i (rX 0) with
      | .inl z => some (pc + 3, ls.set i (rI (w32 (z + d))), st, W, k, n)
      | _ => none)
    | .goto _ => some ((rz_p y pc).2.2, ls, st, W, k, n)
    | .if_icmp c _ => (match c, st with
      | .ge, .inl b :: .inl a :: r => some (bif decide (b ≤ a) then (rz_p y pc).2.2 else pc + 3, ls, r, W, k, n)
      | _, _ => none)
    | .arraylength => in_alen (pc + 1) ls st W k n
    | .getfield i => in_get (pc + 3) ls st W k n (rz_lf (rz_mi y).1 i)
    | .putfield i => in_put y (pc + 3) ls st W k n (rz_lf (rz_mi y).1 i)
    | .newarray t => in_na y (pc + 2) ls st W k n t
    | .anewarray i => in_aa y (pc + 3) ls st W k n (in_f in_al (rz_mi y).1 i)
    | .new i => in_nw y (pc + 3) ls st W k n (in_f in_cl (rz_mi y).1 i)
    | .multianewarray i d => bif Nat.beq d 2 then in_mu y (pc + 4) ls st W k n (in_f in_ml (rz_mi y).1 i) else none
    | .aastore => in_as (pc + 1) ls st W k n
    | _ => none)
/-- may z be called from y with st on the stack -/
def in_cok (y z : Nat) (ls st : List rz_V) (W : List in_C) (k n : Nat) : Bool :=
  Nat.ble 1 (rz_mi z).2.1 && (Nat.ble (rz_mi z).2.1 st.length && (in_ok ls st W && (Nat.ble (rz_cats (st.drop (rz_mi z).2.1)) 8 && (Nat.ble (rz_cats (st.take (rz_mi z).2.1).reverse) (rz_mi z).2.2.2 && (Nat.ble ((in_rm z).1 + 1) (in_rm y).1 && (Nat.ble (8 + ((rz_mi z).2.2.2 + 11) + (in_rm z).2.2.2) (in_rm y).2.2.2 && (Nat.ble (k + (in_rm z).2.1) (in_rm y).2.1 && (Nat.ble (n + (in_rm z).2.2.1) (in_rm y).2.2.1 && (match (st.take (rz_mi z).2.1).reverse with
    | .inr (.inr (.inl _)) :: _ => true
    | _ => false)))))))))
/-- one step, or a call of Object's constructor, or of one of ours; go: the machine with less fuel -/
def in_bd (go : Nat → in_T → Option in_T) (y : Nat) (T : in_T) : Option in_T := match T with
  | (pc, ls, st, W, k, n) => bif Nat.beq pc (in_end y) then some (pc, ls, st, W, k, n) else (match (rz_p y pc).1 with
    | .invokespecial i => (match in_f in_ol (rz_mi y).1 i with
      | some _ => (match st with
        | .inr (.inr (.inl _)) :: r => bif Nat.ble (rz_cats r) 8 then go y (pc + 3, ls, r, W, k, n) else none
        | _ => none)
      | none => (match in_f (in_vl ++ in_nl) (rz_mi y).1 i with
        | some z => bif in_cok y z ls st W k n
          then (match go z (0, rz_L0 (rz_mi z).2.2.2 (st.take (rz_mi z).2.1).reverse, [], W, 0, 0) with
          | some (_, _, st2, W2, k2, n2) => bif Nat.ble k2 (in_rm z).2.1 && (Nat.ble n2 (in_rm z).2.2.1 && Nat.beq st2.length 0) then go y (pc + 3, ls, st.drop (rz_mi z).2.1, W2, k + (in_rm z).2.1, n + (in_rm z).2.2.1) else none
          | none => none) else none
        | none => none))
    | _ => (match in_1 y (pc, ls, st, W, k, n) with
      | some T => go y T
      | none => none))
def in_go : Nat → Nat → in_T → Option in_T
  | 0, _, _ => none
  | f + 1, y, T => in_bd (in_go f) y T
def in_m (i j : Nat) : Int := bif Nat.beq i 221 && Nat.beq j 17 then -1 else bif Nat.beq i 55 && Nat.beq j 9 then 300 else bif Nat.beq i 47 && Nat.beq j 7 then 2 else 0
/-- the walk's cells in the list of those that the constructors make: 11 are left out behind the 64th, the splitter's first parts (300 is their own cell); the constants of Kind stand from 349 on -/
def in_po (i : Nat) : Nat := bif Nat.blt i 64 then i else bif Nat.blt i 249 then i + 11 else bif Nat.blt i 260 then i + 100 else bif Nat.beq i 300 then 64 else i
def in_pi (i : Nat) : Nat := bif Nat.blt i 64 then i else i - 11
def in_gb (i : Nat) : Bool := Nat.ble 64 i && Nat.blt i 75
/-- the world's cell i is what rz_S and rz_R say, with nothing in it -/
def in_eq (i : Nat) (q : in_C) : Bool := match q with
  | (0, n, _) => Nat.beq (rz_S i).1 0 && Nat.beq (rz_S i).2 n
  | (1, n, _) => Nat.beq (rz_S i).1 1 && Nat.beq (rz_S i).2 n
  | (2, n, vs) => Nat.beq (rz_S i).1 2 && (Nat.beq (rz_S i).2 n && (List.range n).all (fun j => match vs[j]? with
    | some (.inr (.inr (.inl k))) => Nat.beq k (in_po (rz_R i j))
    | _ => false))
  | (3, n, vs) => Nat.beq (rz_S i).1 3 && (Nat.beq (rz_S i).2 n && (List.range n).all (fun j => match vs[j]? with
    | some (.inr (.inr (.inl k))) => Nat.beq k (in_po (rz_R i j))
    | _ => false))
  | (c + 4, _, vs) => Nat.beq (rz_S i).1 (c + 4) && (Nat.beq vs.length (rz_nf c) && (List.range (rz_nf c)).all (fun j => match rz_ft c j, vs[j]? with
    | 0, some (.inl z) => decide (z = in_m i j)
    | 1, some (.inr (.inl z)) => decide (z = in_m i j)
    | 2, some (.inr (.inr (.inl k))) => Nat.beq k (in_po (rz_R i j))
    | 3, some (.inr (.inr (.inr _))) => decide (in_m i j < 0)
    | 3, some (.inr (.inr (.inl k))) => decide (¬ in_m i j < 0) && Nat.beq k (in_po (in_m i j).toNat)
    | _, _ => false))
def in_all : List in_C → Nat → Bool
  | [], _ => true
  | q :: r, i => (in_gb i || in_eq (in_pi i) q) && in_all r (i + 1)
def in_T0 : in_T := (0, [rR 400, rX 0, rX 0, rX 0], [], [], 0, 0)
def in_is (l : List rz_V) (m : List Nat) : Bool := match l, m with
  | [], [] => true
  | .inr (.inr (.inl k)) :: r, q :: s => Nat.beq k q && in_is r s
  | _, _ => false
/-- the law's frame behind both constructors -/
def in_fin (o : Option in_T) : Bool := match o with
  | some (pc, ls, st, W, k, n) => Nat.beq pc 16 && (in_is (ls.take 3) [400, 0, 232] && (Nat.beq ls.length 4 && (Nat.beq st.length 0 && (Nat.beq W.length 260 && (in_all W 0 && (Nat.ble k 600000 && Nat.ble n 7302250))))))
  | none => false
