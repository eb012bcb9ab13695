/-! the constructors: a second small machine, that makes cells and is computed; a world is the list of its cells in the order of their making -/
abbrev in_C : Type := Nat × Nat × List rz_V
structure in_T where
  pc : Nat
  ls : List rz_V
  st : List rz_V
  W : List in_C
  k : Nat
  n : Nat
def in_f : List (Nat × Nat × Nat) → Nat → Nat → Option Nat
  | [], _, _ => none
  | (x, y, z) :: r, a, b => bif Nat.beq x a && Nat.beq y b then some z else in_f r a b
theorem in_f_mem : ∀ {l : List (Nat × Nat × Nat)} {a b z : Nat}, in_f l a b = some z → (a, b, z) ∈ l
  | [], _, _, _, h => by cases h
  | (x, y, z) :: r, a, b, q, h => by
    unfold in_f at h
    cases e : Nat.beq x a && Nat.beq y b with
    | true =>
      rw [e] at h
      simp only [Bool.and_eq_true] at e
      have e1 := Nat.eq_of_beq_eq_true e.1
      have e2 := Nat.eq_of_beq_eq_true e.2
      subst e1; subst e2
      cases h
      exact List.mem_cons_self
    | false =>
      rw [e] at h
      exact List.mem_cons_of_mem _ (in_f_mem h)
/-- (class, index, constructor of this method); 1000: that of Object -/
def in_ol : List (Nat × Nat × Nat) := [(0, 1, 0), (1, 3, 0), (2, 3, 0), (3, 3, 0), (4, 3, 0), (5, 3, 0), (6, 1, 0), (7, 1, 0)]
def in_vl : List (Nat × Nat × Nat) := [(6, 43, 52), (6, 52, 45), (6, 59, 41), (9, 12, 119), (9, 9, 66)]
def in_nl : List (Nat × Nat × Nat) := [(6, 23, 19), (6, 36, 26), (3, 23, 0), (4, 21, 0)]
/-- (class, index, class that is made) -/
def in_cl : List (Nat × Nat × Nat) := [(6, 21, 1), (6, 34, 2), (6, 41, 5), (6, 50, 4), (6, 57, 3), (3, 9, 0), (4, 9, 0), (9, 10, 7), (9, 7, 6)]
def in_al : List (Nat × Nat × Nat) := [(3, 9, 0), (4, 9, 0)]
def in_ml : List (Nat × Nat × Nat) := [(6, 9, 0), (1, 9, 0)]
/-- frames, cells, slots, locals of a constructor; where it ends -/
def in_rm (y : Nat) : Nat × Nat × Nat × Nat := match y with
  | 0 => (1, 1, 40, 20)
  | 19 => (1, 10, 67, 20)
  | 26 => (1, 7, 55, 20)
  | 52 => (1, 8, 2076, 20)
  | 45 => (2, 106, 2292, 44)
  | 41 => (2, 49, 1010, 44)
  | 66 => (3, 300, 9000, 70)
  | 119 => (1, 27, 10200, 20)
  | _ => (10, 600000, 7302250, 424)
def in_end (y : Nat) : Nat := match y with
  | 0 => 12
  | 19 => 40
  | 26 => 60
  | 52 => 77
  | 45 => 84
  | 41 => 106
  | 66 => 118
  | 119 => 226
  | _ => 16
def in_vk (n : Nat) (v : rz_V) : Bool := match v with
  | .inr (.inr (.inl k)) => Nat.blt k n || Nat.ble 249 k
  | _ => true
def in_ck (n : Nat) (q : in_C) : Bool := q.2.2.all (in_vk n)
def in_ok (T : in_T) : Bool := T.ls.all (in_vk T.W.length) && (T.st.all (in_vk T.W.length) && T.W.all (in_ck T.W.length))
def in_def (c : Nat) : List rz_V := (List.range (rz_nf c)).map (fun k => match rz_ft c k with
  | 0 => rI 0
  | 1 => rL 0
  | _ => rX 0)
/-- a cell is made -/
def in_mk (y : Nat) (T : in_T) (pc : Nat) (r : List rz_V) (q : in_C) (n : Nat) : Option in_T :=
  bif in_ok T && (Nat.blt T.W.length 249 && (Nat.ble (T.k + 1) (in_rm y).2.1 && Nat.ble (T.n + n) (in_rm y).2.2.1)) then some ⟨pc, T.ls, rR T.W.length :: r, T.W ++ [q], T.k + 1, T.n + n⟩ else none
def in_1 (y : Nat) (T : in_T) : Option in_T := match (rz_p y T.pc).1 with
  | .iconst v => some { T with pc := T.pc + 1, st := rI v :: T.st }
  | .bipush v => some { T with pc := T.pc + 2, st := rI v :: T.st }
  | .sipush v => some { T with pc := T.pc + 3, st := rI v :: T.st }
  | .aload_n k => (match T.ls.getD k (rX 0) with
    | .inr (.inr (.inl z)) => some { T with pc := T.pc + 1, st := rR z :: T.st }
    | _ => none)
  | .iload_n k => (match T.ls.getD k (rX 0) with
    | .inl z => some { T with pc := T.pc + 1, st := rI z :: T.st }
    | _ => none)
  | .astore_n k => (match T.st with
    | .inr (.inr (.inl z)) :: r => bif Nat.blt k T.ls.length then some { T with pc := T.pc + 1, ls := rz_s1 T.ls k (rR z), st := r } else none
    | _ => none)
  | .istore_n k => (match T.st with
    | .inl z :: r => bif Nat.blt k T.ls.length then some { T with pc := T.pc + 1, ls := rz_s1 T.ls k (rI z), st := r } else none
    | _ => none)
  | .dup => (match T.st with
    | .inr (.inr (.inl z)) :: r => some { T with pc := T.pc + 1, st := rR z :: rR z :: r }
    | _ => none)
  | .iinc k d => (match T.ls.getD k (rX 0) with
    | .inl z => some { T with pc := T.pc + 3, ls := T.ls.set k (rI (w32 (z + d))) }
    | _ => none)
  | .goto _ => some { T with pc := (rz_p y T.pc).2.2 }
  | .if_icmp .ge _ => (match T.st with
    | .inl b :: .inl a :: r => some { T with pc := if b ≤ a then (rz_p y T.pc).2.2 else T.pc + 3, st := r }
    | _ => none)
  | .arraylength => (match T.st with
    | .inr (.inr (.inl a)) :: r => (match T.W[a]? with
      | some (2, n, _) => bif Nat.blt n 10000 then some { T with pc := T.pc + 1, st := rI n :: r } else none
      | _ => none)
    | _ => none)
  | .getfield k => (match T.st with
    | .inr (.inr (.inl o)) :: r => (match T.W[o]? with
      | some (c + 4, _, vs) => bif Nat.beq c (rz_lf (rz_mi y).1 k).1 && Nat.blt c 8 then (match vs[(rz_lf (rz_mi y).1 k).2]? with
        | some (.inr (.inr (.inl z))) => some { T with pc := T.pc + 3, st := rR z :: r }
        | _ => none) else none
      | _ => none)
    | _ => none)
  | .putfield k => (match T.st with
    | v :: .inr (.inr (.inl o)) :: r => (match T.W[o]? with
      | some (c + 4, n, vs) => bif Nat.beq c (rz_lf (rz_mi y).1 k).1 && (Nat.blt c 8 && (Nat.beq c (rz_mi y).1 && (Nat.blt (rz_lf (rz_mi y).1 k).2 vs.length && (Nat.blt y 212 && (match v with
          | .inl _ => Nat.beq (rz_ft c (rz_lf (rz_mi y).1 k).2) 0
          | .inr (.inr (.inl _)) => Nat.beq (rz_ft c (rz_lf (rz_mi y).1 k).2) 2
          | _ => false))))) then some { T with pc := T.pc + 3, st := r, W := T.W.set o (c + 4, n, vs.set (rz_lf (rz_mi y).1 k).2 v) } else none
      | _ => none)
    | _ => none)
  | .newarray t => (match T.st with
    | .inl z :: r => bif decide (0 ≤ z) && Nat.blt z.toNat 10000 then (match t with
      | .int => in_mk y T (T.pc + 2) r (0, z.toNat, []) z.toNat
      | .long => in_mk y T (T.pc + 2) r (1, z.toNat, []) z.toNat
      | _ => none) else none
    | _ => none)
  | .anewarray i => (match T.st with
    | .inl z :: r => bif decide (0 ≤ z) && Nat.blt z.toNat 10000 then (match in_f in_al (rz_mi y).1 i with
      | some _ => in_mk y T (T.pc + 3) r (2, z.toNat, List.replicate z.toNat (rX 0)) z.toNat
      | _ => none) else none
    | _ => none)
  | .new i => (match in_f in_cl (rz_mi y).1 i with
    | some c => in_mk y T (T.pc + 3) T.st (c + 4, 0, in_def c) (rz_nf c)
    | _ => none)
  | .multianewarray i 2 => (match T.st with
    | .inl k :: .inl n :: r => (match in_f in_ml (rz_mi y).1 i with
      | some _ => bif decide (0 ≤ k) && (decide (0 ≤ n) && (Nat.blt k.toNat 10000 && (Nat.blt n.toNat 10000 && (in_ok T && (Nat.ble (T.W.length + 1 + n.toNat) 249 && (Nat.ble (T.k + (1 + n.toNat)) (in_rm y).2.1 && Nat.ble (T.n + (n.toNat + n.toNat * k.toNat)) (in_rm y).2.2.1))))))
        then some ⟨T.pc + 4, T.ls, rR T.W.length :: r, T.W ++ (3, n.toNat, (List.range n.toNat).map (fun j => rR (T.W.length + 1 + j))) :: List.replicate n.toNat (1, k.toNat, []), T.k + (1 + n.toNat), T.n + (n.toNat + n.toNat * k.toNat)⟩ else none
      | _ => none)
    | _ => none)
  | .aastore => (match T.st with
    | .inr (.inr (.inl v)) :: .inl i :: .inr (.inr (.inl a)) :: r => (match T.W[a]?, T.W[v]? with
      | some (2, n, vs), some (4, _, _) => bif decide (0 ≤ i) && (Nat.blt i.toNat n && (Nat.blt i.toNat vs.length && Nat.blt n 10000)) then some { T with pc := T.pc + 1, st := r, W := T.W.set a (2, n, vs.set i.toNat (rR v)) } else none
      | _, _ => none)
    | _ => none)
  | _ => none
/-- a call of Object's constructor, or of one of ours -/
def in_go : Nat → Nat → in_T → Option in_T
  | 0, _, _ => none
  | f + 1, y, T => bif Nat.beq T.pc (in_end y) then some T else (match (rz_p y T.pc).1 with
    | .invokespecial i => (match in_f in_ol (rz_mi y).1 i with
      | some _ => (match T.st with
        | .inr (.inr (.inl _)) :: r => bif Nat.ble (rz_cats r) 8 then in_go f y { T with pc := T.pc + 3, st := r } else none
        | _ => none)
      | none => (match in_f (in_vl ++ in_nl) (rz_mi y).1 i with
        | some z => bif Nat.ble (rz_mi z).2.1 T.st.length && (Nat.ble (rz_cats (T.st.drop (rz_mi z).2.1)) 8 && (Nat.ble (rz_cats (T.st.take (rz_mi z).2.1).reverse) (rz_mi z).2.2.2 && (Nat.ble ((in_rm z).1 + 1) (in_rm y).1 && (Nat.ble (8 + ((rz_mi z).2.2.2 + 11) + (in_rm z).2.2.2) (in_rm y).2.2.2 && (Nat.ble (T.k + (in_rm z).2.1) (in_rm y).2.1 && Nat.ble (T.n + (in_rm z).2.2.1) (in_rm y).2.2.1)))))
          then (match in_go f z ⟨0, rz_L0 (rz_mi z).2.2.2 (T.st.take (rz_mi z).2.1).reverse, [], T.W, 0, 0⟩ with
          | some U => bif Nat.ble U.k (in_rm z).2.1 && Nat.ble U.n (in_rm z).2.2.1 then in_go f y ⟨T.pc + 3, T.ls, T.st.drop (rz_mi z).2.1, U.W, T.k + (in_rm z).2.1, T.n + (in_rm z).2.2.1⟩ else none
          | none => none) else none
        | none => none))
    | _ => (match in_1 y T with
      | some T' => in_go f y T'
      | none => none))
/-- the world's cell i is what rz_S and rz_R say, with nothing in it -/
def in_eq (i : Nat) (q : in_C) : Bool := match q with
  | (0, n, _) => Nat.beq (rz_S i).1 0 && Nat.beq (rz_S i).2 n
  | (1, n, _) => Nat.beq (rz_S i).1 1 && Nat.beq (rz_S i).2 n
  | (2, n, vs) => Nat.beq (rz_S i).1 2 && (Nat.beq (rz_S i).2 n && (List.range n).all (fun j => match vs[j]? with
    | some (.inr (.inr (.inl k))) => Nat.beq k (rz_R i j)
    | _ => false))
  | (3, n, vs) => Nat.beq (rz_S i).1 3 && (Nat.beq (rz_S i).2 n && (List.range n).all (fun j => match vs[j]? with
    | some (.inr (.inr (.inl k))) => Nat.beq k (rz_R i j)
    | _ => false))
  | (c + 4, _, vs) => Nat.beq (rz_S i).1 (c + 4) && (Nat.beq vs.length (rz_nf c) && (List.range (rz_nf c)).all (fun j => match rz_ft c j, vs[j]? with
    | 0, some (.inl z) => decide (z = (bif Nat.beq i 221 && Nat.beq j 17 then -1 else 0))
    | 1, some (.inr (.inl z)) => decide (z = 0)
    | 2, some (.inr (.inr (.inl k))) => Nat.beq k (rz_R i j)
    | _, _ => false))
def in_all : List in_C → Nat → Bool
  | [], _ => true
  | q :: r, i => in_eq i q && in_all r (i + 1)
def in_T0 : in_T := ⟨0, [rR 400, rX 0, rX 0, rX 0], [], [], 0, 0⟩
