/-! the machine of this proof: one instruction's meaning as a predicate transformer over whole numbers; memory: cell, place -> whole number. No cell is made. -/
abbrev rz_V : Type := Int ⊕ Int ⊕ Nat ⊕ Nat
abbrev rI (z : Int) : rz_V := .inl z
abbrev rL (z : Int) : rz_V := .inr (.inl z)
abbrev rR (k : Nat) : rz_V := .inr (.inr (.inl k))
abbrev rX (k : Nat) : rz_V := .inr (.inr (.inr k))
abbrev rz_M : Type := Nat → Int → Int
def w32 (z : Int) : Int := Int.bmod z 4294967296
def w64 (z : Int) : Int := Int.bmod z 18446744073709551616
def rz_up (m : rz_M) (a : Nat) (i v : Int) : rz_M := fun x y => if x = a ∧ y = i then v else m x y
def rz_cp (m : rz_M) (a : Nat) (sp : Int) (b : Nat) (dp n : Int) : rz_M := fun x y => if x = b ∧ dp ≤ y ∧ y < dp + n then m a (sp + (y - dp)) else m x y
def rz_abs (x : Int) : Int := if 0 < x then x else w64 (-x)
def rz_mx (a b : Int) : Int := if a < b then b else a
def rz_mn (a b : Int) : Int := if b < a then b else a
def rz_cmp (a b : Int) : Int := if a < b then -1 else if a = b then 0 else 1
def rz_cat (v : rz_V) : Nat := match v with | .inr (.inl _) => 2 | _ => 1
def rz_cats : List rz_V → Nat
  | [] => 0
  | v :: r => rz_cat v + rz_cats r
def rz_dl (v : rz_V) : rz_V := match v with
  | .inr (.inl _) => rX 0
  | v => v
/-- a word is stored at k; a long that began just ahead of it is gone -/
def rz_s1 : List rz_V → Nat → rz_V → List rz_V
  | [], _, _ => []
  | _ :: r, 0, v => v :: r
  | a :: r, k + 1, v => (match k with | 0 => rz_dl a | _ => a) :: rz_s1 r k v
def rz_s2 : List rz_V → Nat → rz_V → List rz_V
  | [], _, _ => []
  | _ :: [], 0, v => [v]
  | _ :: _ :: r, 0, v => v :: rX 1 :: r
  | a :: r, k + 1, v => (match k with | 0 => rz_dl a | _ => a) :: rz_s2 r k v
def rz_ex : List rz_V → List rz_V
  | [] => []
  | .inr (.inl z) :: r => rL z :: rX 1 :: rz_ex r
  | v :: r => v :: rz_ex r
def rz_L0 (n : Nat) (as : List rz_V) : List rz_V := rz_ex as ++ List.replicate (n - (rz_ex as).length) (rX 0)
def rz_pu (k : Nat) (z : Int) (st : List rz_V) : List rz_V := match k with
  | 0 => st
  | 1 => rI z :: st
  | 2 => rL z :: st
  | 3 => rR z.toNat :: st
  | _ => rI z :: st
def rz_isC (o c : Nat) : Bool := Nat.beq (rz_S o).1 (4 + c)
def rz_isK (o k : Nat) : Bool := Nat.beq (rz_S o).1 k
def rz_len (o : Nat) : Int := (rz_S o).2
def rz_in (i n : Int) : Prop := 0 ≤ i ∧ i < n
section RZM
variable (CH : Nat → List rz_V → rz_M → (Int → rz_M → Prop) → Prop) (y : Nat) (n t : Nat) (ls st : List rz_V) (m : rz_M) (P : Nat → List rz_V → List rz_V → rz_M → Prop) (Q : Int → rz_M → Prop)
def rz_ldi (k : Nat) : Prop := match ls.getD k (rX 0) with | .inl z => P n ls (rI z :: st) m | _ => False
def rz_ldl (k : Nat) : Prop := match ls.getD k (rX 0) with | .inr (.inl z) => P n ls (rL z :: st) m | _ => False
def rz_lda (k : Nat) : Prop := match ls.getD k (rX 0) with | .inr (.inr (.inl z)) => P n ls (rR z :: st) m | _ => False
def rz_sti (k : Nat) : Prop := match st with | .inl z :: r => bif Nat.blt k ls.length then P n (rz_s1 ls k (rI z)) r m else False | _ => False
def rz_stl (k : Nat) : Prop := match st with | .inr (.inl z) :: r => bif Nat.blt (k + 1) ls.length then P n (rz_s2 ls k (rL z)) r m else False | _ => False
def rz_sta (k : Nat) : Prop := match st with | .inr (.inr (.inl z)) :: r => bif Nat.blt k ls.length then P n (rz_s1 ls k (rR z)) r m else False | _ => False
def rz_b32 (f : Int → Int → Int) : Prop := match st with | .inl b :: .inl a :: r => P n ls (rI (f a b) :: r) m | _ => False
def rz_b64 (f : Int → Int → Int) : Prop := match st with | .inr (.inl b) :: .inr (.inl a) :: r => P n ls (rL (f a b) :: r) m | _ => False
def rz_d32 (f : Int → Int → Int) : Prop := match st with | .inl b :: .inl a :: r => b ≠ 0 ∧ P n ls (rI (f a b) :: r) m | _ => False
def rz_d64 (f : Int → Int → Int) : Prop := match st with | .inr (.inl b) :: .inr (.inl a) :: r => b ≠ 0 ∧ P n ls (rL (f a b) :: r) m | _ => False
def rz_h64 (f : Int → Int → Int) : Prop := match st with | .inl b :: .inr (.inl a) :: r => P n ls (rL (f a b) :: r) m | _ => False
def rz_u32 (f : Int → Int) : Prop := match st with | .inl a :: r => P n ls (rI (f a) :: r) m | _ => False
def rz_u64 (f : Int → Int) : Prop := match st with | .inr (.inl a) :: r => P n ls (rL (f a) :: r) m | _ => False
def rz_i2l : Prop := match st with | .inl a :: r => P n ls (rL a :: r) m | _ => False
def rz_l2i : Prop := match st with | .inr (.inl a) :: r => P n ls (rI (w32 a) :: r) m | _ => False
def rz_lcmp : Prop := match st with | .inr (.inl b) :: .inr (.inl a) :: r => P n ls (rI (rz_cmp a b) :: r) m | _ => False
def rz_con (c : Jvm.ClassFile.Cond) (a b : Int) : Prop := match c with | .eq => a = b | .ne => a ≠ b | .lt => a < b | .ge => b ≤ a | .gt => b < a | .le => a ≤ b
def rz_if1 (c : Jvm.ClassFile.Cond) : Prop := match st with | .inl a :: r => (rz_con c a 0 → P t ls r m) ∧ (¬ rz_con c a 0 → P n ls r m) | _ => False
def rz_if2 (c : Jvm.ClassFile.Cond) : Prop := match st with | .inl b :: .inl a :: r => (rz_con c a b → P t ls r m) ∧ (¬ rz_con c a b → P n ls r m) | _ => False
def rz_ald : Prop := match st with | .inl i :: .inr (.inr (.inl a)) :: r => bif rz_isK a 0 then rz_in i (rz_len a) ∧ P n ls (rI (m a i) :: r) m else False | _ => False
def rz_lald : Prop := match st with | .inl i :: .inr (.inr (.inl a)) :: r => bif rz_isK a 1 then rz_in i (rz_len a) ∧ P n ls (rL (m a i) :: r) m else False | _ => False
def rz_aald : Prop := match st with | .inl i :: .inr (.inr (.inl a)) :: r => bif (rz_isK a 2 || rz_isK a 3) then rz_in i (rz_len a) ∧ P n ls (rR (rz_R a i) :: r) m else False | _ => False
def rz_ast : Prop := match st with | .inl v :: .inl i :: .inr (.inr (.inl a)) :: r => bif rz_isK a 0 then rz_in i (rz_len a) ∧ P n ls r (rz_up m a i v) else False | _ => False
def rz_last : Prop := match st with | .inr (.inl v) :: .inl i :: .inr (.inr (.inl a)) :: r => bif rz_isK a 1 then rz_in i (rz_len a) ∧ P n ls r (rz_up m a i v) else False | _ => False
def rz_alen : Prop := match st with | .inr (.inr (.inl a)) :: r => bif (rz_isK a 0 || rz_isK a 1 || rz_isK a 2 || rz_isK a 3) then P n ls (rI (rz_len a) :: r) m else False | _ => False
/-- the law's script: cell 400, its length at place -1 -/
def rz_scr : Prop := match st with | .inl i :: .inr (.inr (.inl a)) :: r => bif Nat.beq a 400 then rz_in i (m 400 (-1)) ∧ P n ls (rI (m 400 i) :: r) m else False | _ => False
def rz_scl : Prop := match st with | .inr (.inr (.inl a)) :: r => bif Nat.beq a 400 then P n ls (rI (m 400 (-1)) :: r) m else False | _ => False
def rz_getf (c k : Nat) : Prop := match st with
  | .inr (.inr (.inl o)) :: r => bif rz_isC o c then (match c with
    | 8 => P n ls (rI (rz_kv (o - rz_NX) k) :: r) m
    | _ => (match rz_ft c k with
      | 0 => P n ls (rI (m o k) :: r) m
      | 1 => P n ls (rL (m o k) :: r) m
      | 2 => P n ls (rR (rz_R o k) :: r) m
      | 3 => 0 ≤ m o k ∧ P n ls (rR (m o k).toNat :: r) m
      | _ => False)) else False
  | _ => False
def rz_putf (c k : Nat) : Prop := match st with
  | .inl v :: .inr (.inr (.inl o)) :: r => bif (rz_isC o c && Nat.beq (rz_ft c k) 0 && Nat.blt c 8) then P n ls r (rz_up m o k v) else False
  | .inr (.inl v) :: .inr (.inr (.inl o)) :: r => bif (rz_isC o c && Nat.beq (rz_ft c k) 1 && Nat.blt c 8) then P n ls r (rz_up m o k v) else False
  | .inr (.inr (.inl v)) :: .inr (.inr (.inl o)) :: r => bif (rz_isC o c && Nat.beq (rz_ft c k) 3 && rz_isC v 1 && Nat.blt c 8) then P n ls r (rz_up m o k v) else False
  | _ => False
def rz_gets (q : Nat × Nat) : Prop := bif Nat.beq q.1 100 && Nat.blt q.2 11 then P n ls (rR (rz_NX + q.2) :: st) m else False
def rz_rcv (z : Nat) (as : List rz_V) : Bool := bif rz_stat z then true else match as with
  | .inr (.inr (.inl o)) :: _ => rz_isC o (rz_mi z).1
  | _ => false
def rz_cpy : Prop := match st with
  | .inl c :: .inl dp :: .inr (.inr (.inl b)) :: .inl sp :: .inr (.inr (.inl a)) :: r => bif (rz_isK a 1 && rz_isK b 1 && Nat.ble (rz_cats r) 8) then (0 ≤ sp ∧ 0 ≤ dp ∧ 0 ≤ c ∧ sp + c ≤ rz_len a ∧ dp + c ≤ rz_len b) ∧ P n ls r (rz_cp m a sp b dp c) else False
  | _ => False
def rz_jm (z : Nat) : Prop := match z with
  | 209 => (match st with | .inr (.inl a) :: r => bif Nat.ble (rz_cats r) 8 then P n ls (rL (rz_abs a) :: r) m else False | _ => False)
  | 210 => (match st with | .inl b :: .inl a :: r => bif Nat.ble (rz_cats r) 8 then P n ls (rI (rz_mx a b) :: r) m else False | _ => False)
  | _ => (match st with | .inl b :: .inl a :: r => bif Nat.ble (rz_cats r) 8 then P n ls (rI (rz_mn a b) :: r) m else False | _ => False)
def rz_calx (z : Nat) : Prop :=
  bif Nat.blt z 209 && Nat.ble (rz_mi z).2.1 st.length && rz_rcv z (st.take (rz_mi z).2.1).reverse && Nat.ble (rz_cats (st.drop (rz_mi z).2.1)) 8 && Nat.blt (rz_rk z).1 (rz_rk y).1 && Nat.ble (19 + (rz_mi z).2.2.2 + (rz_rk z).2) (rz_rk y).2 && Nat.ble (rz_cats (st.take (rz_mi z).2.1).reverse) (rz_mi z).2.2.2 then
    CH z (st.take (rz_mi z).2.1).reverse m (fun r m' => P n ls (rz_pu (rz_mi z).2.2.1 r (st.drop (rz_mi z).2.1)) m') else False
def rz_call (z : Nat) : Prop := bif Nat.beq z 300 then (bif Nat.blt 0 (rz_rk y).1 && Nat.ble 40 (rz_rk y).2 then rz_cpy n ls st m P else False)
  else bif Nat.blt 208 z && Nat.blt z 212 then (bif Nat.blt 0 (rz_rk y).1 && Nat.ble 21 (rz_rk y).2 then rz_jm n ls st m P z else False)
  else rz_calx CH y n ls st m P z
def rz_sw (offs : List Int) (pc : Nat) (lo x : Int) : Prop := match offs with
  | [] => True
  | o :: r => (x = lo → P ((pc : Int) + o).toNat ls st m) ∧ rz_sw r pc (lo + 1) x
def rz_tsw (pc : Nat) (d lo hi : Int) (offs : Array Int) : Prop := match st with
  | .inl x :: r => (x < lo ∨ hi < x → P ((pc : Int) + d).toNat ls r m) ∧ rz_sw ls r m P offs.toList pc lo x
  | _ => False
def rz_reti : Prop := match st with
  | [.inl z] => (match (rz_mi y).2.2.1 with
    | 1 => Q z m
    | 4 => (z = 0 ∨ z = 1) ∧ Q z m
    | _ => False)
  | _ => False
def rz_retl : Prop := match st with | [.inr (.inl z)] => bif Nat.beq (rz_mi y).2.2.1 2 then Q z m else False | _ => False
def rz_reta : Prop := match st with | [.inr (.inr (.inl z))] => bif Nat.beq (rz_mi y).2.2.1 3 && rz_isC z 8 then Q z m else False | _ => False
def rz_retv : Prop := match st with | [] => bif Nat.beq (rz_mi y).2.2.1 0 then Q 0 m else False | _ => False
def rz_sem (i : Instr) (pc : Nat) : Prop := match i with
  | .iconst v => P n ls (rI v :: st) m
  | .bipush v => P n ls (rI v :: st) m
  | .sipush v => P n ls (rI v :: st) m
  | .lconst v => P n ls (rL ((v : Nat) : Int) :: st) m
  | .ldc k => P n ls (rI (rz_lc (rz_mi y).1 k) :: st) m
  | .ldc_w k => P n ls (rI (rz_lc (rz_mi y).1 k) :: st) m
  | .ldc2_w k => P n ls (rL (rz_ll (rz_mi y).1 k) :: st) m
  | .iload k => rz_ldi n ls st m P k
  | .iload_n k => rz_ldi n ls st m P k
  | .lload k => rz_ldl n ls st m P k
  | .lload_n k => rz_ldl n ls st m P k
  | .aload k => rz_lda n ls st m P k
  | .aload_n k => rz_lda n ls st m P k
  | .istore k => rz_sti n ls st m P k
  | .istore_n k => rz_sti n ls st m P k
  | .lstore k => rz_stl n ls st m P k
  | .lstore_n k => rz_stl n ls st m P k
  | .astore k => rz_sta n ls st m P k
  | .astore_n k => rz_sta n ls st m P k
  | .iinc k c => (match ls.getD k (rX 0) with | .inl z => P n (ls.set k (rI (w32 (z + c)))) st m | _ => False)
  | .iadd => rz_b32 n ls st m P (fun a b => w32 (a + b))
  | .isub => rz_b32 n ls st m P (fun a b => w32 (a - b))
  | .imul => rz_b32 n ls st m P (fun a b => w32 (a * b))
  | .iand => rz_b32 n ls st m P (fun a b => (Int32.ofInt a &&& Int32.ofInt b).toInt)
  | .ior => rz_b32 n ls st m P (fun a b => (Int32.ofInt a ||| Int32.ofInt b).toInt)
  | .ishl => rz_b32 n ls st m P (fun a b => (Int32.ofInt a <<< (Int32.ofInt b &&& 31)).toInt)
  | .ishr => rz_b32 n ls st m P (fun a b => (Int32.ofInt a >>> (Int32.ofInt b &&& 31)).toInt)
  | .iushr => rz_b32 n ls st m P (fun a b => ((Int32.ofInt a).toUInt32 >>> ((Int32.ofInt b).toUInt32 &&& Int32.toUInt32 31)).toInt32.toInt)
  | .idiv => rz_d32 n ls st m P (fun a b => w32 (Int.tdiv a b))
  | .irem => rz_d32 n ls st m P (fun a b => Int.tmod a b)
  | .ineg => rz_u32 n ls st m P (fun a => w32 (-a))
  | .ladd => rz_b64 n ls st m P (fun a b => w64 (a + b))
  | .lsub => rz_b64 n ls st m P (fun a b => w64 (a - b))
  | .lmul => rz_b64 n ls st m P (fun a b => w64 (a * b))
  | .land => rz_b64 n ls st m P (fun a b => (Int64.ofInt a &&& Int64.ofInt b).toInt)
  | .lor => rz_b64 n ls st m P (fun a b => (Int64.ofInt a ||| Int64.ofInt b).toInt)
  | .ldiv => rz_d64 n ls st m P (fun a b => w64 (Int.tdiv a b))
  | .lrem => rz_d64 n ls st m P (fun a b => Int.tmod a b)
  | .lneg => rz_u64 n ls st m P (fun a => w64 (-a))
  | .lshl => rz_h64 n ls st m P (fun a b => (Int64.ofInt a <<< ((Int32.ofInt b).toInt64 &&& 63)).toInt)
  | .lshr => rz_h64 n ls st m P (fun a b => (Int64.ofInt a >>> ((Int32.ofInt b).toInt64 &&& 63)).toInt)
  | .lushr => rz_h64 n ls st m P (fun a b => ((Int64.ofInt a).toUInt64 >>> ((Int32.ofInt b).toInt64.toUInt64 &&& Int64.toUInt64 63)).toInt64.toInt)
  | .i2l => rz_i2l n ls st m P
  | .l2i => rz_l2i n ls st m P
  | .lcmp => rz_lcmp n ls st m P
  | .ifCond c _ => rz_if1 n t ls st m P c
  | .if_icmp c _ => rz_if2 n t ls st m P c
  | .goto _ => P t ls st m
  | .tableswitch d lo hi offs => rz_tsw ls st m P pc d lo hi offs
  | .iaload => bif Nat.beq y 212 then rz_scr n ls st m P else rz_ald n ls st m P
  | .laload => rz_lald n ls st m P
  | .aaload => rz_aald n ls st m P
  | .iastore => rz_ast n ls st m P
  | .lastore => rz_last n ls st m P
  | .arraylength => bif Nat.beq y 212 then rz_scl n ls st m P else rz_alen n ls st m P
  | .getfield k => rz_getf n ls st m P (rz_lf (rz_mi y).1 k).1 (rz_lf (rz_mi y).1 k).2
  | .putfield k => rz_putf n ls st m P (rz_lf (rz_mi y).1 k).1 (rz_lf (rz_mi y).1 k).2
  | .getstatic k => rz_gets n ls st m P (rz_lf (rz_mi y).1 k)
  | .invokevirtual k => rz_call CH y n ls st m P (rz_lm (rz_mi y).1 k)
  | .invokestatic k => rz_call CH y n ls st m P (rz_lm (rz_mi y).1 k)
  | .dup => (match st with | v :: r => bif Nat.beq (rz_cat v) 1 then P n ls (v :: v :: r) m else False | _ => False)
  | .dup2 => (match st with
    | .inr (.inl v) :: r => P n ls (rL v :: rL v :: r) m
    | .inl a :: .inr (.inr (.inl b)) :: r => P n ls (rI a :: rR b :: rI a :: rR b :: r) m
    | _ => False)
  | .dup_x1 => (match st with | .inl a :: .inr (.inr (.inl b)) :: r => P n ls (rI a :: rR b :: rI a :: r) m | _ => False)
  | .pop => (match st with | .inl _ :: r => P n ls r m | _ => False)
  | .pop2 => (match st with | .inr (.inl _) :: r => P n ls r m | _ => False)
  | .ireturn => rz_reti y st m Q
  | .lreturn => rz_retl y st m Q
  | .areturn => rz_reta y st m Q
  | .return_ => rz_retv y st m Q
  | _ => False
end RZM
/-- one step of method y at pc -/
def rz_st (CH : Nat → List rz_V → rz_M → (Int → rz_M → Prop) → Prop) (y pc : Nat) (ls st : List rz_V) (m : rz_M) (P : Nat → List rz_V → List rz_V → rz_M → Prop) (Q : Int → rz_M → Prop) : Prop :=
  rz_sem CH y (rz_p y pc).2.1 (rz_p y pc).2.2 ls st m P Q (rz_p y pc).1 pc
def rz_wk (ls' ls : List rz_V) : Prop := ls'.length = ls.length ∧ ∀ k : Nat, ls'[k]? = ls[k]? ∨ ls'[k]? = some (rX 0)
/-- what a step may use of X: its calls, with what lies behind them -/
def rz_CX (X : Nat → Nat → List rz_V → List rz_V → rz_M → (Int → rz_M → Prop) → Prop) (z : Nat) (as : List rz_V) (m : rz_M) (K : Int → rz_M → Prop) : Prop :=
  ∃ R : Int → rz_M → Prop, X z 0 (rz_L0 (rz_mi z).2.2.2 as) [] m R ∧ ∀ r m', R r m' → K r m'
def rz_cl (X : Nat → Nat → List rz_V → List rz_V → rz_M → (Int → rz_M → Prop) → Prop) : Prop :=
  ∀ (y pc : Nat) (ls st : List rz_V) (m : rz_M) (Q : Int → rz_M → Prop),
    (rz_st (rz_CX X) y pc ls st m (fun pc ls st m => X y pc ls st m Q) Q ∨ ∃ ls', rz_wk ls' ls ∧ X y pc ls' st m Q) → X y pc ls st m Q
/-- from here the method ends, and Q holds of its answer and the memory -/
def rz_E (y pc : Nat) (ls st : List rz_V) (m : rz_M) (Q : Int → rz_M → Prop) : Prop :=
  ∀ X : Nat → Nat → List rz_V → List rz_V → rz_M → (Int → rz_M → Prop) → Prop, rz_cl X → X y pc ls st m Q
/-- a call of method z -/
def rz_C (z : Nat) (as : List rz_V) (m : rz_M) (K : Int → rz_M → Prop) : Prop := rz_E z 0 (rz_L0 (rz_mi z).2.2.2 as) [] m K
