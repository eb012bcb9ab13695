/-! facts of fields, constants, links by class (by gen/mk17.py) -/
def rz_Tt (c : Nat) : u_T := match c with
  | 0 => rz_T0
  | 1 => rz_T1
  | 2 => rz_T2
  | 3 => rz_T3
  | 4 => rz_T4
  | 5 => rz_T5
  | 6 => rz_T6
  | _ => rz_T7
def rz_yt (c : Nat) : Nat → FieldType := match c with
  | 0 => rz_y0
  | 1 => rz_y1
  | 2 => rz_y2
  | 3 => rz_y3
  | 4 => rz_y4
  | 5 => rz_y5
  | 6 => rz_y6
  | _ => rz_y7
theorem cls_at : ∀ c, c < 8 → rz_cls[c]? = some (rz_cn c, rz_Tt c, rz_nf c)
  | 0, _ => rfl
  | 1, _ => rfl
  | 2, _ => rfl
  | 3, _ => rfl
  | 4, _ => rfl
  | 5, _ => rfl
  | 6, _ => rfl
  | 7, _ => rfl
  | c + 8, h => absurd h (by omega)
theorem cls_nm : ∀ c, c < 8 → ∀ a, a < rz_nf c → ∀ b, b < rz_nf c → a ≠ b → (rz_Tt c a).2.1 ≠ (rz_Tt c b).2.1
  | 0, _ => rz_nm0
  | 1, _ => rz_nm1
  | 2, _ => rz_nm2
  | 3, _ => rz_nm3
  | 4, _ => rz_nm4
  | 5, _ => rz_nm5
  | 6, _ => rz_nm6
  | 7, _ => rz_nm7
  | c + 8, h => absurd h (by omega)
theorem cls_yo : ∀ c, c < 8 → ∀ k, k < rz_nf c → parseFieldDescriptor (rz_Tt c k).2.2.1 = some (rz_yt c k)
  | 0, _ => rz_yo0
  | 1, _ => rz_yo1
  | 2, _ => rz_yo2
  | 3, _ => rz_yo3
  | 4, _ => rz_yo4
  | 5, _ => rz_yo5
  | 6, _ => rz_yo6
  | 7, _ => rz_yo7
  | c + 8, h => absurd h (by omega)
def rz_mut (c k : Nat) : Bool := (Nat.beq (rz_ft c k) 0 && decide (rz_yt c k = .int) || Nat.beq (rz_ft c k) 1 && decide (rz_yt c k = .long) || Nat.beq (rz_ft c k) 3 && decide (rz_yt c k = .object "RootChanges$Parts")) && !(rz_Tt c k).2.2.2
theorem cls_ft : ∀ c, c < 8 → ∀ k, k < rz_nf c → rz_ft c k = 2 ∨ rz_mut c k = true := by decide +kernel
set_option maxRecDepth 20000 in
theorem ws_in0 : ∀ q ∈ u_ws (rz_cn 0) (rz_Tt 0) (rz_nf 0), q ∈ lw_tbl := by
  have e : u_ws (rz_cn 0) (rz_Tt 0) (rz_nf 0) = [Cond.laysFinal "RootChanges$Big" "RootChanges$Big" "digits" "[J", Cond.lays "RootChanges$Big" "RootChanges$Big" "size" "I", Cond.lays "RootChanges$Big" "RootChanges$Big" "sign" "I"] := by decide +kernel
  rw [e]
  exact List.forall_mem_cons.mpr ⟨rz_nth 228 (by decide +kernel), List.forall_mem_cons.mpr ⟨rz_nth 230 (by decide +kernel), List.forall_mem_cons.mpr ⟨rz_nth 232 (by decide +kernel), fun _ h => absurd h List.not_mem_nil⟩⟩⟩
set_option maxRecDepth 20000 in
theorem ws_in1 : ∀ q ∈ u_ws (rz_cn 1) (rz_Tt 1) (rz_nf 1), q ∈ lw_tbl := by
  have e : u_ws (rz_cn 1) (rz_Tt 1) (rz_nf 1) = [Cond.laysFinal "RootChanges$Parts" "RootChanges$Parts" "numbers" "[[J", Cond.laysFinal "RootChanges$Parts" "RootChanges$Parts" "degrees" "[I", Cond.laysFinal "RootChanges$Parts" "RootChanges$Parts" "often" "[I", Cond.laysFinal "RootChanges$Parts" "RootChanges$Parts" "grown" "[J", Cond.lays "RootChanges$Parts" "RootChanges$Parts" "found" "I", Cond.lays "RootChanges$Parts" "RootChanges$Parts" "content" "J"] := by decide +kernel
  rw [e]
  exact List.forall_mem_cons.mpr ⟨rz_nth 123 (by decide +kernel), List.forall_mem_cons.mpr ⟨rz_nth 125 (by decide +kernel), List.forall_mem_cons.mpr ⟨rz_nth 127 (by decide +kernel), List.forall_mem_cons.mpr ⟨rz_nth 129 (by decide +kernel), List.forall_mem_cons.mpr ⟨rz_nth 131 (by decide +kernel), List.forall_mem_cons.mpr ⟨rz_nth 133 (by decide +kernel), fun _ h => absurd h List.not_mem_nil⟩⟩⟩⟩⟩⟩
set_option maxRecDepth 20000 in
theorem ws_in2 : ∀ q ∈ u_ws (rz_cn 2) (rz_Tt 2) (rz_nf 2), q ∈ lw_tbl := by
  have e : u_ws (rz_cn 2) (rz_Tt 2) (rz_nf 2) = [Cond.laysFinal "RootChanges$PrimeView" "RootChanges$PrimeView" "whole" "[J", Cond.laysFinal "RootChanges$PrimeView" "RootChanges$PrimeView" "step" "[J", Cond.laysFinal "RootChanges$PrimeView" "RootChanges$PrimeView" "firstStep" "[J", Cond.laysFinal "RootChanges$PrimeView" "RootChanges$PrimeView" "before" "[J", Cond.laysFinal "RootChanges$PrimeView" "RootChanges$PrimeView" "left" "[J", Cond.laysFinal "RootChanges$PrimeView" "RootChanges$PrimeView" "right" "[J", Cond.laysFinal "RootChanges$PrimeView" "RootChanges$PrimeView" "product" "[J", Cond.lays "RootChanges$PrimeView" "RootChanges$PrimeView" "p" "J"] := by decide +kernel
  rw [e]
  exact List.forall_mem_cons.mpr ⟨rz_nth 153 (by decide +kernel), List.forall_mem_cons.mpr ⟨rz_nth 155 (by decide +kernel), List.forall_mem_cons.mpr ⟨rz_nth 157 (by decide +kernel), List.forall_mem_cons.mpr ⟨rz_nth 159 (by decide +kernel), List.forall_mem_cons.mpr ⟨rz_nth 161 (by decide +kernel), List.forall_mem_cons.mpr ⟨rz_nth 163 (by decide +kernel), List.forall_mem_cons.mpr ⟨rz_nth 165 (by decide +kernel), List.forall_mem_cons.mpr ⟨rz_nth 167 (by decide +kernel), fun _ h => absurd h List.not_mem_nil⟩⟩⟩⟩⟩⟩⟩⟩
set_option maxRecDepth 20000 in
theorem ws_in3 : ∀ q ∈ u_ws (rz_cn 3) (rz_Tt 3) (rz_nf 3), q ∈ lw_tbl := by
  have e : u_ws (rz_cn 3) (rz_Tt 3) (rz_nf 3) = [Cond.laysFinal "RootChanges$RootAdder" "RootChanges$RootAdder" "ones" "[LRootChanges$Big;", Cond.laysFinal "RootChanges$RootAdder" "RootChanges$RootAdder" "others" "[LRootChanges$Big;", Cond.laysFinal "RootChanges$RootAdder" "RootChanges$RootAdder" "sums" "[LRootChanges$Big;", Cond.laysFinal "RootChanges$RootAdder" "RootChanges$RootAdder" "total" "LRootChanges$Big;", Cond.laysFinal "RootChanges$RootAdder" "RootChanges$RootAdder" "term" "LRootChanges$Big;"] := by decide +kernel
  rw [e]
  exact List.forall_mem_cons.mpr ⟨rz_nth 267 (by decide +kernel), List.forall_mem_cons.mpr ⟨rz_nth 269 (by decide +kernel), List.forall_mem_cons.mpr ⟨rz_nth 271 (by decide +kernel), List.forall_mem_cons.mpr ⟨rz_nth 273 (by decide +kernel), List.forall_mem_cons.mpr ⟨rz_nth 275 (by decide +kernel), fun _ h => absurd h List.not_mem_nil⟩⟩⟩⟩⟩
set_option maxRecDepth 20000 in
theorem ws_in4 : ∀ q ∈ u_ws (rz_cn 4) (rz_Tt 4) (rz_nf 4), q ∈ lw_tbl := by
  have e : u_ws (rz_cn 4) (rz_Tt 4) (rz_nf 4) = [Cond.laysFinal "RootChanges$SignChain" "RootChanges$SignChain" "numbers" "[LRootChanges$Big;", Cond.laysFinal "RootChanges$SignChain" "RootChanges$SignChain" "degrees" "[I", Cond.laysFinal "RootChanges$SignChain" "RootChanges$SignChain" "value" "LRootChanges$Big;", Cond.laysFinal "RootChanges$SignChain" "RootChanges$SignChain" "one" "LRootChanges$Big;", Cond.laysFinal "RootChanges$SignChain" "RootChanges$SignChain" "other" "LRootChanges$Big;", Cond.lays "RootChanges$SignChain" "RootChanges$SignChain" "length" "I"] := by decide +kernel
  rw [e]
  exact List.forall_mem_cons.mpr ⟨rz_nth 241 (by decide +kernel), List.forall_mem_cons.mpr ⟨rz_nth 243 (by decide +kernel), List.forall_mem_cons.mpr ⟨rz_nth 245 (by decide +kernel), List.forall_mem_cons.mpr ⟨rz_nth 247 (by decide +kernel), List.forall_mem_cons.mpr ⟨rz_nth 249 (by decide +kernel), List.forall_mem_cons.mpr ⟨rz_nth 251 (by decide +kernel), fun _ h => absurd h List.not_mem_nil⟩⟩⟩⟩⟩⟩
set_option maxRecDepth 20000 in
theorem ws_in5 : ∀ q ∈ u_ws (rz_cn 5) (rz_Tt 5) (rz_nf 5), q ∈ lw_tbl := by
  have e : u_ws (rz_cn 5) (rz_Tt 5) (rz_nf 5) = [Cond.laysFinal "RootChanges$Splitter" "RootChanges$Splitter" "primeView" "LRootChanges$PrimeView;", Cond.laysFinal "RootChanges$Splitter" "RootChanges$Splitter" "rest" "[J", Cond.laysFinal "RootChanges$Splitter" "RootChanges$Splitter" "work" "[J", Cond.laysFinal "RootChanges$Splitter" "RootChanges$Splitter" "quotient" "[J", Cond.laysFinal "RootChanges$Splitter" "RootChanges$Splitter" "part" "[J", Cond.laysFinal "RootChanges$Splitter" "RootChanges$Splitter" "lasts" "[J", Cond.laysFinal "RootChanges$Splitter" "RootChanges$Splitter" "firsts" "[J", Cond.laysFinal "RootChanges$Splitter" "RootChanges$Splitter" "atOnes" "[J", Cond.laysFinal "RootChanges$Splitter" "RootChanges$Splitter" "atMinusOnes" "[J", Cond.lays "RootChanges$Splitter" "RootChanges$Splitter" "parts" "LRootChanges$Parts;", Cond.lays "RootChanges$Splitter" "RootChanges$Splitter" "restDegree" "I"] := by decide +kernel
  rw [e]
  exact List.forall_mem_cons.mpr ⟨rz_nth 189 (by decide +kernel), List.forall_mem_cons.mpr ⟨rz_nth 191 (by decide +kernel), List.forall_mem_cons.mpr ⟨rz_nth 193 (by decide +kernel), List.forall_mem_cons.mpr ⟨rz_nth 195 (by decide +kernel), List.forall_mem_cons.mpr ⟨rz_nth 197 (by decide +kernel), List.forall_mem_cons.mpr ⟨rz_nth 199 (by decide +kernel), List.forall_mem_cons.mpr ⟨rz_nth 201 (by decide +kernel), List.forall_mem_cons.mpr ⟨rz_nth 203 (by decide +kernel), List.forall_mem_cons.mpr ⟨rz_nth 205 (by decide +kernel), List.forall_mem_cons.mpr ⟨rz_nth 207 (by decide +kernel), List.forall_mem_cons.mpr ⟨rz_nth 209 (by decide +kernel), fun _ h => absurd h List.not_mem_nil⟩⟩⟩⟩⟩⟩⟩⟩⟩⟩⟩
set_option maxRecDepth 20000 in
theorem ws_in6 : ∀ q ∈ u_ws (rz_cn 6) (rz_Tt 6) (rz_nf 6), q ∈ lw_tbl := by
  have e : u_ws (rz_cn 6) (rz_Tt 6) (rz_nf 6) = [Cond.laysFinal "RootChanges" "RootChanges" "rows" "[[J", Cond.laysFinal "RootChanges" "RootChanges" "made" "[J", Cond.laysFinal "RootChanges" "RootChanges" "rootPowers" "[J", Cond.laysFinal "RootChanges" "RootChanges" "latest" "LRootChanges$Parts;", Cond.laysFinal "RootChanges" "RootChanges" "ownParts" "LRootChanges$Parts;", Cond.laysFinal "RootChanges" "RootChanges" "otherParts" "LRootChanges$Parts;", Cond.laysFinal "RootChanges" "RootChanges" "primeView" "LRootChanges$PrimeView;", Cond.laysFinal "RootChanges" "RootChanges" "splitter" "LRootChanges$Splitter;", Cond.laysFinal "RootChanges" "RootChanges" "chain" "LRootChanges$SignChain;", Cond.laysFinal "RootChanges" "RootChanges" "rootAdder" "LRootChanges$RootAdder;", Cond.lays "RootChanges" "RootChanges" "refusal" "I"] := by decide +kernel
  rw [e]
  exact List.forall_mem_cons.mpr ⟨rz_nth 289 (by decide +kernel), List.forall_mem_cons.mpr ⟨rz_nth 291 (by decide +kernel), List.forall_mem_cons.mpr ⟨rz_nth 293 (by decide +kernel), List.forall_mem_cons.mpr ⟨rz_nth 295 (by decide +kernel), List.forall_mem_cons.mpr ⟨rz_nth 297 (by decide +kernel), List.forall_mem_cons.mpr ⟨rz_nth 299 (by decide +kernel), List.forall_mem_cons.mpr ⟨rz_nth 301 (by decide +kernel), List.forall_mem_cons.mpr ⟨rz_nth 303 (by decide +kernel), List.forall_mem_cons.mpr ⟨rz_nth 305 (by decide +kernel), List.forall_mem_cons.mpr ⟨rz_nth 307 (by decide +kernel), List.forall_mem_cons.mpr ⟨rz_nth 309 (by decide +kernel), fun _ h => absurd h List.not_mem_nil⟩⟩⟩⟩⟩⟩⟩⟩⟩⟩⟩
set_option maxRecDepth 20000 in
theorem ws_in7 : ∀ q ∈ u_ws (rz_cn 7) (rz_Tt 7) (rz_nf 7), q ∈ lw_tbl := by
  have e : u_ws (rz_cn 7) (rz_Tt 7) (rz_nf 7) = [Cond.lays "RootChangesModel" "RootChangesModel" "thrown" "I", Cond.lays "RootChangesModel" "RootChangesModel" "status" "I", Cond.laysFinal "RootChangesModel" "RootChangesModel" "c" "[J", Cond.laysFinal "RootChangesModel" "RootChangesModel" "made" "[J", Cond.laysFinal "RootChangesModel" "RootChangesModel" "left" "[J", Cond.lays "RootChangesModel" "RootChangesModel" "leftDegree" "I", Cond.laysFinal "RootChangesModel" "RootChangesModel" "f" "[J", Cond.laysFinal "RootChangesModel" "RootChangesModel" "fDegree" "[I", Cond.laysFinal "RootChangesModel" "RootChangesModel" "fOften" "[I", Cond.lays "RootChangesModel" "RootChangesModel" "fMany" "I", Cond.lays "RootChangesModel" "RootChangesModel" "content" "J", Cond.laysFinal "RootChangesModel" "RootChangesModel" "trial" "[J", Cond.laysFinal "RootChangesModel" "RootChangesModel" "rest" "[J", Cond.laysFinal "RootChangesModel" "RootChangesModel" "quotient" "[J", Cond.laysFinal "RootChangesModel" "RootChangesModel" "kept" "[J", Cond.laysFinal "RootChangesModel" "RootChangesModel" "keptDegree" "[I", Cond.laysFinal "RootChangesModel" "RootChangesModel" "keptOften" "[I", Cond.lays "RootChangesModel" "RootChangesModel" "keptMany" "I", Cond.lays "RootChangesModel" "RootChangesModel" "keptContent" "J", Cond.laysFinal "RootChangesModel" "RootChangesModel" "g" "[J", Cond.laysFinal "RootChangesModel" "RootChangesModel" "gDegree" "[I", Cond.laysFinal "RootChangesModel" "RootChangesModel" "gOften" "[I", Cond.lays "RootChangesModel" "RootChangesModel" "gMany" "I", Cond.laysFinal "RootChangesModel" "RootChangesModel" "sum" "[J", Cond.laysFinal "RootChangesModel" "RootChangesModel" "otherSum" "[J", Cond.lays "RootChangesModel" "RootChangesModel" "p" "J", Cond.laysFinal "RootChangesModel" "RootChangesModel" "m" "[J", Cond.lays "RootChangesModel" "RootChangesModel" "mDegree" "I", Cond.laysFinal "RootChangesModel" "RootChangesModel" "x" "[J", Cond.laysFinal "RootChangesModel" "RootChangesModel" "y" "[J", Cond.laysFinal "RootChangesModel" "RootChangesModel" "u" "[J", Cond.laysFinal "RootChangesModel" "RootChangesModel" "v" "[J", Cond.laysFinal "RootChangesModel" "RootChangesModel" "base" "[J", Cond.laysFinal "RootChangesModel" "RootChangesModel" "one" "[J", Cond.lays "RootChangesModel" "RootChangesModel" "roots" "I", Cond.laysFinal "RootChangesModel" "RootChangesModel" "big" "[I", Cond.laysFinal "RootChangesModel" "RootChangesModel" "sign" "[I", Cond.lays "RootChangesModel" "RootChangesModel" "chain" "I", Cond.laysFinal "RootChangesModel" "RootChangesModel" "chainDegree" "[I"] := by decide +kernel
  rw [e]
  exact List.forall_mem_cons.mpr ⟨rz_nth 874 (by decide +kernel), List.forall_mem_cons.mpr ⟨rz_nth 876 (by decide +kernel), List.forall_mem_cons.mpr ⟨rz_nth 878 (by decide +kernel), List.forall_mem_cons.mpr ⟨rz_nth 880 (by decide +kernel), List.forall_mem_cons.mpr ⟨rz_nth 882 (by decide +kernel), List.forall_mem_cons.mpr ⟨rz_nth 884 (by decide +kernel), List.forall_mem_cons.mpr ⟨rz_nth 886 (by decide +kernel), List.forall_mem_cons.mpr ⟨rz_nth 888 (by decide +kernel), List.forall_mem_cons.mpr ⟨rz_nth 890 (by decide +kernel), List.forall_mem_cons.mpr ⟨rz_nth 892 (by decide +kernel), List.forall_mem_cons.mpr ⟨rz_nth 894 (by decide +kernel), List.forall_mem_cons.mpr ⟨rz_nth 896 (by decide +kernel), List.forall_mem_cons.mpr ⟨rz_nth 898 (by decide +kernel), List.forall_mem_cons.mpr ⟨rz_nth 900 (by decide +kernel), List.forall_mem_cons.mpr ⟨rz_nth 902 (by decide +kernel), List.forall_mem_cons.mpr ⟨rz_nth 904 (by decide +kernel), List.forall_mem_cons.mpr ⟨rz_nth 906 (by decide +kernel), List.forall_mem_cons.mpr ⟨rz_nth 908 (by decide +kernel), List.forall_mem_cons.mpr ⟨rz_nth 910 (by decide +kernel), List.forall_mem_cons.mpr ⟨rz_nth 912 (by decide +kernel), List.forall_mem_cons.mpr ⟨rz_nth 914 (by decide +kernel), List.forall_mem_cons.mpr ⟨rz_nth 916 (by decide +kernel), List.forall_mem_cons.mpr ⟨rz_nth 918 (by decide +kernel), List.forall_mem_cons.mpr ⟨rz_nth 920 (by decide +kernel), List.forall_mem_cons.mpr ⟨rz_nth 922 (by decide +kernel), List.forall_mem_cons.mpr ⟨rz_nth 924 (by decide +kernel), List.forall_mem_cons.mpr ⟨rz_nth 926 (by decide +kernel), List.forall_mem_cons.mpr ⟨rz_nth 928 (by decide +kernel), List.forall_mem_cons.mpr ⟨rz_nth 930 (by decide +kernel), List.forall_mem_cons.mpr ⟨rz_nth 932 (by decide +kernel), List.forall_mem_cons.mpr ⟨rz_nth 934 (by decide +kernel), List.forall_mem_cons.mpr ⟨rz_nth 936 (by decide +kernel), List.forall_mem_cons.mpr ⟨rz_nth 938 (by decide +kernel), List.forall_mem_cons.mpr ⟨rz_nth 940 (by decide +kernel), List.forall_mem_cons.mpr ⟨rz_nth 942 (by decide +kernel), List.forall_mem_cons.mpr ⟨rz_nth 944 (by decide +kernel), List.forall_mem_cons.mpr ⟨rz_nth 946 (by decide +kernel), List.forall_mem_cons.mpr ⟨rz_nth 948 (by decide +kernel), List.forall_mem_cons.mpr ⟨rz_nth 950 (by decide +kernel), fun _ h => absurd h List.not_mem_nil⟩⟩⟩⟩⟩⟩⟩⟩⟩⟩⟩⟩⟩⟩⟩⟩⟩⟩⟩⟩⟩⟩⟩⟩⟩⟩⟩⟩⟩⟩⟩⟩⟩⟩⟩⟩⟩⟩⟩
theorem ws_in : ∀ c, c < 8 → ∀ q ∈ u_ws (rz_cn c) (rz_Tt c) (rz_nf c), q ∈ lw_tbl
  | 0, _ => ws_in0
  | 1, _ => ws_in1
  | 2, _ => ws_in2
  | 3, _ => ws_in3
  | 4, _ => ws_in4
  | 5, _ => ws_in5
  | 6, _ => ws_in6
  | 7, _ => ws_in7
  | c + 8, h => absurd h (by omega)
def rz_kn5 (k : Nat) : String := (bif Nat.blt k 2 then (bif Nat.blt k 1 then "fields" else "swaps") else (bif Nat.blt k 3 then "doubleSwaps" else (bif Nat.blt k 4 then "threeRings" else "fourRings")))
def rz_kst (k : Nat) : String := (bif Nat.blt k 5 then (bif Nat.blt k 2 then (bif Nat.blt k 1 then "STILL" else "ONE_SWAP") else (bif Nat.blt k 3 then "JOINT_SWAPS" else (bif Nat.blt k 4 then "FREE_SWAPS" else "THREE_RING"))) else (bif Nat.blt k 8 then (bif Nat.blt k 6 then "THREE_ALL" else (bif Nat.blt k 7 then "FOUR_PAIRS" else "FOUR_RING")) else (bif Nat.blt k 9 then "FOUR_SQUARE" else (bif Nat.blt k 10 then "FOUR_EVEN" else "FOUR_ALL"))))
def rz_lff (q : Nat × Nat) : Prop := (match (rz_lf q.1 q.2).1 with
  | 8 => (rz_lf q.1 q.2).2 < 5 ∧ Cond.fieldLink (rz_cn q.1) q.2 "RootChanges$Kind" (rz_kn5 (rz_lf q.1 q.2).2) "I" ∈ lw_tbl
  | 100 => (rz_lf q.1 q.2).2 < 11 ∧ Cond.fieldLink (rz_cn q.1) q.2 "RootChanges$Kind" (rz_kst (rz_lf q.1 q.2).2) "LRootChanges$Kind;" ∈ lw_tbl
  | c => c < 8 ∧ (rz_lf q.1 q.2).2 < rz_nf c ∧ Cond.fieldLink (rz_cn q.1) q.2 (rz_cn c) (rz_Tt c (rz_lf q.1 q.2).2).2.1 (rz_Tt c (rz_lf q.1 q.2).2).2.2.1 ∈ lw_tbl)
theorem fl_6_11 : rz_lff (6, 11) := ⟨by decide, by decide, rz_nth 278 (by decide +kernel)⟩
theorem fl_6_14 : rz_lff (6, 14) := ⟨by decide, by decide, rz_nth 279 (by decide +kernel)⟩
theorem fl_6_18 : rz_lff (6, 18) := ⟨by decide, by decide, rz_nth 280 (by decide +kernel)⟩
theorem fl_6_24 : rz_lff (6, 24) := ⟨by decide, by decide, rz_nth 281 (by decide +kernel)⟩
theorem fl_6_28 : rz_lff (6, 28) := ⟨by decide, by decide, rz_nth 282 (by decide +kernel)⟩
theorem fl_6_31 : rz_lff (6, 31) := ⟨by decide, by decide, rz_nth 283 (by decide +kernel)⟩
theorem fl_6_37 : rz_lff (6, 37) := ⟨by decide, by decide, rz_nth 284 (by decide +kernel)⟩
theorem fl_6_46 : rz_lff (6, 46) := ⟨by decide, by decide, rz_nth 285 (by decide +kernel)⟩
theorem fl_6_53 : rz_lff (6, 53) := ⟨by decide, by decide, rz_nth 286 (by decide +kernel)⟩
theorem fl_6_60 : rz_lff (6, 60) := ⟨by decide, by decide, rz_nth 287 (by decide +kernel)⟩
theorem fl_6_64 : rz_lff (6, 64) := ⟨by decide, by decide, rz_nth 288 (by decide +kernel)⟩
theorem ll_6_80 : Cond.constantLong (rz_cn 6) 80 (Int64.ofInt (rz_ll 6 80)) ∈ lw_tbl ∧ (-9223372036854775808 ≤ rz_ll 6 80 ∧ rz_ll 6 80 < 9223372036854775808) := ⟨rz_nth 331 (by decide +kernel), by decide⟩
theorem fl_6_138 : rz_lff (6, 138) := ⟨by decide, by decide, rz_nth 120 (by decide +kernel)⟩
theorem fl_6_141 : rz_lff (6, 141) := ⟨by decide, by decide, rz_nth 122 (by decide +kernel)⟩
theorem fl_6_145 : rz_lff (6, 145) := ⟨by decide, by decide, rz_nth 115 (by decide +kernel)⟩
theorem fl_6_149 : rz_lff (6, 149) := ⟨by decide, by decide, rz_nth 117 (by decide +kernel)⟩
theorem fl_6_152 : rz_lff (6, 152) := ⟨by decide, by decide, rz_nth 113 (by decide +kernel)⟩
theorem fl_6_175 : rz_lff (6, 175) := ⟨by decide, rz_nth 1309 (by decide +kernel)⟩
theorem ll_6_216 : Cond.constantLong (rz_cn 6) 216 (Int64.ofInt (rz_ll 6 216)) ∈ lw_tbl ∧ (-9223372036854775808 ≤ rz_ll 6 216 ∧ rz_ll 6 216 < 9223372036854775808) := ⟨rz_nth 364 (by decide +kernel), by decide⟩
theorem ll_6_218 : Cond.constantLong (rz_cn 6) 218 (Int64.ofInt (rz_ll 6 218)) ∈ lw_tbl ∧ (-9223372036854775808 ≤ rz_ll 6 218 ∧ rz_ll 6 218 < 9223372036854775808) := ⟨rz_nth 365 (by decide +kernel), by decide⟩
theorem ll_6_224 : Cond.constantLong (rz_cn 6) 224 (Int64.ofInt (rz_ll 6 224)) ∈ lw_tbl ∧ (-9223372036854775808 ≤ rz_ll 6 224 ∧ rz_ll 6 224 < 9223372036854775808) := ⟨rz_nth 322 (by decide +kernel), by decide⟩
theorem ll_6_226 : Cond.constantLong (rz_cn 6) 226 (Int64.ofInt (rz_ll 6 226)) ∈ lw_tbl ∧ (-9223372036854775808 ≤ rz_ll 6 226 ∧ rz_ll 6 226 < 9223372036854775808) := ⟨rz_nth 323 (by decide +kernel), by decide⟩
theorem ll_6_240 : Cond.constantLong (rz_cn 6) 240 (Int64.ofInt (rz_ll 6 240)) ∈ lw_tbl ∧ (-9223372036854775808 ≤ rz_ll 6 240 ∧ rz_ll 6 240 < 9223372036854775808) := ⟨rz_nth 704 (by decide +kernel), by decide⟩
theorem ll_6_245 : Cond.constantLong (rz_cn 6) 245 (Int64.ofInt (rz_ll 6 245)) ∈ lw_tbl ∧ (-9223372036854775808 ≤ rz_ll 6 245 ∧ rz_ll 6 245 < 9223372036854775808) := ⟨rz_nth 690 (by decide +kernel), by decide⟩
theorem ll_6_247 : Cond.constantLong (rz_cn 6) 247 (Int64.ofInt (rz_ll 6 247)) ∈ lw_tbl ∧ (-9223372036854775808 ≤ rz_ll 6 247 ∧ rz_ll 6 247 < 9223372036854775808) := ⟨rz_nth 691 (by decide +kernel), by decide⟩
theorem ll_6_249 : Cond.constantLong (rz_cn 6) 249 (Int64.ofInt (rz_ll 6 249)) ∈ lw_tbl ∧ (-9223372036854775808 ≤ rz_ll 6 249 ∧ rz_ll 6 249 < 9223372036854775808) := ⟨rz_nth 692 (by decide +kernel), by decide⟩
theorem ll_6_251 : Cond.constantLong (rz_cn 6) 251 (Int64.ofInt (rz_ll 6 251)) ∈ lw_tbl ∧ (-9223372036854775808 ≤ rz_ll 6 251 ∧ rz_ll 6 251 < 9223372036854775808) := ⟨rz_nth 693 (by decide +kernel), by decide⟩
theorem ll_6_253 : Cond.constantLong (rz_cn 6) 253 (Int64.ofInt (rz_ll 6 253)) ∈ lw_tbl ∧ (-9223372036854775808 ≤ rz_ll 6 253 ∧ rz_ll 6 253 < 9223372036854775808) := ⟨rz_nth 694 (by decide +kernel), by decide⟩
theorem ll_6_255 : Cond.constantLong (rz_cn 6) 255 (Int64.ofInt (rz_ll 6 255)) ∈ lw_tbl ∧ (-9223372036854775808 ≤ rz_ll 6 255 ∧ rz_ll 6 255 < 9223372036854775808) := ⟨rz_nth 695 (by decide +kernel), by decide⟩
theorem ll_6_257 : Cond.constantLong (rz_cn 6) 257 (Int64.ofInt (rz_ll 6 257)) ∈ lw_tbl ∧ (-9223372036854775808 ≤ rz_ll 6 257 ∧ rz_ll 6 257 < 9223372036854775808) := ⟨rz_nth 696 (by decide +kernel), by decide⟩
theorem ll_6_259 : Cond.constantLong (rz_cn 6) 259 (Int64.ofInt (rz_ll 6 259)) ∈ lw_tbl ∧ (-9223372036854775808 ≤ rz_ll 6 259 ∧ rz_ll 6 259 < 9223372036854775808) := ⟨rz_nth 697 (by decide +kernel), by decide⟩
theorem fl_6_261 : rz_lff (6, 261) := ⟨by decide, rz_nth 680 (by decide +kernel)⟩
theorem fl_6_269 : rz_lff (6, 269) := ⟨by decide, rz_nth 709 (by decide +kernel)⟩
theorem fl_6_272 : rz_lff (6, 272) := ⟨by decide, rz_nth 711 (by decide +kernel)⟩
theorem fl_6_279 : rz_lff (6, 279) := ⟨by decide, rz_nth 685 (by decide +kernel)⟩
theorem fl_6_286 : rz_lff (6, 286) := ⟨by decide, rz_nth 705 (by decide +kernel)⟩
theorem fl_6_289 : rz_lff (6, 289) := ⟨by decide, rz_nth 707 (by decide +kernel)⟩
theorem fl_6_296 : rz_lff (6, 296) := ⟨by decide, rz_nth 719 (by decide +kernel)⟩
theorem fl_6_299 : rz_lff (6, 299) := ⟨by decide, rz_nth 721 (by decide +kernel)⟩
theorem fl_6_302 : rz_lff (6, 302) := ⟨by decide, rz_nth 723 (by decide +kernel)⟩
theorem fl_6_308 : rz_lff (6, 308) := ⟨by decide, rz_nth 728 (by decide +kernel)⟩
theorem fl_6_311 : rz_lff (6, 311) := ⟨by decide, rz_nth 730 (by decide +kernel)⟩
theorem fl_0_9 : rz_lff (0, 9) := ⟨by decide, by decide, rz_nth 225 (by decide +kernel)⟩
theorem fl_0_13 : rz_lff (0, 13) := ⟨by decide, by decide, rz_nth 227 (by decide +kernel)⟩
theorem fl_0_23 : rz_lff (0, 23) := ⟨by decide, by decide, rz_nth 226 (by decide +kernel)⟩
theorem ll_0_32 : Cond.constantLong (rz_cn 0) 32 (Int64.ofInt (rz_ll 0 32)) ∈ lw_tbl ∧ (-9223372036854775808 ≤ rz_ll 0 32 ∧ rz_ll 0 32 < 9223372036854775808) := ⟨rz_nth 597 (by decide +kernel), by decide⟩
theorem fl_8_60 : rz_lff (8, 60) := ⟨by decide, rz_nth 1305 (by decide +kernel)⟩
theorem fl_8_63 : rz_lff (8, 63) := ⟨by decide, rz_nth 1306 (by decide +kernel)⟩
theorem fl_8_66 : rz_lff (8, 66) := ⟨by decide, rz_nth 1307 (by decide +kernel)⟩
theorem fl_8_69 : rz_lff (8, 69) := ⟨by decide, rz_nth 1308 (by decide +kernel)⟩
theorem fl_1_11 : rz_lff (1, 11) := ⟨by decide, by decide, rz_nth 112 (by decide +kernel)⟩
theorem fl_1_16 : rz_lff (1, 16) := ⟨by decide, by decide, rz_nth 114 (by decide +kernel)⟩
theorem fl_1_20 : rz_lff (1, 20) := ⟨by decide, by decide, rz_nth 116 (by decide +kernel)⟩
theorem fl_1_23 : rz_lff (1, 23) := ⟨by decide, by decide, rz_nth 118 (by decide +kernel)⟩
theorem fl_1_27 : rz_lff (1, 27) := ⟨by decide, by decide, rz_nth 119 (by decide +kernel)⟩
theorem fl_1_31 : rz_lff (1, 31) := ⟨by decide, by decide, rz_nth 121 (by decide +kernel)⟩
theorem fl_2_9 : rz_lff (2, 9) := ⟨by decide, by decide, rz_nth 145 (by decide +kernel)⟩
theorem fl_2_15 : rz_lff (2, 15) := ⟨by decide, by decide, rz_nth 146 (by decide +kernel)⟩
theorem fl_2_18 : rz_lff (2, 18) := ⟨by decide, by decide, rz_nth 147 (by decide +kernel)⟩
theorem fl_2_21 : rz_lff (2, 21) := ⟨by decide, by decide, rz_nth 148 (by decide +kernel)⟩
theorem fl_2_24 : rz_lff (2, 24) := ⟨by decide, by decide, rz_nth 149 (by decide +kernel)⟩
theorem fl_2_27 : rz_lff (2, 27) := ⟨by decide, by decide, rz_nth 150 (by decide +kernel)⟩
theorem fl_2_30 : rz_lff (2, 30) := ⟨by decide, by decide, rz_nth 151 (by decide +kernel)⟩
theorem ll_2_33 : Cond.constantLong (rz_cn 2) 33 (Int64.ofInt (rz_ll 2 33)) ∈ lw_tbl ∧ (-9223372036854775808 ≤ rz_ll 2 33 ∧ rz_ll 2 33 < 9223372036854775808) := ⟨rz_nth 144 (by decide +kernel), by decide⟩
theorem fl_2_35 : rz_lff (2, 35) := ⟨by decide, by decide, rz_nth 152 (by decide +kernel)⟩
theorem fl_3_11 : rz_lff (3, 11) := ⟨by decide, by decide, rz_nth 262 (by decide +kernel)⟩
theorem fl_3_17 : rz_lff (3, 17) := ⟨by decide, by decide, rz_nth 263 (by decide +kernel)⟩
theorem fl_3_20 : rz_lff (3, 20) := ⟨by decide, by decide, rz_nth 264 (by decide +kernel)⟩
theorem fl_3_24 : rz_lff (3, 24) := ⟨by decide, by decide, rz_nth 265 (by decide +kernel)⟩
theorem fl_3_28 : rz_lff (3, 28) := ⟨by decide, by decide, rz_nth 266 (by decide +kernel)⟩
theorem ll_3_58 : Cond.constantLong (rz_cn 3) 58 (Int64.ofInt (rz_ll 3 58)) ∈ lw_tbl ∧ (-9223372036854775808 ≤ rz_ll 3 58 ∧ rz_ll 3 58 < 9223372036854775808) := ⟨rz_nth 643 (by decide +kernel), by decide⟩
theorem fl_4_11 : rz_lff (4, 11) := ⟨by decide, by decide, rz_nth 235 (by decide +kernel)⟩
theorem fl_4_17 : rz_lff (4, 17) := ⟨by decide, by decide, rz_nth 236 (by decide +kernel)⟩
theorem fl_4_22 : rz_lff (4, 22) := ⟨by decide, by decide, rz_nth 237 (by decide +kernel)⟩
theorem fl_4_26 : rz_lff (4, 26) := ⟨by decide, by decide, rz_nth 238 (by decide +kernel)⟩
theorem fl_4_29 : rz_lff (4, 29) := ⟨by decide, by decide, rz_nth 239 (by decide +kernel)⟩
theorem fl_4_36 : rz_lff (4, 36) := ⟨by decide, by decide, rz_nth 240 (by decide +kernel)⟩
theorem fl_5_9 : rz_lff (5, 9) := ⟨by decide, by decide, rz_nth 179 (by decide +kernel)⟩
theorem fl_5_15 : rz_lff (5, 15) := ⟨by decide, by decide, rz_nth 180 (by decide +kernel)⟩
theorem fl_5_18 : rz_lff (5, 18) := ⟨by decide, by decide, rz_nth 181 (by decide +kernel)⟩
theorem fl_5_21 : rz_lff (5, 21) := ⟨by decide, by decide, rz_nth 182 (by decide +kernel)⟩
theorem fl_5_24 : rz_lff (5, 24) := ⟨by decide, by decide, rz_nth 183 (by decide +kernel)⟩
theorem fl_5_27 : rz_lff (5, 27) := ⟨by decide, by decide, rz_nth 184 (by decide +kernel)⟩
theorem fl_5_30 : rz_lff (5, 30) := ⟨by decide, by decide, rz_nth 185 (by decide +kernel)⟩
theorem fl_5_33 : rz_lff (5, 33) := ⟨by decide, by decide, rz_nth 186 (by decide +kernel)⟩
theorem fl_5_39 : rz_lff (5, 39) := ⟨by decide, by decide, rz_nth 187 (by decide +kernel)⟩
theorem fl_5_43 : rz_lff (5, 43) := ⟨by decide, by decide, rz_nth 178 (by decide +kernel)⟩
theorem fl_5_59 : rz_lff (5, 59) := ⟨by decide, by decide, rz_nth 188 (by decide +kernel)⟩
theorem ll_5_92 : Cond.constantLong (rz_cn 5) 92 (Int64.ofInt (rz_ll 5 92)) ∈ lw_tbl ∧ (-9223372036854775808 ≤ rz_ll 5 92 ∧ rz_ll 5 92 < 9223372036854775808) := ⟨rz_nth 453 (by decide +kernel), by decide⟩
theorem ll_5_123 : Cond.constantLong (rz_cn 5) 123 (Int64.ofInt (rz_ll 5 123)) ∈ lw_tbl ∧ (-9223372036854775808 ≤ rz_ll 5 123 ∧ rz_ll 5 123 < 9223372036854775808) := ⟨rz_nth 546 (by decide +kernel), by decide⟩
theorem ll_5_125 : Cond.constantLong (rz_cn 5) 125 (Int64.ofInt (rz_ll 5 125)) ∈ lw_tbl ∧ (-9223372036854775808 ≤ rz_ll 5 125 ∧ rz_ll 5 125 < 9223372036854775808) := ⟨rz_nth 547 (by decide +kernel), by decide⟩
theorem ll_5_127 : Cond.constantLong (rz_cn 5) 127 (Int64.ofInt (rz_ll 5 127)) ∈ lw_tbl ∧ (-9223372036854775808 ≤ rz_ll 5 127 ∧ rz_ll 5 127 < 9223372036854775808) := ⟨rz_nth 548 (by decide +kernel), by decide⟩
theorem ll_5_133 : Cond.constantLong (rz_cn 5) 133 (Int64.ofInt (rz_ll 5 133)) ∈ lw_tbl ∧ (-9223372036854775808 ≤ rz_ll 5 133 ∧ rz_ll 5 133 < 9223372036854775808) := ⟨rz_nth 557 (by decide +kernel), by decide⟩
theorem ll_5_146 : Cond.constantLong (rz_cn 5) 146 (Int64.ofInt (rz_ll 5 146)) ∈ lw_tbl ∧ (-9223372036854775808 ≤ rz_ll 5 146 ∧ rz_ll 5 146 < 9223372036854775808) := ⟨rz_nth 438 (by decide +kernel), by decide⟩
theorem ll_5_148 : Cond.constantLong (rz_cn 5) 148 (Int64.ofInt (rz_ll 5 148)) ∈ lw_tbl ∧ (-9223372036854775808 ≤ rz_ll 5 148 ∧ rz_ll 5 148 < 9223372036854775808) := ⟨rz_nth 439 (by decide +kernel), by decide⟩
theorem fl_7_7 : rz_lff (7, 7) := ⟨by decide, by decide, rz_nth 837 (by decide +kernel)⟩
theorem fl_7_13 : rz_lff (7, 13) := ⟨by decide, by decide, rz_nth 838 (by decide +kernel)⟩
theorem fl_7_16 : rz_lff (7, 16) := ⟨by decide, by decide, rz_nth 839 (by decide +kernel)⟩
theorem fl_7_19 : rz_lff (7, 19) := ⟨by decide, by decide, rz_nth 841 (by decide +kernel)⟩
theorem fl_7_22 : rz_lff (7, 22) := ⟨by decide, by decide, rz_nth 842 (by decide +kernel)⟩
theorem fl_7_26 : rz_lff (7, 26) := ⟨by decide, by decide, rz_nth 843 (by decide +kernel)⟩
theorem fl_7_29 : rz_lff (7, 29) := ⟨by decide, by decide, rz_nth 846 (by decide +kernel)⟩
theorem fl_7_32 : rz_lff (7, 32) := ⟨by decide, by decide, rz_nth 847 (by decide +kernel)⟩
theorem fl_7_35 : rz_lff (7, 35) := ⟨by decide, by decide, rz_nth 848 (by decide +kernel)⟩
theorem fl_7_38 : rz_lff (7, 38) := ⟨by decide, by decide, rz_nth 849 (by decide +kernel)⟩
theorem fl_7_41 : rz_lff (7, 41) := ⟨by decide, by decide, rz_nth 850 (by decide +kernel)⟩
theorem fl_7_44 : rz_lff (7, 44) := ⟨by decide, by decide, rz_nth 851 (by decide +kernel)⟩
theorem fl_7_47 : rz_lff (7, 47) := ⟨by decide, by decide, rz_nth 852 (by decide +kernel)⟩
theorem fl_7_51 : rz_lff (7, 51) := ⟨by decide, by decide, rz_nth 854 (by decide +kernel)⟩
theorem fl_7_54 : rz_lff (7, 54) := ⟨by decide, by decide, rz_nth 855 (by decide +kernel)⟩
theorem fl_7_57 : rz_lff (7, 57) := ⟨by decide, by decide, rz_nth 856 (by decide +kernel)⟩
theorem fl_7_60 : rz_lff (7, 60) := ⟨by decide, by decide, rz_nth 858 (by decide +kernel)⟩
theorem fl_7_63 : rz_lff (7, 63) := ⟨by decide, by decide, rz_nth 859 (by decide +kernel)⟩
theorem fl_7_66 : rz_lff (7, 66) := ⟨by decide, by decide, rz_nth 861 (by decide +kernel)⟩
theorem fl_7_69 : rz_lff (7, 69) := ⟨by decide, by decide, rz_nth 863 (by decide +kernel)⟩
theorem fl_7_72 : rz_lff (7, 72) := ⟨by decide, by decide, rz_nth 864 (by decide +kernel)⟩
theorem fl_7_75 : rz_lff (7, 75) := ⟨by decide, by decide, rz_nth 865 (by decide +kernel)⟩
theorem fl_7_78 : rz_lff (7, 78) := ⟨by decide, by decide, rz_nth 866 (by decide +kernel)⟩
theorem fl_7_81 : rz_lff (7, 81) := ⟨by decide, by decide, rz_nth 867 (by decide +kernel)⟩
theorem fl_7_84 : rz_lff (7, 84) := ⟨by decide, by decide, rz_nth 868 (by decide +kernel)⟩
theorem fl_7_87 : rz_lff (7, 87) := ⟨by decide, by decide, rz_nth 870 (by decide +kernel)⟩
theorem fl_7_90 : rz_lff (7, 90) := ⟨by decide, by decide, rz_nth 871 (by decide +kernel)⟩
theorem fl_7_93 : rz_lff (7, 93) := ⟨by decide, by decide, rz_nth 873 (by decide +kernel)⟩
theorem fl_7_96 : rz_lff (7, 96) := ⟨by decide, by decide, rz_nth 835 (by decide +kernel)⟩
theorem fl_7_99 : rz_lff (7, 99) := ⟨by decide, by decide, rz_nth 836 (by decide +kernel)⟩
theorem ll_7_102 : Cond.constantLong (rz_cn 7) 102 (Int64.ofInt (rz_ll 7 102)) ∈ lw_tbl ∧ (-9223372036854775808 ≤ rz_ll 7 102 ∧ rz_ll 7 102 < 9223372036854775808) := ⟨rz_nth 965 (by decide +kernel), by decide⟩
theorem ll_7_108 : Cond.constantLong (rz_cn 7) 108 (Int64.ofInt (rz_ll 7 108)) ∈ lw_tbl ∧ (-9223372036854775808 ≤ rz_ll 7 108 ∧ rz_ll 7 108 < 9223372036854775808) := ⟨rz_nth 957 (by decide +kernel), by decide⟩
theorem ll_7_110 : Cond.constantLong (rz_cn 7) 110 (Int64.ofInt (rz_ll 7 110)) ∈ lw_tbl ∧ (-9223372036854775808 ≤ rz_ll 7 110 ∧ rz_ll 7 110 < 9223372036854775808) := ⟨rz_nth 958 (by decide +kernel), by decide⟩
theorem ll_7_120 : Cond.constantLong (rz_cn 7) 120 (Int64.ofInt (rz_ll 7 120)) ∈ lw_tbl ∧ (-9223372036854775808 ≤ rz_ll 7 120 ∧ rz_ll 7 120 < 9223372036854775808) := ⟨rz_nth 974 (by decide +kernel), by decide⟩
theorem ll_7_122 : Cond.constantLong (rz_cn 7) 122 (Int64.ofInt (rz_ll 7 122)) ∈ lw_tbl ∧ (-9223372036854775808 ≤ rz_ll 7 122 ∧ rz_ll 7 122 < 9223372036854775808) := ⟨rz_nth 975 (by decide +kernel), by decide⟩
theorem ll_7_124 : Cond.constantLong (rz_cn 7) 124 (Int64.ofInt (rz_ll 7 124)) ∈ lw_tbl ∧ (-9223372036854775808 ≤ rz_ll 7 124 ∧ rz_ll 7 124 < 9223372036854775808) := ⟨rz_nth 984 (by decide +kernel), by decide⟩
theorem ll_7_126 : Cond.constantLong (rz_cn 7) 126 (Int64.ofInt (rz_ll 7 126)) ∈ lw_tbl ∧ (-9223372036854775808 ≤ rz_ll 7 126 ∧ rz_ll 7 126 < 9223372036854775808) := ⟨rz_nth 985 (by decide +kernel), by decide⟩
theorem ll_7_128 : Cond.constantLong (rz_cn 7) 128 (Int64.ofInt (rz_ll 7 128)) ∈ lw_tbl ∧ (-9223372036854775808 ≤ rz_ll 7 128 ∧ rz_ll 7 128 < 9223372036854775808) := ⟨rz_nth 1002 (by decide +kernel), by decide⟩
theorem ll_7_130 : Cond.constantLong (rz_cn 7) 130 (Int64.ofInt (rz_ll 7 130)) ∈ lw_tbl ∧ (-9223372036854775808 ≤ rz_ll 7 130 ∧ rz_ll 7 130 < 9223372036854775808) := ⟨rz_nth 1003 (by decide +kernel), by decide⟩
theorem fl_7_145 : rz_lff (7, 145) := ⟨by decide, by decide, rz_nth 840 (by decide +kernel)⟩
theorem ll_7_151 : Cond.constantLong (rz_cn 7) 151 (Int64.ofInt (rz_ll 7 151)) ∈ lw_tbl ∧ (-9223372036854775808 ≤ rz_ll 7 151 ∧ rz_ll 7 151 < 9223372036854775808) := ⟨rz_nth 1047 (by decide +kernel), by decide⟩
theorem fl_7_153 : rz_lff (7, 153) := ⟨by decide, by decide, rz_nth 844 (by decide +kernel)⟩
theorem ll_7_171 : Cond.constantLong (rz_cn 7) 171 (Int64.ofInt (rz_ll 7 171)) ∈ lw_tbl ∧ (-9223372036854775808 ≤ rz_ll 7 171 ∧ rz_ll 7 171 < 9223372036854775808) := ⟨rz_nth 1058 (by decide +kernel), by decide⟩
theorem fl_7_177 : rz_lff (7, 177) := ⟨by decide, by decide, rz_nth 845 (by decide +kernel)⟩
theorem fl_7_208 : rz_lff (7, 208) := ⟨by decide, by decide, rz_nth 853 (by decide +kernel)⟩
theorem ll_7_211 : Cond.constantLong (rz_cn 7) 211 (Int64.ofInt (rz_ll 7 211)) ∈ lw_tbl ∧ (-9223372036854775808 ≤ rz_ll 7 211 ∧ rz_ll 7 211 < 9223372036854775808) := ⟨rz_nth 1087 (by decide +kernel), by decide⟩
theorem fl_7_213 : rz_lff (7, 213) := ⟨by decide, by decide, rz_nth 857 (by decide +kernel)⟩
theorem ll_7_225 : Cond.constantLong (rz_cn 7) 225 (Int64.ofInt (rz_ll 7 225)) ∈ lw_tbl ∧ (-9223372036854775808 ≤ rz_ll 7 225 ∧ rz_ll 7 225 < 9223372036854775808) := ⟨rz_nth 1108 (by decide +kernel), by decide⟩
theorem fl_7_250 : rz_lff (7, 250) := ⟨by decide, by decide, rz_nth 860 (by decide +kernel)⟩
theorem fl_7_253 : rz_lff (7, 253) := ⟨by decide, by decide, rz_nth 862 (by decide +kernel)⟩
theorem ll_7_283 : Cond.constantLong (rz_cn 7) 283 (Int64.ofInt (rz_ll 7 283)) ∈ lw_tbl ∧ (-9223372036854775808 ≤ rz_ll 7 283 ∧ rz_ll 7 283 < 9223372036854775808) := ⟨rz_nth 1142 (by decide +kernel), by decide⟩
theorem ll_7_291 : Cond.constantLong (rz_cn 7) 291 (Int64.ofInt (rz_ll 7 291)) ∈ lw_tbl ∧ (-9223372036854775808 ≤ rz_ll 7 291 ∧ rz_ll 7 291 < 9223372036854775808) := ⟨rz_nth 1203 (by decide +kernel), by decide⟩
theorem ll_7_297 : Cond.constantLong (rz_cn 7) 297 (Int64.ofInt (rz_ll 7 297)) ∈ lw_tbl ∧ (-9223372036854775808 ≤ rz_ll 7 297 ∧ rz_ll 7 297 < 9223372036854775808) := ⟨rz_nth 1184 (by decide +kernel), by decide⟩
theorem ll_7_299 : Cond.constantLong (rz_cn 7) 299 (Int64.ofInt (rz_ll 7 299)) ∈ lw_tbl ∧ (-9223372036854775808 ≤ rz_ll 7 299 ∧ rz_ll 7 299 < 9223372036854775808) := ⟨rz_nth 1207 (by decide +kernel), by decide⟩
theorem ll_7_301 : Cond.constantLong (rz_cn 7) 301 (Int64.ofInt (rz_ll 7 301)) ∈ lw_tbl ∧ (-9223372036854775808 ≤ rz_ll 7 301 ∧ rz_ll 7 301 < 9223372036854775808) := ⟨rz_nth 1208 (by decide +kernel), by decide⟩
theorem ll_7_303 : Cond.constantLong (rz_cn 7) 303 (Int64.ofInt (rz_ll 7 303)) ∈ lw_tbl ∧ (-9223372036854775808 ≤ rz_ll 7 303 ∧ rz_ll 7 303 < 9223372036854775808) := ⟨rz_nth 1216 (by decide +kernel), by decide⟩
theorem ll_7_305 : Cond.constantLong (rz_cn 7) 305 (Int64.ofInt (rz_ll 7 305)) ∈ lw_tbl ∧ (-9223372036854775808 ≤ rz_ll 7 305 ∧ rz_ll 7 305 < 9223372036854775808) := ⟨rz_nth 1217 (by decide +kernel), by decide⟩
theorem ll_7_307 : Cond.constantLong (rz_cn 7) 307 (Int64.ofInt (rz_ll 7 307)) ∈ lw_tbl ∧ (-9223372036854775808 ≤ rz_ll 7 307 ∧ rz_ll 7 307 < 9223372036854775808) := ⟨rz_nth 1218 (by decide +kernel), by decide⟩
theorem ll_7_309 : Cond.constantLong (rz_cn 7) 309 (Int64.ofInt (rz_ll 7 309)) ∈ lw_tbl ∧ (-9223372036854775808 ≤ rz_ll 7 309 ∧ rz_ll 7 309 < 9223372036854775808) := ⟨rz_nth 1219 (by decide +kernel), by decide⟩
theorem ll_7_311 : Cond.constantLong (rz_cn 7) 311 (Int64.ofInt (rz_ll 7 311)) ∈ lw_tbl ∧ (-9223372036854775808 ≤ rz_ll 7 311 ∧ rz_ll 7 311 < 9223372036854775808) := ⟨rz_nth 1220 (by decide +kernel), by decide⟩
theorem ll_7_313 : Cond.constantLong (rz_cn 7) 313 (Int64.ofInt (rz_ll 7 313)) ∈ lw_tbl ∧ (-9223372036854775808 ≤ rz_ll 7 313 ∧ rz_ll 7 313 < 9223372036854775808) := ⟨rz_nth 1221 (by decide +kernel), by decide⟩
theorem fl_7_315 : rz_lff (7, 315) := ⟨by decide, by decide, rz_nth 869 (by decide +kernel)⟩
theorem ll_7_336 : Cond.constantLong (rz_cn 7) 336 (Int64.ofInt (rz_ll 7 336)) ∈ lw_tbl ∧ (-9223372036854775808 ≤ rz_ll 7 336 ∧ rz_ll 7 336 < 9223372036854775808) := ⟨rz_nth 1222 (by decide +kernel), by decide⟩
theorem ll_7_338 : Cond.constantLong (rz_cn 7) 338 (Int64.ofInt (rz_ll 7 338)) ∈ lw_tbl ∧ (-9223372036854775808 ≤ rz_ll 7 338 ∧ rz_ll 7 338 < 9223372036854775808) := ⟨rz_nth 1223 (by decide +kernel), by decide⟩
theorem ll_7_358 : Cond.constantLong (rz_cn 7) 358 (Int64.ofInt (rz_ll 7 358)) ∈ lw_tbl ∧ (-9223372036854775808 ≤ rz_ll 7 358 ∧ rz_ll 7 358 < 9223372036854775808) := ⟨rz_nth 1259 (by decide +kernel), by decide⟩
theorem cl_7_367 : Cond.constant (rz_cn 7) 367 (Int32.ofInt (rz_lc 7 367)) ∈ lw_tbl ∧ (-2147483648 ≤ rz_lc 7 367 ∧ rz_lc 7 367 < 2147483648) := ⟨rz_nth 1280 (by decide +kernel), by decide⟩
theorem fl_7_382 : rz_lff (7, 382) := ⟨by decide, by decide, rz_nth 872 (by decide +kernel)⟩
theorem ll_7_391 : Cond.constantLong (rz_cn 7) 391 (Int64.ofInt (rz_ll 7 391)) ∈ lw_tbl ∧ (-9223372036854775808 ≤ rz_ll 7 391 ∧ rz_ll 7 391 < 9223372036854775808) := ⟨rz_nth 1249 (by decide +kernel), by decide⟩
theorem ll_7_393 : Cond.constantLong (rz_cn 7) 393 (Int64.ofInt (rz_ll 7 393)) ∈ lw_tbl ∧ (-9223372036854775808 ≤ rz_ll 7 393 ∧ rz_ll 7 393 < 9223372036854775808) := ⟨rz_nth 1250 (by decide +kernel), by decide⟩
theorem cl_10_127 : Cond.constant (rz_cn 10) 127 (Int32.ofInt (rz_lc 10 127)) ∈ lw_tbl ∧ (-2147483648 ≤ rz_lc 10 127 ∧ rz_lc 10 127 < 2147483648) := ⟨rz_nth 508 (by decide +kernel), by decide⟩
theorem cl_10_264 : Cond.constant (rz_cn 10) 264 (Int32.ofInt (rz_lc 10 264)) ∈ lw_tbl ∧ (-2147483648 ≤ rz_lc 10 264 ∧ rz_lc 10 264 < 2147483648) := ⟨rz_nth 512 (by decide +kernel), by decide⟩
theorem cl_10_265 : Cond.constant (rz_cn 10) 265 (Int32.ofInt (rz_lc 10 265)) ∈ lw_tbl ∧ (-2147483648 ≤ rz_lc 10 265 ∧ rz_lc 10 265 < 2147483648) := ⟨rz_nth 739 (by decide +kernel), by decide⟩
theorem cl_10_266 : Cond.constant (rz_cn 10) 266 (Int32.ofInt (rz_lc 10 266)) ∈ lw_tbl ∧ (-2147483648 ≤ rz_lc 10 266 ∧ rz_lc 10 266 < 2147483648) := ⟨rz_nth 740 (by decide +kernel), by decide⟩
theorem cl_10_267 : Cond.constant (rz_cn 10) 267 (Int32.ofInt (rz_lc 10 267)) ∈ lw_tbl ∧ (-2147483648 ≤ rz_lc 10 267 ∧ rz_lc 10 267 < 2147483648) := ⟨rz_nth 741 (by decide +kernel), by decide⟩
def rz_fll : List (Nat × Nat) := [(6, 11), (6, 14), (6, 18), (6, 24), (6, 28), (6, 31), (6, 37), (6, 46), (6, 53), (6, 60), (6, 64), (6, 138), (6, 141), (6, 145), (6, 149), (6, 152), (6, 175), (6, 261), (6, 269), (6, 272), (6, 279), (6, 286), (6, 289), (6, 296), (6, 299), (6, 302), (6, 308), (6, 311), (0, 9), (0, 13), (0, 23), (8, 60), (8, 63), (8, 66), (8, 69), (1, 11), (1, 16), (1, 20), (1, 23), (1, 27), (1, 31), (2, 9), (2, 15), (2, 18), (2, 21), (2, 24), (2, 27), (2, 30), (2, 35), (3, 11), (3, 17), (3, 20), (3, 24), (3, 28), (4, 11), (4, 17), (4, 22), (4, 26), (4, 29), (4, 36), (5, 9), (5, 15), (5, 18), (5, 21), (5, 24), (5, 27), (5, 30), (5, 33), (5, 39), (5, 43), (5, 59), (7, 7), (7, 13), (7, 16), (7, 19), (7, 22), (7, 26), (7, 29), (7, 32), (7, 35), (7, 38), (7, 41), (7, 44), (7, 47), (7, 51), (7, 54), (7, 57), (7, 60), (7, 63), (7, 66), (7, 69), (7, 72), (7, 75), (7, 78), (7, 81), (7, 84), (7, 87), (7, 90), (7, 93), (7, 96), (7, 99), (7, 145), (7, 153), (7, 177), (7, 208), (7, 213), (7, 250), (7, 253), (7, 315), (7, 382)]
set_option maxRecDepth 20000 in
theorem rz_fl_all : ∀ q ∈ rz_fll, rz_lff q := List.forall_mem_cons.mpr ⟨fl_6_11, List.forall_mem_cons.mpr ⟨fl_6_14, List.forall_mem_cons.mpr ⟨fl_6_18, List.forall_mem_cons.mpr ⟨fl_6_24, List.forall_mem_cons.mpr ⟨fl_6_28, List.forall_mem_cons.mpr ⟨fl_6_31, List.forall_mem_cons.mpr ⟨fl_6_37, List.forall_mem_cons.mpr ⟨fl_6_46, List.forall_mem_cons.mpr ⟨fl_6_53, List.forall_mem_cons.mpr ⟨fl_6_60, List.forall_mem_cons.mpr ⟨fl_6_64, List.forall_mem_cons.mpr ⟨fl_6_138, List.forall_mem_cons.mpr ⟨fl_6_141, List.forall_mem_cons.mpr ⟨fl_6_145, List.forall_mem_cons.mpr ⟨fl_6_149, List.forall_mem_cons.mpr ⟨fl_6_152, List.forall_mem_cons.mpr ⟨fl_6_175, List.forall_mem_cons.mpr ⟨fl_6_261, List.forall_mem_cons.mpr ⟨fl_6_269, List.forall_mem_cons.mpr ⟨fl_6_272, List.forall_mem_cons.mpr ⟨fl_6_279, List.forall_mem_cons.mpr ⟨fl_6_286, List.forall_mem_cons.mpr ⟨fl_6_289, List.forall_mem_cons.mpr ⟨fl_6_296, List.forall_mem_cons.mpr ⟨fl_6_299, List.forall_mem_cons.mpr ⟨fl_6_302, List.forall_mem_cons.mpr ⟨fl_6_308, List.forall_mem_cons.mpr ⟨fl_6_311, List.forall_mem_cons.mpr ⟨fl_0_9, List.forall_mem_cons.mpr ⟨fl_0_13, List.forall_mem_cons.mpr ⟨fl_0_23, List.forall_mem_cons.mpr ⟨fl_8_60, List.forall_mem_cons.mpr ⟨fl_8_63, List.forall_mem_cons.mpr ⟨fl_8_66, List.forall_mem_cons.mpr ⟨fl_8_69, List.forall_mem_cons.mpr ⟨fl_1_11, List.forall_mem_cons.mpr ⟨fl_1_16, List.forall_mem_cons.mpr ⟨fl_1_20, List.forall_mem_cons.mpr ⟨fl_1_23, List.forall_mem_cons.mpr ⟨fl_1_27, List.forall_mem_cons.mpr ⟨fl_1_31, List.forall_mem_cons.mpr ⟨fl_2_9, List.forall_mem_cons.mpr ⟨fl_2_15, List.forall_mem_cons.mpr ⟨fl_2_18, List.forall_mem_cons.mpr ⟨fl_2_21, List.forall_mem_cons.mpr ⟨fl_2_24, List.forall_mem_cons.mpr ⟨fl_2_27, List.forall_mem_cons.mpr ⟨fl_2_30, List.forall_mem_cons.mpr ⟨fl_2_35, List.forall_mem_cons.mpr ⟨fl_3_11, List.forall_mem_cons.mpr ⟨fl_3_17, List.forall_mem_cons.mpr ⟨fl_3_20, List.forall_mem_cons.mpr ⟨fl_3_24, List.forall_mem_cons.mpr ⟨fl_3_28, List.forall_mem_cons.mpr ⟨fl_4_11, List.forall_mem_cons.mpr ⟨fl_4_17, List.forall_mem_cons.mpr ⟨fl_4_22, List.forall_mem_cons.mpr ⟨fl_4_26, List.forall_mem_cons.mpr ⟨fl_4_29, List.forall_mem_cons.mpr ⟨fl_4_36, List.forall_mem_cons.mpr ⟨fl_5_9, List.forall_mem_cons.mpr ⟨fl_5_15, List.forall_mem_cons.mpr ⟨fl_5_18, List.forall_mem_cons.mpr ⟨fl_5_21, List.forall_mem_cons.mpr ⟨fl_5_24, List.forall_mem_cons.mpr ⟨fl_5_27, List.forall_mem_cons.mpr ⟨fl_5_30, List.forall_mem_cons.mpr ⟨fl_5_33, List.forall_mem_cons.mpr ⟨fl_5_39, List.forall_mem_cons.mpr ⟨fl_5_43, List.forall_mem_cons.mpr ⟨fl_5_59, List.forall_mem_cons.mpr ⟨fl_7_7, List.forall_mem_cons.mpr ⟨fl_7_13, List.forall_mem_cons.mpr ⟨fl_7_16, List.forall_mem_cons.mpr ⟨fl_7_19, List.forall_mem_cons.mpr ⟨fl_7_22, List.forall_mem_cons.mpr ⟨fl_7_26, List.forall_mem_cons.mpr ⟨fl_7_29, List.forall_mem_cons.mpr ⟨fl_7_32, List.forall_mem_cons.mpr ⟨fl_7_35, List.forall_mem_cons.mpr ⟨fl_7_38, List.forall_mem_cons.mpr ⟨fl_7_41, List.forall_mem_cons.mpr ⟨fl_7_44, List.forall_mem_cons.mpr ⟨fl_7_47, List.forall_mem_cons.mpr ⟨fl_7_51, List.forall_mem_cons.mpr ⟨fl_7_54, List.forall_mem_cons.mpr ⟨fl_7_57, List.forall_mem_cons.mpr ⟨fl_7_60, List.forall_mem_cons.mpr ⟨fl_7_63, List.forall_mem_cons.mpr ⟨fl_7_66, List.forall_mem_cons.mpr ⟨fl_7_69, List.forall_mem_cons.mpr ⟨fl_7_72, List.forall_mem_cons.mpr ⟨fl_7_75, List.forall_mem_cons.mpr ⟨fl_7_78, List.forall_mem_cons.mpr ⟨fl_7_81, List.forall_mem_cons.mpr ⟨fl_7_84, List.forall_mem_cons.mpr ⟨fl_7_87, List.forall_mem_cons.mpr ⟨fl_7_90, List.forall_mem_cons.mpr ⟨fl_7_93, List.forall_mem_cons.mpr ⟨fl_7_96, List.forall_mem_cons.mpr ⟨fl_7_99, List.forall_mem_cons.mpr ⟨fl_7_145, List.forall_mem_cons.mpr ⟨fl_7_153, List.forall_mem_cons.mpr ⟨fl_7_177, List.forall_mem_cons.mpr ⟨fl_7_208, List.forall_mem_cons.mpr ⟨fl_7_213, List.forall_mem_cons.mpr ⟨fl_7_250, List.forall_mem_cons.mpr ⟨fl_7_253, List.forall_mem_cons.mpr ⟨fl_7_315, List.forall_mem_cons.mpr ⟨fl_7_382, fun _ h => absurd h List.not_mem_nil⟩⟩⟩⟩⟩⟩⟩⟩⟩⟩⟩⟩⟩⟩⟩⟩⟩⟩⟩⟩⟩⟩⟩⟩⟩⟩⟩⟩⟩⟩⟩⟩⟩⟩⟩⟩⟩⟩⟩⟩⟩⟩⟩⟩⟩⟩⟩⟩⟩⟩⟩⟩⟩⟩⟩⟩⟩⟩⟩⟩⟩⟩⟩⟩⟩⟩⟩⟩⟩⟩⟩⟩⟩⟩⟩⟩⟩⟩⟩⟩⟩⟩⟩⟩⟩⟩⟩⟩⟩⟩⟩⟩⟩⟩⟩⟩⟩⟩⟩⟩⟩⟩⟩⟩⟩⟩⟩⟩⟩⟩
def rz_cil : List (Nat × Nat) := [(7, 367), (10, 127), (10, 264), (10, 265), (10, 266), (10, 267)]
set_option maxRecDepth 20000 in
theorem rz_ci_all : ∀ q ∈ rz_cil, Cond.constant (rz_cn q.1) q.2 (Int32.ofInt (rz_lc q.1 q.2)) ∈ lw_tbl ∧ (-2147483648 ≤ rz_lc q.1 q.2 ∧ rz_lc q.1 q.2 < 2147483648) := List.forall_mem_cons.mpr ⟨cl_7_367, List.forall_mem_cons.mpr ⟨cl_10_127, List.forall_mem_cons.mpr ⟨cl_10_264, List.forall_mem_cons.mpr ⟨cl_10_265, List.forall_mem_cons.mpr ⟨cl_10_266, List.forall_mem_cons.mpr ⟨cl_10_267, fun _ h => absurd h List.not_mem_nil⟩⟩⟩⟩⟩⟩
def rz_col : List (Nat × Nat) := [(6, 80), (6, 216), (6, 218), (6, 224), (6, 226), (6, 240), (6, 245), (6, 247), (6, 249), (6, 251), (6, 253), (6, 255), (6, 257), (6, 259), (0, 32), (2, 33), (3, 58), (5, 92), (5, 123), (5, 125), (5, 127), (5, 133), (5, 146), (5, 148), (7, 102), (7, 108), (7, 110), (7, 120), (7, 122), (7, 124), (7, 126), (7, 128), (7, 130), (7, 151), (7, 171), (7, 211), (7, 225), (7, 283), (7, 291), (7, 297), (7, 299), (7, 301), (7, 303), (7, 305), (7, 307), (7, 309), (7, 311), (7, 313), (7, 336), (7, 338), (7, 358), (7, 391), (7, 393)]
set_option maxRecDepth 20000 in
theorem rz_co_all : ∀ q ∈ rz_col, Cond.constantLong (rz_cn q.1) q.2 (Int64.ofInt (rz_ll q.1 q.2)) ∈ lw_tbl ∧ (-9223372036854775808 ≤ rz_ll q.1 q.2 ∧ rz_ll q.1 q.2 < 9223372036854775808) := List.forall_mem_cons.mpr ⟨ll_6_80, List.forall_mem_cons.mpr ⟨ll_6_216, List.forall_mem_cons.mpr ⟨ll_6_218, List.forall_mem_cons.mpr ⟨ll_6_224, List.forall_mem_cons.mpr ⟨ll_6_226, List.forall_mem_cons.mpr ⟨ll_6_240, List.forall_mem_cons.mpr ⟨ll_6_245, List.forall_mem_cons.mpr ⟨ll_6_247, List.forall_mem_cons.mpr ⟨ll_6_249, List.forall_mem_cons.mpr ⟨ll_6_251, List.forall_mem_cons.mpr ⟨ll_6_253, List.forall_mem_cons.mpr ⟨ll_6_255, List.forall_mem_cons.mpr ⟨ll_6_257, List.forall_mem_cons.mpr ⟨ll_6_259, List.forall_mem_cons.mpr ⟨ll_0_32, List.forall_mem_cons.mpr ⟨ll_2_33, List.forall_mem_cons.mpr ⟨ll_3_58, List.forall_mem_cons.mpr ⟨ll_5_92, List.forall_mem_cons.mpr ⟨ll_5_123, List.forall_mem_cons.mpr ⟨ll_5_125, List.forall_mem_cons.mpr ⟨ll_5_127, List.forall_mem_cons.mpr ⟨ll_5_133, List.forall_mem_cons.mpr ⟨ll_5_146, List.forall_mem_cons.mpr ⟨ll_5_148, List.forall_mem_cons.mpr ⟨ll_7_102, List.forall_mem_cons.mpr ⟨ll_7_108, List.forall_mem_cons.mpr ⟨ll_7_110, List.forall_mem_cons.mpr ⟨ll_7_120, List.forall_mem_cons.mpr ⟨ll_7_122, List.forall_mem_cons.mpr ⟨ll_7_124, List.forall_mem_cons.mpr ⟨ll_7_126, List.forall_mem_cons.mpr ⟨ll_7_128, List.forall_mem_cons.mpr ⟨ll_7_130, List.forall_mem_cons.mpr ⟨ll_7_151, List.forall_mem_cons.mpr ⟨ll_7_171, List.forall_mem_cons.mpr ⟨ll_7_211, List.forall_mem_cons.mpr ⟨ll_7_225, List.forall_mem_cons.mpr ⟨ll_7_283, List.forall_mem_cons.mpr ⟨ll_7_291, List.forall_mem_cons.mpr ⟨ll_7_297, List.forall_mem_cons.mpr ⟨ll_7_299, List.forall_mem_cons.mpr ⟨ll_7_301, List.forall_mem_cons.mpr ⟨ll_7_303, List.forall_mem_cons.mpr ⟨ll_7_305, List.forall_mem_cons.mpr ⟨ll_7_307, List.forall_mem_cons.mpr ⟨ll_7_309, List.forall_mem_cons.mpr ⟨ll_7_311, List.forall_mem_cons.mpr ⟨ll_7_313, List.forall_mem_cons.mpr ⟨ll_7_336, List.forall_mem_cons.mpr ⟨ll_7_338, List.forall_mem_cons.mpr ⟨ll_7_358, List.forall_mem_cons.mpr ⟨ll_7_391, List.forall_mem_cons.mpr ⟨ll_7_393, fun _ h => absurd h List.not_mem_nil⟩⟩⟩⟩⟩⟩⟩⟩⟩⟩⟩⟩⟩⟩⟩⟩⟩⟩⟩⟩⟩⟩⟩⟩⟩⟩⟩⟩⟩⟩⟩⟩⟩⟩⟩⟩⟩⟩⟩⟩⟩⟩⟩⟩⟩⟩⟩⟩⟩⟩⟩⟩⟩
def rz_jff (q : Nat × Nat) : Prop := match rz_lm q.1 q.2 with
  | 300 => Cond.methodLink (rz_cn q.1) q.2 arraycopyName ∈ lw_tbl
  | 209 => Cond.methodLink (rz_cn q.1) q.2 Lib.MathLoose.abs_long.x ∈ lw_tbl
  | 210 => Cond.methodLink (rz_cn q.1) q.2 Lib.Math.max.name ∈ lw_tbl
  | 211 => Cond.methodLink (rz_cn q.1) q.2 Lib.Math.min.name ∈ lw_tbl
  | _ => False
theorem jl_6_228 : rz_jff (6, 228) := rz_nth 369 (by decide +kernel)
theorem jl_6_234 : rz_jff (6, 234) := rz_nth 404 (by decide +kernel)
theorem jl_0_26 : rz_jff (0, 26) := rz_nth 596 (by decide +kernel)
theorem jl_0_34 : rz_jff (0, 34) := rz_nth 637 (by decide +kernel)
theorem jl_0_44 : rz_jff (0, 44) := rz_nth 632 (by decide +kernel)
theorem jl_0_59 : rz_jff (0, 59) := rz_nth 614 (by decide +kernel)
theorem jl_1_51 : rz_jff (1, 51) := rz_nth 567 (by decide +kernel)
theorem jl_5_150 : rz_jff (5, 150) := rz_nth 544 (by decide +kernel)
def rz_jfl : List (Nat × Nat) := [(6, 228), (6, 234), (0, 26), (0, 34), (0, 44), (0, 59), (1, 51), (5, 150)]
set_option maxRecDepth 20000 in
theorem rz_jf_all : ∀ q ∈ rz_jfl, rz_jff q := List.forall_mem_cons.mpr ⟨jl_6_228, List.forall_mem_cons.mpr ⟨jl_6_234, List.forall_mem_cons.mpr ⟨jl_0_26, List.forall_mem_cons.mpr ⟨jl_0_34, List.forall_mem_cons.mpr ⟨jl_0_44, List.forall_mem_cons.mpr ⟨jl_0_59, List.forall_mem_cons.mpr ⟨jl_1_51, List.forall_mem_cons.mpr ⟨jl_5_150, fun _ h => absurd h List.not_mem_nil⟩⟩⟩⟩⟩⟩⟩⟩
theorem jw_copy : Cond.native arraycopyName ∈ lw_tbl ∧ Cond.static arraycopyName ∈ lw_tbl ∧ Cond.initialized "java/lang/System" ∈ lw_tbl := ⟨(rz_nth 371 (by decide +kernel)), (rz_nth 370 (by decide +kernel)), (rz_nth 89 (by decide +kernel))⟩
theorem jw_abs : Cond.static Lib.MathLoose.abs_long.x ∈ lw_tbl ∧ Cond.initialized "java/lang/Math" ∈ lw_tbl ∧ Cond.code Lib.MathLoose.abs_long.x Lib.MathLoose.abs_long.code 2 (some .long) ∈ lw_tbl := ⟨(rz_nth 405 (by decide +kernel)), (rz_nth 90 (by decide +kernel)), (rz_nth 406 (by decide +kernel))⟩
theorem jw_max : Cond.static Lib.Math.max.name ∈ lw_tbl ∧ Cond.initialized "java/lang/Math" ∈ lw_tbl ∧ Cond.code Lib.Math.max.name Lib.Math.max.code 2 (some .int) ∈ lw_tbl := ⟨(rz_nth 615 (by decide +kernel)), (rz_nth 90 (by decide +kernel)), (rz_nth 616 (by decide +kernel))⟩
theorem jw_min : Cond.static Lib.Math.min.name ∈ lw_tbl ∧ Cond.initialized "java/lang/Math" ∈ lw_tbl ∧ Cond.code Lib.Math.min.name Lib.Math.min.code 2 (some .int) ∈ lw_tbl := ⟨(rz_nth 568 (by decide +kernel)), (rz_nth 90 (by decide +kernel)), (rz_nth 569 (by decide +kernel))⟩
/-- every link that an instruction uses is among the lists -/
def rz_lkc (c : Nat) (i : Instr) : Bool := match i with
  | .getfield k => rz_fll.elem (c, k)
  | .putfield k => rz_fll.elem (c, k)
  | .getstatic k => rz_fll.elem (c, k)
  | .ldc k => rz_cil.elem (c, k)
  | .ldc_w k => rz_cil.elem (c, k)
  | .ldc2_w k => rz_col.elem (c, k)
  | .invokevirtual k => rz_lkl.elem (c, k) && !rz_stat (rz_lm c k)
  | .invokestatic k => rz_lkl.elem (c, k) && rz_stat (rz_lm c k) || rz_jfl.elem (c, k)
  | _ => true
theorem rz_lkall {c : Nat} {f : Nat → Instr × Nat × Nat} (B : Nat) (h1 : ∀ pc, pc < B → rz_lkc c (f pc).1 = true) (h2 : ∀ pc, Nat.blt pc B = false → f pc = (.nop, 0, 0)) (pc : Nat) : rz_lkc c (f pc).1 = true := by
  by_cases h : pc < B
  · exact h1 pc h
  · rw [h2 pc (rz_bltf h)]
    rfl
