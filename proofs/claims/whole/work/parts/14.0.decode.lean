/-! every entry of the instruction tables is what the code's bytes decode to (by gen/mk14.py) -/
def rz_il (i : Instr) (d : Nat) : Nat := match i with
  | .bipush _ => 2 | .sipush _ => 3 | .ldc _ => 2 | .ldc_w _ => 3 | .ldc2_w _ => 3
  | .iload _ => 2 | .lload _ => 2 | .aload _ => 2 | .istore _ => 2 | .lstore _ => 2 | .astore _ => 2
  | .iinc _ _ => 3 | .ifCond _ _ => 3 | .if_icmp _ _ => 3 | .goto _ => 3
  | .getfield _ => 3 | .putfield _ => 3 | .getstatic _ => 3 | .invokevirtual _ => 3 | .invokespecial _ => 3 | .invokestatic _ => 3
  | .tableswitch _ _ _ _ => d | .new _ => 3 | .newarray _ => 2 | .anewarray _ => 3 | .multianewarray _ _ => 4
  | _ => 1
def rz_tg (pc t : Nat) (i : Instr) : Bool := match i with
  | .goto o => decide ((pc : Int) + o = (t : Int))
  | .ifCond _ o => decide ((pc : Int) + o = (t : Int))
  | .if_icmp _ o => decide ((pc : Int) + o = (t : Int))
  | .iconst v => decide (-128 ≤ v ∧ v < 128)
  | .bipush v => decide (-128 ≤ v ∧ v < 128)
  | .sipush v => decide (-32768 ≤ v ∧ v < 32768)
  | .iinc _ v => decide (-32768 ≤ v ∧ v < 32768)
  | .tableswitch d lo hi offs => decide (0 ≤ (pc : Int) + d ∧ -2147483648 ≤ lo ∧ hi < 2147483648 ∧ (offs.size : Int) = hi - lo + 1 ∧ ∀ x ∈ offs.toList, 0 ≤ (pc : Int) + x)
  | _ => true
def rz_ok1 (b : ByteArray) (pc : Nat) (e : Instr × Nat × Nat) : Bool := match e.1 with
  | .nop => true
  | i => decide (decode b pc = .ok (i, rz_il i (e.2.1 - pc))) && Nat.beq e.2.1 (pc + rz_il i (e.2.1 - pc)) && rz_tg pc e.2.2 i
theorem rz_bltf {a b : Nat} (h : ¬ a < b) : Nat.blt a b = false := by
  cases h2 : Nat.blt a b with
  | false => rfl
  | true => exact absurd (by simpa [Nat.blt_eq] using h2) h
theorem rz_bltt {a b : Nat} (h : a < b) : Nat.blt a b = true := by simpa [Nat.blt_eq] using h
theorem rz_okall {b : ByteArray} {f : Nat → Instr × Nat × Nat} (B : Nat) (h1 : ∀ pc, pc < B → rz_ok1 b pc (f pc) = true) (h2 : ∀ pc, Nat.blt pc B = false → f pc = (.nop, 0, 0)) (pc : Nat) : rz_ok1 b pc (f pc) = true := by
  by_cases h : pc < B
  · exact h1 pc h
  · rw [h2 pc (rz_bltf h)]
    rfl
set_option maxRecDepth 100000 in
theorem dk_Big_init : ∀ pc, rz_ok1 prog_2_method_1_code pc (pr_Big_init pc) = true := rz_okall 13 (by decide +kernel) (fun pc h => by unfold pr_Big_init; rw [h]; rfl)
set_option maxRecDepth 100000 in
theorem dk_Big_sign : ∀ pc, rz_ok1 prog_2_method_2_code pc (pr_Big_sign pc) = true := rz_okall 5 (by decide +kernel) (fun pc h => by unfold pr_Big_sign; rw [h]; rfl)
set_option maxRecDepth 100000 in
theorem dk_Big_flip : ∀ pc, rz_ok1 prog_2_method_3_code pc (pr_Big_flip pc) = true := rz_okall 10 (by decide +kernel) (fun pc h => by unfold pr_Big_flip; rw [h]; rfl)
set_option maxRecDepth 100000 in
theorem dk_Big_put : ∀ pc, rz_ok1 prog_2_method_4_code pc (pr_Big_put pc) = true := rz_okall 63 (by decide +kernel) (fun pc h => by unfold pr_Big_put; rw [h]; rfl)
set_option maxRecDepth 100000 in
theorem dk_Big_take : ∀ pc, rz_ok1 prog_2_method_5_code pc (pr_Big_take pc) = true := rz_okall 34 (by decide +kernel) (fun pc h => by unfold pr_Big_take; rw [h]; rfl)
set_option maxRecDepth 100000 in
theorem dk_Big_scale : ∀ pc, rz_ok1 prog_2_method_6_code pc (pr_Big_scale pc) = true := rz_okall 82 (by decide +kernel) (fun pc h => by unfold pr_Big_scale; rw [h]; rfl)
set_option maxRecDepth 100000 in
theorem dk_Big_multiply : ∀ pc, rz_ok1 prog_2_method_7_code pc (pr_Big_multiply pc) = true := rz_okall 181 (by decide +kernel) (fun pc h => by unfold pr_Big_multiply; rw [h]; rfl)
set_option maxRecDepth 100000 in
theorem dk_Big_add : ∀ pc, rz_ok1 prog_2_method_8_code pc (pr_Big_add pc) = true := rz_okall 84 (by decide +kernel) (fun pc h => by unfold pr_Big_add; rw [h]; rfl)
set_option maxRecDepth 100000 in
theorem dk_Big_addSizes : ∀ pc, rz_ok1 prog_2_method_9_code pc (pr_Big_addSizes pc) = true := rz_okall 108 (by decide +kernel) (fun pc h => by unfold pr_Big_addSizes; rw [h]; rfl)
set_option maxRecDepth 100000 in
theorem dk_Big_takeSizes : ∀ pc, rz_ok1 prog_2_method_10_code pc (pr_Big_takeSizes pc) = true := rz_okall 87 (by decide +kernel) (fun pc h => by unfold pr_Big_takeSizes; rw [h]; rfl)
set_option maxRecDepth 100000 in
theorem dk_Big_isSmaller : ∀ pc, rz_ok1 prog_2_method_11_code pc (pr_Big_isSmaller pc) = true := rz_okall 85 (by decide +kernel) (fun pc h => by unfold pr_Big_isSmaller; rw [h]; rfl)
set_option maxRecDepth 100000 in
theorem dk_Big_endWith : ∀ pc, rz_ok1 prog_2_method_12_code pc (pr_Big_endWith pc) = true := rz_okall 91 (by decide +kernel) (fun pc h => by unfold pr_Big_endWith; rw [h]; rfl)
set_option maxRecDepth 100000 in
theorem dk_Big_divideBy : ∀ pc, rz_ok1 prog_2_method_13_code pc (pr_Big_divideBy pc) = true := rz_okall 68 (by decide +kernel) (fun pc h => by unfold pr_Big_divideBy; rw [h]; rfl)
set_option maxRecDepth 100000 in
theorem dk_Big_isWithin : ∀ pc, rz_ok1 prog_2_method_14_code pc (pr_Big_isWithin pc) = true := rz_okall 32 (by decide +kernel) (fun pc h => by unfold pr_Big_isWithin; rw [h]; rfl)
set_option maxRecDepth 100000 in
theorem dk_Big_asLong : ∀ pc, rz_ok1 prog_2_method_15_code pc (pr_Big_asLong pc) = true := rz_okall 24 (by decide +kernel) (fun pc h => by unfold pr_Big_asLong; rw [h]; rfl)
set_option maxRecDepth 100000 in
theorem dk_Kind_size : ∀ pc, rz_ok1 prog_3_method_4_code pc (pr_Kind_size pc) = true := rz_okall 22 (by decide +kernel) (fun pc h => by unfold pr_Kind_size; rw [h]; rfl)
set_option maxRecDepth 100000 in
theorem dk_Kind_isEven : ∀ pc, rz_ok1 prog_3_method_5_code pc (pr_Kind_isEven pc) = true := rz_okall 20 (by decide +kernel) (fun pc h => by unfold pr_Kind_isEven; rw [h]; rfl)
set_option maxRecDepth 100000 in
theorem dk_Kind_sizeOfType : ∀ pc, rz_ok1 prog_3_method_6_code pc (pr_Kind_sizeOfType pc) = true := rz_okall 95 (by decide +kernel) (fun pc h => by unfold pr_Kind_sizeOfType; rw [h]; rfl)
set_option maxRecDepth 100000 in
theorem dk_Kind_ones : ∀ pc, rz_ok1 prog_3_method_7_code pc (pr_Kind_ones pc) = true := rz_okall 24 (by decide +kernel) (fun pc h => by unfold pr_Kind_ones; rw [h]; rfl)
set_option maxRecDepth 100000 in
theorem dk_Parts_init : ∀ pc, rz_ok1 prog_4_method_1_code pc (pr_Parts_init pc) = true := rz_okall 41 (by decide +kernel) (fun pc h => by unfold pr_Parts_init; rw [h]; rfl)
set_option maxRecDepth 100000 in
theorem dk_Parts_startWith : ∀ pc, rz_ok1 prog_4_method_2_code pc (pr_Parts_startWith pc) = true := rz_okall 11 (by decide +kernel) (fun pc h => by unfold pr_Parts_startWith; rw [h]; rfl)
set_option maxRecDepth 100000 in
theorem dk_Parts_take : ∀ pc, rz_ok1 prog_4_method_3_code pc (pr_Parts_take pc) = true := rz_okall 129 (by decide +kernel) (fun pc h => by unfold pr_Parts_take; rw [h]; rfl)
set_option maxRecDepth 100000 in
theorem dk_Parts_isBefore : ∀ pc, rz_ok1 prog_4_method_4_code pc (pr_Parts_isBefore pc) = true := rz_okall 83 (by decide +kernel) (fun pc h => by unfold pr_Parts_isBefore; rw [h]; rfl)
set_option maxRecDepth 100000 in
theorem dk_Parts_rootsInAll : ∀ pc, rz_ok1 prog_4_method_5_code pc (pr_Parts_rootsInAll pc) = true := rz_okall 29 (by decide +kernel) (fun pc h => by unfold pr_Parts_rootsInAll; rw [h]; rfl)
set_option maxRecDepth 100000 in
theorem dk_Parts_shareWith : ∀ pc, rz_ok1 prog_4_method_6_code pc (pr_Parts_shareWith pc) = true := rz_okall 116 (by decide +kernel) (fun pc h => by unfold pr_Parts_shareWith; rw [h]; rfl)
set_option maxRecDepth 100000 in
theorem dk_Parts_oftenOf : ∀ pc, rz_ok1 prog_4_method_7_code pc (pr_Parts_oftenOf pc) = true := rz_okall 74 (by decide +kernel) (fun pc h => by unfold pr_Parts_oftenOf; rw [h]; rfl)
set_option maxRecDepth 100000 in
theorem dk_PV_init : ∀ pc, rz_ok1 prog_5_method_1_code pc (pr_PV_init pc) = true := rz_okall 68 (by decide +kernel) (fun pc h => by unfold pr_PV_init; rw [h]; rfl)
set_option maxRecDepth 100000 in
theorem dk_PV_typeBy : ∀ pc, rz_ok1 prog_5_method_2_code pc (pr_PV_typeBy pc) = true := rz_okall 162 (by decide +kernel) (fun pc h => by unfold pr_PV_typeBy; rw [h]; rfl)
set_option maxRecDepth 100000 in
theorem dk_PV_load : ∀ pc, rz_ok1 prog_5_method_3_code pc (pr_PV_load pc) = true := rz_okall 60 (by decide +kernel) (fun pc h => by unfold pr_PV_load; rw [h]; rfl)
set_option maxRecDepth 100000 in
theorem dk_PV_hasUnlikeRoots : ∀ pc, rz_ok1 prog_5_method_4_code pc (pr_PV_hasUnlikeRoots pc) = true := rz_okall 65 (by decide +kernel) (fun pc h => by unfold pr_PV_hasUnlikeRoots; rw [h]; rfl)
set_option maxRecDepth 100000 in
theorem dk_PV_makeFirstStep : ∀ pc, rz_ok1 prog_5_method_5_code pc (pr_PV_makeFirstStep pc) = true := rz_okall 74 (by decide +kernel) (fun pc h => by unfold pr_PV_makeFirstStep; rw [h]; rfl)
set_option maxRecDepth 100000 in
theorem dk_PV_makeNextStep : ∀ pc, rz_ok1 prog_5_method_6_code pc (pr_PV_makeNextStep pc) = true := rz_okall 79 (by decide +kernel) (fun pc h => by unfold pr_PV_makeNextStep; rw [h]; rfl)
set_option maxRecDepth 100000 in
theorem dk_PV_multiplyStepByX : ∀ pc, rz_ok1 prog_5_method_7_code pc (pr_PV_multiplyStepByX pc) = true := rz_okall 76 (by decide +kernel) (fun pc h => by unfold pr_PV_multiplyStepByX; rw [h]; rfl)
set_option maxRecDepth 100000 in
theorem dk_PV_multiplyStep : ∀ pc, rz_ok1 prog_5_method_8_code pc (pr_PV_multiplyStep pc) = true := rz_okall 83 (by decide +kernel) (fun pc h => by unfold pr_PV_multiplyStep; rw [h]; rfl)
set_option maxRecDepth 100000 in
theorem dk_PV_shareWithStep : ∀ pc, rz_ok1 prog_5_method_9_code pc (pr_PV_shareWithStep pc) = true := rz_okall 45 (by decide +kernel) (fun pc h => by unfold pr_PV_shareWithStep; rw [h]; rfl)
set_option maxRecDepth 100000 in
theorem dk_PV_shareLeftRight : ∀ pc, rz_ok1 prog_5_method_10_code pc (pr_PV_shareLeftRight pc) = true := rz_okall 77 (by decide +kernel) (fun pc h => by unfold pr_PV_shareLeftRight; rw [h]; rfl)
set_option maxRecDepth 100000 in
theorem dk_PV_partWhole : ∀ pc, rz_ok1 prog_5_method_11_code pc (pr_PV_partWhole pc) = true := rz_okall 99 (by decide +kernel) (fun pc h => by unfold pr_PV_partWhole; rw [h]; rfl)
set_option maxRecDepth 100000 in
theorem dk_PV_reduce : ∀ pc, rz_ok1 prog_5_method_12_code pc (pr_PV_reduce pc) = true := rz_okall 99 (by decide +kernel) (fun pc h => by unfold pr_PV_reduce; rw [h]; rfl)
set_option maxRecDepth 100000 in
theorem dk_PV_makeEndWithOne : ∀ pc, rz_ok1 prog_5_method_13_code pc (pr_PV_makeEndWithOne pc) = true := rz_okall 45 (by decide +kernel) (fun pc h => by unfold pr_PV_makeEndWithOne; rw [h]; rfl)
set_option maxRecDepth 100000 in
theorem dk_PV_inverseOf : ∀ pc, rz_ok1 prog_5_method_14_code pc (pr_PV_inverseOf pc) = true := rz_okall 71 (by decide +kernel) (fun pc h => by unfold pr_PV_inverseOf; rw [h]; rfl)
set_option maxRecDepth 100000 in
theorem dk_PV_byPrime : ∀ pc, rz_ok1 prog_5_method_15_code pc (pr_PV_byPrime pc) = true := rz_okall 24 (by decide +kernel) (fun pc h => by unfold pr_PV_byPrime; rw [h]; rfl)
set_option maxRecDepth 100000 in
theorem dk_RA_init : ∀ pc, rz_ok1 prog_6_method_1_code pc (pr_RA_init pc) = true := rz_okall 107 (by decide +kernel) (fun pc h => by unfold pr_RA_init; rw [h]; rfl)
set_option maxRecDepth 100000 in
theorem dk_RA_addRoots : ∀ pc, rz_ok1 prog_6_method_2_code pc (pr_RA_addRoots pc) = true := rz_okall 171 (by decide +kernel) (fun pc h => by unfold pr_RA_addRoots; rw [h]; rfl)
set_option maxRecDepth 100000 in
theorem dk_RA_fillPowers : ∀ pc, rz_ok1 prog_6_method_3_code pc (pr_RA_fillPowers pc) = true := rz_okall 138 (by decide +kernel) (fun pc h => by unfold pr_RA_fillPowers; rw [h]; rfl)
set_option maxRecDepth 100000 in
theorem dk_RA_mixPowers : ∀ pc, rz_ok1 prog_6_method_4_code pc (pr_RA_mixPowers pc) = true := rz_okall 117 (by decide +kernel) (fun pc h => by unfold pr_RA_mixPowers; rw [h]; rfl)
set_option maxRecDepth 100000 in
theorem dk_SC_init : ∀ pc, rz_ok1 prog_7_method_1_code pc (pr_SC_init pc) = true := rz_okall 85 (by decide +kernel) (fun pc h => by unfold pr_SC_init; rw [h]; rfl)
set_option maxRecDepth 100000 in
theorem dk_SC_build : ∀ pc, rz_ok1 prog_7_method_2_code pc (pr_SC_build pc) = true := rz_okall 148 (by decide +kernel) (fun pc h => by unfold pr_SC_build; rw [h]; rfl)
set_option maxRecDepth 100000 in
theorem dk_SC_putRest : ∀ pc, rz_ok1 prog_7_method_3_code pc (pr_SC_putRest pc) = true := rz_okall 151 (by decide +kernel) (fun pc h => by unfold pr_SC_putRest; rw [h]; rfl)
set_option maxRecDepth 100000 in
theorem dk_SC_lower : ∀ pc, rz_ok1 prog_7_method_4_code pc (pr_SC_lower pc) = true := rz_okall 137 (by decide +kernel) (fun pc h => by unfold pr_SC_lower; rw [h]; rfl)
set_option maxRecDepth 100000 in
theorem dk_SC_variationsAt : ∀ pc, rz_ok1 prog_7_method_5_code pc (pr_SC_variationsAt pc) = true := rz_okall 56 (by decide +kernel) (fun pc h => by unfold pr_SC_variationsAt; rw [h]; rfl)
set_option maxRecDepth 100000 in
theorem dk_SC_signAt : ∀ pc, rz_ok1 prog_7_method_6_code pc (pr_SC_signAt pc) = true := rz_okall 69 (by decide +kernel) (fun pc h => by unfold pr_SC_signAt; rw [h]; rfl)
set_option maxRecDepth 100000 in
theorem dk_SC_variationsFarOut : ∀ pc, rz_ok1 prog_7_method_7_code pc (pr_SC_variationsFarOut pc) = true := rz_okall 91 (by decide +kernel) (fun pc h => by unfold pr_SC_variationsFarOut; rw [h]; rfl)
set_option maxRecDepth 100000 in
theorem dk_Sp_init : ∀ pc, rz_ok1 prog_8_method_1_code pc (pr_Sp_init pc) = true := rz_okall 89 (by decide +kernel) (fun pc h => by unfold pr_Sp_init; rw [h]; rfl)
set_option maxRecDepth 100000 in
theorem dk_Sp_splitInto : ∀ pc, rz_ok1 prog_8_method_2_code pc (pr_Sp_splitInto pc) = true := rz_okall 143 (by decide +kernel) (fun pc h => by unfold pr_Sp_splitInto; rw [h]; rfl)
set_option maxRecDepth 100000 in
theorem dk_Sp_takePowersOfX : ∀ pc, rz_ok1 prog_8_method_3_code pc (pr_Sp_takePowersOfX pc) = true := rz_okall 15 (by decide +kernel) (fun pc h => by unfold pr_Sp_takePowersOfX; rw [h]; rfl)
set_option maxRecDepth 100000 in
theorem dk_Sp_takeLinears : ∀ pc, rz_ok1 prog_8_method_4_code pc (pr_Sp_takeLinears pc) = true := rz_okall 48 (by decide +kernel) (fun pc h => by unfold pr_Sp_takeLinears; rw [h]; rfl)
set_option maxRecDepth 100000 in
theorem dk_Sp_takeLinearsWith : ∀ pc, rz_ok1 prog_8_method_5_code pc (pr_Sp_takeLinearsWith pc) = true := rz_okall 90 (by decide +kernel) (fun pc h => by unfold pr_Sp_takeLinearsWith; rw [h]; rfl)
set_option maxRecDepth 100000 in
theorem dk_Sp_possibleDegrees : ∀ pc, rz_ok1 prog_8_method_6_code pc (pr_Sp_possibleDegrees pc) = true := rz_okall 74 (by decide +kernel) (fun pc h => by unfold pr_Sp_possibleDegrees; rw [h]; rfl)
set_option maxRecDepth 100000 in
theorem dk_Sp_sumsOfDigits : ∀ pc, rz_ok1 prog_8_method_7_code pc (pr_Sp_sumsOfDigits pc) = true := rz_okall 27 (by decide +kernel) (fun pc h => by unfold pr_Sp_sumsOfDigits; rw [h]; rfl)
set_option maxRecDepth 100000 in
theorem dk_Sp_takeQuadratic : ∀ pc, rz_ok1 prog_8_method_8_code pc (pr_Sp_takeQuadratic pc) = true := rz_okall 237 (by decide +kernel) (fun pc h => by unfold pr_Sp_takeQuadratic; rw [h]; rfl)
set_option maxRecDepth 100000 in
theorem dk_Sp_takeCubic : ∀ pc, rz_ok1 prog_8_method_9_code pc (pr_Sp_takeCubic pc) = true := rz_okall 175 (by decide +kernel) (fun pc h => by unfold pr_Sp_takeCubic; rw [h]; rfl)
set_option maxRecDepth 100000 in
theorem dk_Sp_takeCubicWith : ∀ pc, rz_ok1 prog_8_method_10_code pc (pr_Sp_takeCubicWith pc) = true := rz_okall 134 (by decide +kernel) (fun pc h => by unfold pr_Sp_takeCubicWith; rw [h]; rfl)
set_option maxRecDepth 100000 in
theorem dk_Sp_setPart : ∀ pc, rz_ok1 prog_8_method_11_code pc (pr_Sp_setPart pc) = true := rz_okall 38 (by decide +kernel) (fun pc h => by unfold pr_Sp_setPart; rw [h]; rfl)
set_option maxRecDepth 100000 in
theorem dk_Sp_takeOut : ∀ pc, rz_ok1 prog_8_method_12_code pc (pr_Sp_takeOut pc) = true := rz_okall 70 (by decide +kernel) (fun pc h => by unfold pr_Sp_takeOut; rw [h]; rfl)
set_option maxRecDepth 100000 in
theorem dk_Sp_dividesRest : ∀ pc, rz_ok1 prog_8_method_13_code pc (pr_Sp_dividesRest pc) = true := rz_okall 171 (by decide +kernel) (fun pc h => by unfold pr_Sp_dividesRest; rw [h]; rfl)
set_option maxRecDepth 100000 in
theorem dk_Sp_listDivisors : ∀ pc, rz_ok1 prog_8_method_14_code pc (pr_Sp_listDivisors pc) = true := rz_okall 129 (by decide +kernel) (fun pc h => by unfold pr_Sp_listDivisors; rw [h]; rfl)
set_option maxRecDepth 100000 in
theorem dk_RC_init : ∀ pc, rz_ok1 prog_1_method_1_code pc (pr_RC_init pc) = true := rz_okall 119 (by decide +kernel) (fun pc h => by unfold pr_RC_init; rw [h]; rfl)
set_option maxRecDepth 100000 in
theorem dk_RC_told : ∀ pc, rz_ok1 prog_1_method_2_code pc (pr_RC_told pc) = true := rz_okall 143 (by decide +kernel) (fun pc h => by unfold pr_RC_told; rw [h]; rfl)
set_option maxRecDepth 100000 in
theorem dk_RC_number : ∀ pc, rz_ok1 prog_1_method_3_code pc (pr_RC_number pc) = true := rz_okall 32 (by decide +kernel) (fun pc h => by unfold pr_RC_number; rw [h]; rfl)
set_option maxRecDepth 100000 in
theorem dk_RC_degree : ∀ pc, rz_ok1 prog_1_method_4_code pc (pr_RC_degree pc) = true := rz_okall 22 (by decide +kernel) (fun pc h => by unfold pr_RC_degree; rw [h]; rfl)
set_option maxRecDepth 100000 in
theorem dk_RC_at : ∀ pc, rz_ok1 prog_1_method_5_code pc (pr_RC_at pc) = true := rz_okall 34 (by decide +kernel) (fun pc h => by unfold pr_RC_at; rw [h]; rfl)
set_option maxRecDepth 100000 in
theorem dk_RC_times : ∀ pc, rz_ok1 prog_1_method_6_code pc (pr_RC_times pc) = true := rz_okall 112 (by decide +kernel) (fun pc h => by unfold pr_RC_times; rw [h]; rfl)
set_option maxRecDepth 100000 in
theorem dk_RC_plus : ∀ pc, rz_ok1 prog_1_method_7_code pc (pr_RC_plus pc) = true := rz_okall 75 (by decide +kernel) (fun pc h => by unfold pr_RC_plus; rw [h]; rfl)
set_option maxRecDepth 100000 in
theorem dk_RC_derive : ∀ pc, rz_ok1 prog_1_method_8_code pc (pr_RC_derive pc) = true := rz_okall 39 (by decide +kernel) (fun pc h => by unfold pr_RC_derive; rw [h]; rfl)
set_option maxRecDepth 100000 in
theorem dk_RC_shift : ∀ pc, rz_ok1 prog_1_method_9_code pc (pr_RC_shift pc) = true := rz_okall 102 (by decide +kernel) (fun pc h => by unfold pr_RC_shift; rw [h]; rfl)
set_option maxRecDepth 100000 in
theorem dk_RC_turn : ∀ pc, rz_ok1 prog_1_method_10_code pc (pr_RC_turn pc) = true := rz_okall 87 (by decide +kernel) (fun pc h => by unfold pr_RC_turn; rw [h]; rfl)
set_option maxRecDepth 100000 in
theorem dk_RC_common : ∀ pc, rz_ok1 prog_1_method_11_code pc (pr_RC_common pc) = true := rz_okall 189 (by decide +kernel) (fun pc h => by unfold pr_RC_common; rw [h]; rfl)
set_option maxRecDepth 100000 in
theorem dk_RC_sums : ∀ pc, rz_ok1 prog_1_method_12_code pc (pr_RC_sums pc) = true := rz_okall 140 (by decide +kernel) (fun pc h => by unfold pr_RC_sums; rw [h]; rfl)
set_option maxRecDepth 100000 in
theorem dk_RC_factors : ∀ pc, rz_ok1 prog_1_method_13_code pc (pr_RC_factors pc) = true := rz_okall 62 (by decide +kernel) (fun pc h => by unfold pr_RC_factors; rw [h]; rfl)
set_option maxRecDepth 100000 in
theorem dk_RC_factor : ∀ pc, rz_ok1 prog_1_method_14_code pc (pr_RC_factor pc) = true := rz_okall 112 (by decide +kernel) (fun pc h => by unfold pr_RC_factor; rw [h]; rfl)
set_option maxRecDepth 100000 in
theorem dk_RC_type : ∀ pc, rz_ok1 prog_1_method_15_code pc (pr_RC_type pc) = true := rz_okall 53 (by decide +kernel) (fun pc h => by unfold pr_RC_type; rw [h]; rfl)
set_option maxRecDepth 100000 in
theorem dk_RC_tally : ∀ pc, rz_ok1 prog_1_method_16_code pc (pr_RC_tally pc) = true := rz_okall 87 (by decide +kernel) (fun pc h => by unfold pr_RC_tally; rw [h]; rfl)
set_option maxRecDepth 100000 in
set_option maxHeartbeats 4000000 in
theorem dk_all_0 : ∀ y ∈ [0, 1, 2, 3, 4, 5, 6, 7, 8, 9, 10, 11, 12, 13, 14, 15, 16, 17, 18, 19, 20, 21, 22, 23, 24, 25, 26, 27, 28, 29, 30, 31, 32, 33, 34, 35, 36, 37, 38, 39, 40, 41, 42, 43, 44, 45, 46, 47, 48, 49, 50, 51, 52, 53, 54, 55, 56, 57, 58, 59, 60, 61, 62, 63, 64, 65, 66, 67, 68, 69, 70, 71, 72, 73, 74, 75, 76, 77, 78, 79, 80, 81], ∀ pc, rz_ok1 (rz_mB y) pc (rz_p y pc) = true := List.forall_mem_cons.mpr ⟨dk_Big_init, List.forall_mem_cons.mpr ⟨dk_Big_sign, List.forall_mem_cons.mpr ⟨dk_Big_flip, List.forall_mem_cons.mpr ⟨dk_Big_put, List.forall_mem_cons.mpr ⟨dk_Big_take, List.forall_mem_cons.mpr ⟨dk_Big_scale, List.forall_mem_cons.mpr ⟨dk_Big_multiply, List.forall_mem_cons.mpr ⟨dk_Big_add, List.forall_mem_cons.mpr ⟨dk_Big_addSizes, List.forall_mem_cons.mpr ⟨dk_Big_takeSizes, List.forall_mem_cons.mpr ⟨dk_Big_isSmaller, List.forall_mem_cons.mpr ⟨dk_Big_endWith, List.forall_mem_cons.mpr ⟨dk_Big_divideBy, List.forall_mem_cons.mpr ⟨dk_Big_isWithin, List.forall_mem_cons.mpr ⟨dk_Big_asLong, List.forall_mem_cons.mpr ⟨dk_Kind_size, List.forall_mem_cons.mpr ⟨dk_Kind_isEven, List.forall_mem_cons.mpr ⟨dk_Kind_sizeOfType, List.forall_mem_cons.mpr ⟨dk_Kind_ones, List.forall_mem_cons.mpr ⟨dk_Parts_init, List.forall_mem_cons.mpr ⟨dk_Parts_startWith, List.forall_mem_cons.mpr ⟨dk_Parts_take, List.forall_mem_cons.mpr ⟨dk_Parts_isBefore, List.forall_mem_cons.mpr ⟨dk_Parts_rootsInAll, List.forall_mem_cons.mpr ⟨dk_Parts_shareWith, List.forall_mem_cons.mpr ⟨dk_Parts_oftenOf, List.forall_mem_cons.mpr ⟨dk_PV_init, List.forall_mem_cons.mpr ⟨dk_PV_typeBy, List.forall_mem_cons.mpr ⟨dk_PV_load, List.forall_mem_cons.mpr ⟨dk_PV_hasUnlikeRoots, List.forall_mem_cons.mpr ⟨dk_PV_makeFirstStep, List.forall_mem_cons.mpr ⟨dk_PV_makeNextStep, List.forall_mem_cons.mpr ⟨dk_PV_multiplyStepByX, List.forall_mem_cons.mpr ⟨dk_PV_multiplyStep, List.forall_mem_cons.mpr ⟨dk_PV_shareWithStep, List.forall_mem_cons.mpr ⟨dk_PV_shareLeftRight, List.forall_mem_cons.mpr ⟨dk_PV_partWhole, List.forall_mem_cons.mpr ⟨dk_PV_reduce, List.forall_mem_cons.mpr ⟨dk_PV_makeEndWithOne, List.forall_mem_cons.mpr ⟨dk_PV_inverseOf, List.forall_mem_cons.mpr ⟨dk_PV_byPrime, List.forall_mem_cons.mpr ⟨dk_RA_init, List.forall_mem_cons.mpr ⟨dk_RA_addRoots, List.forall_mem_cons.mpr ⟨dk_RA_fillPowers, List.forall_mem_cons.mpr ⟨dk_RA_mixPowers, List.forall_mem_cons.mpr ⟨dk_SC_init, List.forall_mem_cons.mpr ⟨dk_SC_build, List.forall_mem_cons.mpr ⟨dk_SC_putRest, List.forall_mem_cons.mpr ⟨dk_SC_lower, List.forall_mem_cons.mpr ⟨dk_SC_variationsAt, List.forall_mem_cons.mpr ⟨dk_SC_signAt, List.forall_mem_cons.mpr ⟨dk_SC_variationsFarOut, List.forall_mem_cons.mpr ⟨dk_Sp_init, List.forall_mem_cons.mpr ⟨dk_Sp_splitInto, List.forall_mem_cons.mpr ⟨dk_Sp_takePowersOfX, List.forall_mem_cons.mpr ⟨dk_Sp_takeLinears, List.forall_mem_cons.mpr ⟨dk_Sp_takeLinearsWith, List.forall_mem_cons.mpr ⟨dk_Sp_possibleDegrees, List.forall_mem_cons.mpr ⟨dk_Sp_sumsOfDigits, List.forall_mem_cons.mpr ⟨dk_Sp_takeQuadratic, List.forall_mem_cons.mpr ⟨dk_Sp_takeCubic, List.forall_mem_cons.mpr ⟨dk_Sp_takeCubicWith, List.forall_mem_cons.mpr ⟨dk_Sp_setPart, List.forall_mem_cons.mpr ⟨dk_Sp_takeOut, List.forall_mem_cons.mpr ⟨dk_Sp_dividesRest, List.forall_mem_cons.mpr ⟨dk_Sp_listDivisors, List.forall_mem_cons.mpr ⟨dk_RC_init, List.forall_mem_cons.mpr ⟨dk_RC_told, List.forall_mem_cons.mpr ⟨dk_RC_number, List.forall_mem_cons.mpr ⟨dk_RC_degree, List.forall_mem_cons.mpr ⟨dk_RC_at, List.forall_mem_cons.mpr ⟨dk_RC_times, List.forall_mem_cons.mpr ⟨dk_RC_plus, List.forall_mem_cons.mpr ⟨dk_RC_derive, List.forall_mem_cons.mpr ⟨dk_RC_shift, List.forall_mem_cons.mpr ⟨dk_RC_turn, List.forall_mem_cons.mpr ⟨dk_RC_common, List.forall_mem_cons.mpr ⟨dk_RC_sums, List.forall_mem_cons.mpr ⟨dk_RC_factors, List.forall_mem_cons.mpr ⟨dk_RC_factor, List.forall_mem_cons.mpr ⟨dk_RC_type, List.forall_mem_cons.mpr ⟨dk_RC_tally, fun _ h => absurd h List.not_mem_nil⟩⟩⟩⟩⟩⟩⟩⟩⟩⟩⟩⟩⟩⟩⟩⟩⟩⟩⟩⟩⟩⟩⟩⟩⟩⟩⟩⟩⟩⟩⟩⟩⟩⟩⟩⟩⟩⟩⟩⟩⟩⟩⟩⟩⟩⟩⟩⟩⟩⟩⟩⟩⟩⟩⟩⟩⟩⟩⟩⟩⟩⟩⟩⟩⟩⟩⟩⟩⟩⟩⟩⟩⟩⟩⟩⟩⟩⟩⟩⟩⟩⟩
