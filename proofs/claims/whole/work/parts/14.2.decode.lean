/-! the same, further methods -/
set_option maxRecDepth 100000 in
theorem dk_M_takesOut : ∀ pc, rz_ok1 prog_10_method_23_code pc (pr_M_takesOut pc) = true := rz_okall 175 (by decide +kernel) (fun pc h => by unfold pr_M_takesOut; rw [h]; rfl)
set_option maxRecDepth 100000 in
theorem dk_M_into : ∀ pc, rz_ok1 prog_10_method_24_code pc (pr_M_into pc) = true := rz_okall 20 (by decide +kernel) (fun pc h => by unfold pr_M_into; rw [h]; rfl)
set_option maxRecDepth 100000 in
theorem dk_M_findLinear : ∀ pc, rz_ok1 prog_10_method_25_code pc (pr_M_findLinear pc) = true := rz_okall 129 (by decide +kernel) (fun pc h => by unfold pr_M_findLinear; rw [h]; rfl)
set_option maxRecDepth 100000 in
theorem dk_M_findQuadratic : ∀ pc, rz_ok1 prog_10_method_26_code pc (pr_M_findQuadratic pc) = true := rz_okall 218 (by decide +kernel) (fun pc h => by unfold pr_M_findQuadratic; rw [h]; rfl)
set_option maxRecDepth 100000 in
theorem dk_M_findCubic : ∀ pc, rz_ok1 prog_10_method_27_code pc (pr_M_findCubic pc) = true := rz_okall 179 (by decide +kernel) (fun pc h => by unfold pr_M_findCubic; rw [h]; rfl)
set_option maxRecDepth 100000 in
theorem dk_M_findMiddle : ∀ pc, rz_ok1 prog_10_method_28_code pc (pr_M_findMiddle pc) = true := rz_okall 148 (by decide +kernel) (fun pc h => by unfold pr_M_findMiddle; rw [h]; rfl)
set_option maxRecDepth 100000 in
theorem dk_M_takeLeft : ∀ pc, rz_ok1 prog_10_method_29_code pc (pr_M_takeLeft pc) = true := rz_okall 45 (by decide +kernel) (fun pc h => by unfold pr_M_takeLeft; rw [h]; rfl)
set_option maxRecDepth 100000 in
theorem dk_M_findFactors : ∀ pc, rz_ok1 prog_10_method_30_code pc (pr_M_findFactors pc) = true := rz_okall 177 (by decide +kernel) (fun pc h => by unfold pr_M_findFactors; rw [h]; rfl)
set_option maxRecDepth 100000 in
theorem dk_M_isAhead : ∀ pc, rz_ok1 prog_10_method_31_code pc (pr_M_isAhead pc) = true := rz_okall 109 (by decide +kernel) (fun pc h => by unfold pr_M_isAhead; rw [h]; rfl)
set_option maxRecDepth 100000 in
theorem dk_M_sortFactors : ∀ pc, rz_ok1 prog_10_method_32_code pc (pr_M_sortFactors pc) = true := rz_okall 50 (by decide +kernel) (fun pc h => by unfold pr_M_sortFactors; rw [h]; rfl)
set_option maxRecDepth 100000 in
theorem dk_M_exchange : ∀ pc, rz_ok1 prog_10_method_33_code pc (pr_M_exchange pc) = true := rz_okall 115 (by decide +kernel) (fun pc h => by unfold pr_M_exchange; rw [h]; rfl)
set_option maxRecDepth 100000 in
theorem dk_M_factors : ∀ pc, rz_ok1 prog_10_method_34_code pc (pr_M_factors pc) = true := rz_okall 140 (by decide +kernel) (fun pc h => by unfold pr_M_factors; rw [h]; rfl)
set_option maxRecDepth 100000 in
theorem dk_M_factor : ∀ pc, rz_ok1 prog_10_method_35_code pc (pr_M_factor pc) = true := rz_okall 112 (by decide +kernel) (fun pc h => by unfold pr_M_factor; rw [h]; rfl)
set_option maxRecDepth 100000 in
theorem dk_M_keepOther : ∀ pc, rz_ok1 prog_10_method_36_code pc (pr_M_keepOther pc) = true := rz_okall 85 (by decide +kernel) (fun pc h => by unfold pr_M_keepOther; rw [h]; rfl)
set_option maxRecDepth 100000 in
theorem dk_M_oftenThere : ∀ pc, rz_ok1 prog_10_method_37_code pc (pr_M_oftenThere pc) = true := rz_okall 104 (by decide +kernel) (fun pc h => by unfold pr_M_oftenThere; rw [h]; rfl)
set_option maxRecDepth 100000 in
theorem dk_M_makeTimes : ∀ pc, rz_ok1 prog_10_method_38_code pc (pr_M_makeTimes pc) = true := rz_okall 96 (by decide +kernel) (fun pc h => by unfold pr_M_makeTimes; rw [h]; rfl)
set_option maxRecDepth 100000 in
theorem dk_M_common : ∀ pc, rz_ok1 prog_10_method_39_code pc (pr_M_common pc) = true := rz_okall 260 (by decide +kernel) (fun pc h => by unfold pr_M_common; rw [h]; rfl)
set_option maxRecDepth 100000 in
theorem dk_M_findSums : ∀ pc, rz_ok1 prog_10_method_40_code pc (pr_M_findSums pc) = true := rz_okall 153 (by decide +kernel) (fun pc h => by unfold pr_M_findSums; rw [h]; rfl)
set_option maxRecDepth 100000 in
theorem dk_M_powerOf : ∀ pc, rz_ok1 prog_10_method_41_code pc (pr_M_powerOf pc) = true := rz_okall 23 (by decide +kernel) (fun pc h => by unfold pr_M_powerOf; rw [h]; rfl)
set_option maxRecDepth 100000 in
theorem dk_M_part : ∀ pc, rz_ok1 prog_10_method_42_code pc (pr_M_part pc) = true := rz_okall 45 (by decide +kernel) (fun pc h => by unfold pr_M_part; rw [h]; rfl)
set_option maxRecDepth 100000 in
theorem dk_M_power : ∀ pc, rz_ok1 prog_10_method_43_code pc (pr_M_power pc) = true := rz_okall 86 (by decide +kernel) (fun pc h => by unfold pr_M_power; rw [h]; rfl)
set_option maxRecDepth 100000 in
theorem dk_M_pairs : ∀ pc, rz_ok1 prog_10_method_44_code pc (pr_M_pairs pc) = true := rz_okall 121 (by decide +kernel) (fun pc h => by unfold pr_M_pairs; rw [h]; rfl)
set_option maxRecDepth 100000 in
theorem dk_M_choose : ∀ pc, rz_ok1 prog_10_method_45_code pc (pr_M_choose pc) = true := rz_okall 33 (by decide +kernel) (fun pc h => by unfold pr_M_choose; rw [h]; rfl)
set_option maxRecDepth 100000 in
theorem dk_M_sums : ∀ pc, rz_ok1 prog_10_method_46_code pc (pr_M_sums pc) = true := rz_okall 195 (by decide +kernel) (fun pc h => by unfold pr_M_sums; rw [h]; rfl)
set_option maxRecDepth 100000 in
theorem dk_M_bothSum : ∀ pc, rz_ok1 prog_10_method_47_code pc (pr_M_bothSum pc) = true := rz_okall 46 (by decide +kernel) (fun pc h => by unfold pr_M_bothSum; rw [h]; rfl)
set_option maxRecDepth 100000 in
theorem dk_M_inverse : ∀ pc, rz_ok1 prog_10_method_48_code pc (pr_M_inverse pc) = true := rz_okall 39 (by decide +kernel) (fun pc h => by unfold pr_M_inverse; rw [h]; rfl)
set_option maxRecDepth 100000 in
theorem dk_M_topOf : ∀ pc, rz_ok1 prog_10_method_49_code pc (pr_M_topOf pc) = true := rz_okall 23 (by decide +kernel) (fun pc h => by unfold pr_M_topOf; rw [h]; rfl)
set_option maxRecDepth 100000 in
theorem dk_M_multiply : ∀ pc, rz_ok1 prog_10_method_50_code pc (pr_M_multiply pc) = true := rz_okall 253 (by decide +kernel) (fun pc h => by unfold pr_M_multiply; rw [h]; rfl)
set_option maxRecDepth 100000 in
theorem dk_M_toPrime : ∀ pc, rz_ok1 prog_10_method_51_code pc (pr_M_toPrime pc) = true := rz_okall 121 (by decide +kernel) (fun pc h => by unfold pr_M_toPrime; rw [h]; rfl)
set_option maxRecDepth 100000 in
theorem dk_M_commonBy : ∀ pc, rz_ok1 prog_10_method_52_code pc (pr_M_commonBy pc) = true := rz_okall 158 (by decide +kernel) (fun pc h => by unfold pr_M_commonBy; rw [h]; rfl)
set_option maxRecDepth 100000 in
theorem dk_M_typeBy : ∀ pc, rz_ok1 prog_10_method_53_code pc (pr_M_typeBy pc) = true := rz_okall 171 (by decide +kernel) (fun pc h => by unfold pr_M_typeBy; rw [h]; rfl)
set_option maxRecDepth 100000 in
theorem dk_M_degreesBy : ∀ pc, rz_ok1 prog_10_method_54_code pc (pr_M_degreesBy pc) = true := rz_okall 200 (by decide +kernel) (fun pc h => by unfold pr_M_degreesBy; rw [h]; rfl)
set_option maxRecDepth 100000 in
theorem dk_M_before : ∀ pc, rz_ok1 prog_10_method_55_code pc (pr_M_before pc) = true := rz_okall 38 (by decide +kernel) (fun pc h => by unfold pr_M_before; rw [h]; rfl)
set_option maxRecDepth 100000 in
theorem dk_M_isPrime : ∀ pc, rz_ok1 prog_10_method_56_code pc (pr_M_isPrime pc) = true := rz_okall 44 (by decide +kernel) (fun pc h => by unfold pr_M_isPrime; rw [h]; rfl)
set_option maxRecDepth 100000 in
theorem dk_M_type : ∀ pc, rz_ok1 prog_10_method_57_code pc (pr_M_type pc) = true := rz_okall 56 (by decide +kernel) (fun pc h => by unfold pr_M_type; rw [h]; rfl)
set_option maxRecDepth 100000 in
theorem dk_M_tally : ∀ pc, rz_ok1 prog_10_method_58_code pc (pr_M_tally pc) = true := rz_okall 90 (by decide +kernel) (fun pc h => by unfold pr_M_tally; rw [h]; rfl)
set_option maxRecDepth 100000 in
theorem dk_M_isSquare : ∀ pc, rz_ok1 prog_10_method_59_code pc (pr_M_isSquare pc) = true := rz_okall 73 (by decide +kernel) (fun pc h => by unfold pr_M_isSquare; rw [h]; rfl)
set_option maxRecDepth 100000 in
theorem dk_M_areSquare : ∀ pc, rz_ok1 prog_10_method_60_code pc (pr_M_areSquare pc) = true := rz_okall 69 (by decide +kernel) (fun pc h => by unfold pr_M_areSquare; rw [h]; rfl)
set_option maxRecDepth 100000 in
theorem dk_M_three : ∀ pc, rz_ok1 prog_10_method_61_code pc (pr_M_three pc) = true := rz_okall 66 (by decide +kernel) (fun pc h => by unfold pr_M_three; rw [h]; rfl)
set_option maxRecDepth 100000 in
theorem dk_M_fourOf : ∀ pc, rz_ok1 prog_10_method_62_code pc (pr_M_fourOf pc) = true := rz_okall 310 (by decide +kernel) (fun pc h => by unfold pr_M_fourOf; rw [h]; rfl)
set_option maxRecDepth 100000 in
set_option maxHeartbeats 4000000 in
theorem dk_all_2 : ∀ y ∈ [140, 141, 142, 143, 144, 145, 146, 147, 148, 149, 150, 151, 152, 153, 154, 155, 156, 157, 158, 159, 160, 161, 162, 163, 164, 165, 166, 167, 168, 169, 170, 171, 172, 173, 174, 175, 176, 177, 178, 179], ∀ pc, rz_ok1 (rz_mB y) pc (rz_p y pc) = true := List.forall_mem_cons.mpr ⟨dk_M_takesOut, List.forall_mem_cons.mpr ⟨dk_M_into, List.forall_mem_cons.mpr ⟨dk_M_findLinear, List.forall_mem_cons.mpr ⟨dk_M_findQuadratic, List.forall_mem_cons.mpr ⟨dk_M_findCubic, List.forall_mem_cons.mpr ⟨dk_M_findMiddle, List.forall_mem_cons.mpr ⟨dk_M_takeLeft, List.forall_mem_cons.mpr ⟨dk_M_findFactors, List.forall_mem_cons.mpr ⟨dk_M_isAhead, List.forall_mem_cons.mpr ⟨dk_M_sortFactors, List.forall_mem_cons.mpr ⟨dk_M_exchange, List.forall_mem_cons.mpr ⟨dk_M_factors, List.forall_mem_cons.mpr ⟨dk_M_factor, List.forall_mem_cons.mpr ⟨dk_M_keepOther, List.forall_mem_cons.mpr ⟨dk_M_oftenThere, List.forall_mem_cons.mpr ⟨dk_M_makeTimes, List.forall_mem_cons.mpr ⟨dk_M_common, List.forall_mem_cons.mpr ⟨dk_M_findSums, List.forall_mem_cons.mpr ⟨dk_M_powerOf, List.forall_mem_cons.mpr ⟨dk_M_part, List.forall_mem_cons.mpr ⟨dk_M_power, List.forall_mem_cons.mpr ⟨dk_M_pairs, List.forall_mem_cons.mpr ⟨dk_M_choose, List.forall_mem_cons.mpr ⟨dk_M_sums, List.forall_mem_cons.mpr ⟨dk_M_bothSum, List.forall_mem_cons.mpr ⟨dk_M_inverse, List.forall_mem_cons.mpr ⟨dk_M_topOf, List.forall_mem_cons.mpr ⟨dk_M_multiply, List.forall_mem_cons.mpr ⟨dk_M_toPrime, List.forall_mem_cons.mpr ⟨dk_M_commonBy, List.forall_mem_cons.mpr ⟨dk_M_typeBy, List.forall_mem_cons.mpr ⟨dk_M_degreesBy, List.forall_mem_cons.mpr ⟨dk_M_before, List.forall_mem_cons.mpr ⟨dk_M_isPrime, List.forall_mem_cons.mpr ⟨dk_M_type, List.forall_mem_cons.mpr ⟨dk_M_tally, List.forall_mem_cons.mpr ⟨dk_M_isSquare, List.forall_mem_cons.mpr ⟨dk_M_areSquare, List.forall_mem_cons.mpr ⟨dk_M_three, List.forall_mem_cons.mpr ⟨dk_M_fourOf, fun _ h => absurd h List.not_mem_nil⟩⟩⟩⟩⟩⟩⟩⟩⟩⟩⟩⟩⟩⟩⟩⟩⟩⟩⟩⟩⟩⟩⟩⟩⟩⟩⟩⟩⟩⟩⟩⟩⟩⟩⟩⟩⟩⟩⟩⟩
