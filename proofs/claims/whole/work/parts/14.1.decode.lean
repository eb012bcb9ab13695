/-! the same, further methods -/
set_option maxRecDepth 100000 in
theorem dk_RC_group : ∀ pc, rz_ok1 prog_1_method_17_code pc (pr_RC_group pc) = true := rz_okall 136 (by decide +kernel) (fun pc h => by unfold pr_RC_group; rw [h]; rfl)
set_option maxRecDepth 100000 in
theorem dk_RC_changes : ∀ pc, rz_ok1 prog_1_method_18_code pc (pr_RC_changes pc) = true := rz_okall 60 (by decide +kernel) (fun pc h => by unfold pr_RC_changes; rw [h]; rfl)
set_option maxRecDepth 100000 in
theorem dk_RC_discriminant : ∀ pc, rz_ok1 prog_1_method_19_code pc (pr_RC_discriminant pc) = true := rz_okall 55 (by decide +kernel) (fun pc h => by unfold pr_RC_discriminant; rw [h]; rfl)
set_option maxRecDepth 100000 in
theorem dk_RC_count : ∀ pc, rz_ok1 prog_1_method_20_code pc (pr_RC_count pc) = true := rz_okall 142 (by decide +kernel) (fun pc h => by unfold pr_RC_count; rw [h]; rfl)
set_option maxRecDepth 100000 in
theorem dk_RC_reals : ∀ pc, rz_ok1 prog_1_method_21_code pc (pr_RC_reals pc) = true := rz_okall 109 (by decide +kernel) (fun pc h => by unfold pr_RC_reals; rw [h]; rfl)
set_option maxRecDepth 100000 in
theorem dk_RC_power : ∀ pc, rz_ok1 prog_1_method_22_code pc (pr_RC_power pc) = true := rz_okall 86 (by decide +kernel) (fun pc h => by unfold pr_RC_power; rw [h]; rfl)
set_option maxRecDepth 100000 in
theorem dk_RC_pairs : ∀ pc, rz_ok1 prog_1_method_23_code pc (pr_RC_pairs pc) = true := rz_okall 123 (by decide +kernel) (fun pc h => by unfold pr_RC_pairs; rw [h]; rfl)
set_option maxRecDepth 100000 in
theorem dk_RC_status : ∀ pc, rz_ok1 prog_1_method_24_code pc (pr_RC_status pc) = true := rz_okall 5 (by decide +kernel) (fun pc h => by unfold pr_RC_status; rw [h]; rfl)
set_option maxRecDepth 100000 in
theorem dk_RC_refuse : ∀ pc, rz_ok1 prog_1_method_25_code pc (pr_RC_refuse pc) = true := rz_okall 7 (by decide +kernel) (fun pc h => by unfold pr_RC_refuse; rw [h]; rfl)
set_option maxRecDepth 100000 in
theorem dk_RC_keepMade : ∀ pc, rz_ok1 prog_1_method_26_code pc (pr_RC_keepMade pc) = true := rz_okall 67 (by decide +kernel) (fun pc h => by unfold pr_RC_keepMade; rw [h]; rfl)
set_option maxRecDepth 100000 in
theorem dk_RC_fillRootPowers : ∀ pc, rz_ok1 prog_1_method_27_code pc (pr_RC_fillRootPowers pc) = true := rz_okall 122 (by decide +kernel) (fun pc h => by unfold pr_RC_fillRootPowers; rw [h]; rfl)
set_option maxRecDepth 100000 in
theorem dk_RC_partOfFraction : ∀ pc, rz_ok1 prog_1_method_28_code pc (pr_RC_partOfFraction pc) = true := rz_okall 76 (by decide +kernel) (fun pc h => by unfold pr_RC_partOfFraction; rw [h]; rfl)
set_option maxRecDepth 100000 in
theorem dk_RC_isRow : ∀ pc, rz_ok1 prog_1_method_29_code pc (pr_RC_isRow pc) = true := rz_okall 16 (by decide +kernel) (fun pc h => by unfold pr_RC_isRow; rw [h]; rfl)
set_option maxRecDepth 100000 in
theorem dk_RC_isWithin : ∀ pc, rz_ok1 prog_1_method_30_code pc (pr_RC_isWithin pc) = true := rz_okall 17 (by decide +kernel) (fun pc h => by unfold pr_RC_isWithin; rw [h]; rfl)
set_option maxRecDepth 100000 in
theorem dk_RC_isSmallNumber : ∀ pc, rz_ok1 prog_1_method_31_code pc (pr_RC_isSmallNumber pc) = true := rz_okall 22 (by decide +kernel) (fun pc h => by unfold pr_RC_isSmallNumber; rw [h]; rfl)
set_option maxRecDepth 100000 in
theorem dk_RC_hasSmallNumbers : ∀ pc, rz_ok1 prog_1_method_32_code pc (pr_RC_hasSmallNumbers pc) = true := rz_okall 27 (by decide +kernel) (fun pc h => by unfold pr_RC_hasSmallNumbers; rw [h]; rfl)
set_option maxRecDepth 100000 in
theorem dk_RC_isSmall : ∀ pc, rz_ok1 prog_1_method_33_code pc (pr_RC_isSmall pc) = true := rz_okall 21 (by decide +kernel) (fun pc h => by unfold pr_RC_isSmall; rw [h]; rfl)
set_option maxRecDepth 100000 in
theorem dk_RC_isPlain : ∀ pc, rz_ok1 prog_1_method_34_code pc (pr_RC_isPlain pc) = true := rz_okall 31 (by decide +kernel) (fun pc h => by unfold pr_RC_isPlain; rw [h]; rfl)
set_option maxRecDepth 100000 in
theorem dk_RC_hasGroup : ∀ pc, rz_ok1 prog_1_method_35_code pc (pr_RC_hasGroup pc) = true := rz_okall 21 (by decide +kernel) (fun pc h => by unfold pr_RC_hasGroup; rw [h]; rfl)
set_option maxRecDepth 100000 in
theorem dk_RC_degreeOf : ∀ pc, rz_ok1 prog_1_method_36_code pc (pr_RC_degreeOf pc) = true := rz_okall 25 (by decide +kernel) (fun pc h => by unfold pr_RC_degreeOf; rw [h]; rfl)
set_option maxRecDepth 100000 in
theorem dk_RC_clear : ∀ pc, rz_ok1 prog_1_method_37_code pc (pr_RC_clear pc) = true := rz_okall 19 (by decide +kernel) (fun pc h => by unfold pr_RC_clear; rw [h]; rfl)
set_option maxRecDepth 100000 in
theorem dk_RC_copy : ∀ pc, rz_ok1 prog_1_method_38_code pc (pr_RC_copy pc) = true := rz_okall 10 (by decide +kernel) (fun pc h => by unfold pr_RC_copy; rw [h]; rfl)
set_option maxRecDepth 100000 in
theorem dk_RC_valueAt : ∀ pc, rz_ok1 prog_1_method_39_code pc (pr_RC_valueAt pc) = true := rz_okall 28 (by decide +kernel) (fun pc h => by unfold pr_RC_valueAt; rw [h]; rfl)
set_option maxRecDepth 100000 in
theorem dk_RC_deriveInto : ∀ pc, rz_ok1 prog_1_method_40_code pc (pr_RC_deriveInto pc) = true := rz_okall 31 (by decide +kernel) (fun pc h => by unfold pr_RC_deriveInto; rw [h]; rfl)
set_option maxRecDepth 100000 in
theorem dk_RC_addProduct : ∀ pc, rz_ok1 prog_1_method_41_code pc (pr_RC_addProduct pc) = true := rz_okall 62 (by decide +kernel) (fun pc h => by unfold pr_RC_addProduct; rw [h]; rfl)
set_option maxRecDepth 100000 in
theorem dk_RC_takeContentOut : ∀ pc, rz_ok1 prog_1_method_42_code pc (pr_RC_takeContentOut pc) = true := rz_okall 88 (by decide +kernel) (fun pc h => by unfold pr_RC_takeContentOut; rw [h]; rfl)
set_option maxRecDepth 100000 in
theorem dk_RC_greatestDivisor : ∀ pc, rz_ok1 prog_1_method_43_code pc (pr_RC_greatestDivisor pc) = true := rz_okall 53 (by decide +kernel) (fun pc h => by unfold pr_RC_greatestDivisor; rw [h]; rfl)
set_option maxRecDepth 100000 in
theorem dk_RC_divides : ∀ pc, rz_ok1 prog_1_method_44_code pc (pr_RC_divides pc) = true := rz_okall 20 (by decide +kernel) (fun pc h => by unfold pr_RC_divides; rw [h]; rfl)
set_option maxRecDepth 100000 in
theorem dk_RC_isPrime : ∀ pc, rz_ok1 prog_1_method_45_code pc (pr_RC_isPrime pc) = true := rz_okall 39 (by decide +kernel) (fun pc h => by unfold pr_RC_isPrime; rw [h]; rfl)
set_option maxRecDepth 100000 in
theorem dk_RC_isSquare : ∀ pc, rz_ok1 prog_1_method_46_code pc (pr_RC_isSquare pc) = true := rz_okall 64 (by decide +kernel) (fun pc h => by unfold pr_RC_isSquare; rw [h]; rfl)
set_option maxRecDepth 100000 in
theorem dk_RC_isSameSquareClass : ∀ pc, rz_ok1 prog_1_method_47_code pc (pr_RC_isSameSquareClass pc) = true := rz_okall 71 (by decide +kernel) (fun pc h => by unfold pr_RC_isSameSquareClass; rw [h]; rfl)
set_option maxRecDepth 100000 in
theorem dk_RC_discriminantOf : ∀ pc, rz_ok1 prog_1_method_48_code pc (pr_RC_discriminantOf pc) = true := rz_okall 266 (by decide +kernel) (fun pc h => by unfold pr_RC_discriminantOf; rw [h]; rfl)
set_option maxRecDepth 100000 in
theorem dk_RC_kindOf : ∀ pc, rz_ok1 prog_1_method_49_code pc (pr_RC_kindOf pc) = true := rz_okall 92 (by decide +kernel) (fun pc h => by unfold pr_RC_kindOf; rw [h]; rfl)
set_option maxRecDepth 100000 in
theorem dk_RC_kindOfQuadratics : ∀ pc, rz_ok1 prog_1_method_50_code pc (pr_RC_kindOfQuadratics pc) = true := rz_okall 65 (by decide +kernel) (fun pc h => by unfold pr_RC_kindOfQuadratics; rw [h]; rfl)
set_option maxRecDepth 100000 in
theorem dk_RC_kindOfQuartic : ∀ pc, rz_ok1 prog_1_method_51_code pc (pr_RC_kindOfQuartic pc) = true := rz_okall 164 (by decide +kernel) (fun pc h => by unfold pr_RC_kindOfQuartic; rw [h]; rfl)
set_option maxRecDepth 100000 in
theorem dk_RC_splitsBy : ∀ pc, rz_ok1 prog_1_method_52_code pc (pr_RC_splitsBy pc) = true := rz_okall 27 (by decide +kernel) (fun pc h => by unfold pr_RC_splitsBy; rw [h]; rfl)
set_option maxRecDepth 100000 in
theorem dk_RC_wholeRoot : ∀ pc, rz_ok1 prog_1_method_53_code pc (pr_RC_wholeRoot pc) = true := rz_okall 123 (by decide +kernel) (fun pc h => by unfold pr_RC_wholeRoot; rw [h]; rfl)
set_option maxRecDepth 100000 in
theorem dk_M_init : ∀ pc, rz_ok1 prog_10_method_1_code pc (pr_M_init pc) = true := rz_okall 227 (by decide +kernel) (fun pc h => by unfold pr_M_init; rw [h]; rfl)
set_option maxRecDepth 100000 in
theorem dk_M_in : ∀ pc, rz_ok1 prog_10_method_3_code pc (pr_M_in pc) = true := rz_okall 19 (by decide +kernel) (fun pc h => by unfold pr_M_in; rw [h]; rfl)
set_option maxRecDepth 100000 in
theorem dk_M_said : ∀ pc, rz_ok1 prog_10_method_4_code pc (pr_M_said pc) = true := rz_okall 15 (by decide +kernel) (fun pc h => by unfold pr_M_said; rw [h]; rfl)
set_option maxRecDepth 100000 in
theorem dk_M_divisor : ∀ pc, rz_ok1 prog_10_method_5_code pc (pr_M_divisor pc) = true := rz_okall 56 (by decide +kernel) (fun pc h => by unfold pr_M_divisor; rw [h]; rfl)
set_option maxRecDepth 100000 in
theorem dk_M_isRow : ∀ pc, rz_ok1 prog_10_method_6_code pc (pr_M_isRow pc) = true := rz_okall 10 (by decide +kernel) (fun pc h => by unfold pr_M_isRow; rw [h]; rfl)
set_option maxRecDepth 100000 in
theorem dk_M_degreeOf : ∀ pc, rz_ok1 prog_10_method_7_code pc (pr_M_degreeOf pc) = true := rz_okall 31 (by decide +kernel) (fun pc h => by unfold pr_M_degreeOf; rw [h]; rfl)
set_option maxRecDepth 100000 in
theorem dk_M_told : ∀ pc, rz_ok1 prog_10_method_8_code pc (pr_M_told pc) = true := rz_okall 241 (by decide +kernel) (fun pc h => by unfold pr_M_told; rw [h]; rfl)
set_option maxRecDepth 100000 in
theorem dk_M_number : ∀ pc, rz_ok1 prog_10_method_9_code pc (pr_M_number pc) = true := rz_okall 42 (by decide +kernel) (fun pc h => by unfold pr_M_number; rw [h]; rfl)
set_option maxRecDepth 100000 in
theorem dk_M_degree : ∀ pc, rz_ok1 prog_10_method_10_code pc (pr_M_degree pc) = true := rz_okall 23 (by decide +kernel) (fun pc h => by unfold pr_M_degree; rw [h]; rfl)
set_option maxRecDepth 100000 in
theorem dk_M_at : ∀ pc, rz_ok1 prog_10_method_11_code pc (pr_M_at pc) = true := rz_okall 67 (by decide +kernel) (fun pc h => by unfold pr_M_at; rw [h]; rfl)
set_option maxRecDepth 100000 in
theorem dk_M_clear : ∀ pc, rz_ok1 prog_10_method_12_code pc (pr_M_clear pc) = true := rz_okall 22 (by decide +kernel) (fun pc h => by unfold pr_M_clear; rw [h]; rfl)
set_option maxRecDepth 100000 in
theorem dk_M_put : ∀ pc, rz_ok1 prog_10_method_13_code pc (pr_M_put pc) = true := rz_okall 112 (by decide +kernel) (fun pc h => by unfold pr_M_put; rw [h]; rfl)
set_option maxRecDepth 100000 in
theorem dk_M_times : ∀ pc, rz_ok1 prog_10_method_14_code pc (pr_M_times pc) = true := rz_okall 153 (by decide +kernel) (fun pc h => by unfold pr_M_times; rw [h]; rfl)
set_option maxRecDepth 100000 in
theorem dk_M_plus : ∀ pc, rz_ok1 prog_10_method_15_code pc (pr_M_plus pc) = true := rz_okall 90 (by decide +kernel) (fun pc h => by unfold pr_M_plus; rw [h]; rfl)
set_option maxRecDepth 100000 in
theorem dk_M_derive : ∀ pc, rz_ok1 prog_10_method_16_code pc (pr_M_derive pc) = true := rz_okall 71 (by decide +kernel) (fun pc h => by unfold pr_M_derive; rw [h]; rfl)
set_option maxRecDepth 100000 in
theorem dk_M_shift : ∀ pc, rz_ok1 prog_10_method_17_code pc (pr_M_shift pc) = true := rz_okall 136 (by decide +kernel) (fun pc h => by unfold pr_M_shift; rw [h]; rfl)
set_option maxRecDepth 100000 in
theorem dk_M_turn : ∀ pc, rz_ok1 prog_10_method_18_code pc (pr_M_turn pc) = true := rz_okall 115 (by decide +kernel) (fun pc h => by unfold pr_M_turn; rw [h]; rfl)
set_option maxRecDepth 100000 in
theorem dk_M_isSmall : ∀ pc, rz_ok1 prog_10_method_19_code pc (pr_M_isSmall pc) = true := rz_okall 67 (by decide +kernel) (fun pc h => by unfold pr_M_isSmall; rw [h]; rfl)
set_option maxRecDepth 100000 in
theorem dk_M_isPlain : ∀ pc, rz_ok1 prog_10_method_20_code pc (pr_M_isPlain pc) = true := rz_okall 35 (by decide +kernel) (fun pc h => by unfold pr_M_isPlain; rw [h]; rfl)
set_option maxRecDepth 100000 in
theorem dk_M_valueAt : ∀ pc, rz_ok1 prog_10_method_21_code pc (pr_M_valueAt pc) = true := rz_okall 31 (by decide +kernel) (fun pc h => by unfold pr_M_valueAt; rw [h]; rfl)
set_option maxRecDepth 100000 in
theorem dk_M_divides : ∀ pc, rz_ok1 prog_10_method_22_code pc (pr_M_divides pc) = true := rz_okall 218 (by decide +kernel) (fun pc h => by unfold pr_M_divides; rw [h]; rfl)
set_option maxRecDepth 100000 in
set_option maxHeartbeats 4000000 in
theorem dk_all_1 : ∀ y ∈ [82, 83, 84, 85, 86, 87, 88, 89, 90, 91, 92, 93, 94, 95, 96, 97, 98, 99, 100, 101, 102, 103, 104, 105, 106, 107, 108, 109, 110, 111, 112, 113, 114, 115, 116, 117, 118, 119, 120, 121, 122, 123, 124, 125, 126, 127, 128, 129, 130, 131, 132, 133, 134, 135, 136, 137, 138, 139], ∀ pc, rz_ok1 (rz_mB y) pc (rz_p y pc) = true := List.forall_mem_cons.mpr ⟨dk_RC_group, List.forall_mem_cons.mpr ⟨dk_RC_changes, List.forall_mem_cons.mpr ⟨dk_RC_discriminant, List.forall_mem_cons.mpr ⟨dk_RC_count, List.forall_mem_cons.mpr ⟨dk_RC_reals, List.forall_mem_cons.mpr ⟨dk_RC_power, List.forall_mem_cons.mpr ⟨dk_RC_pairs, List.forall_mem_cons.mpr ⟨dk_RC_status, List.forall_mem_cons.mpr ⟨dk_RC_refuse, List.forall_mem_cons.mpr ⟨dk_RC_keepMade, List.forall_mem_cons.mpr ⟨dk_RC_fillRootPowers, List.forall_mem_cons.mpr ⟨dk_RC_partOfFraction, List.forall_mem_cons.mpr ⟨dk_RC_isRow, List.forall_mem_cons.mpr ⟨dk_RC_isWithin, List.forall_mem_cons.mpr ⟨dk_RC_isSmallNumber, List.forall_mem_cons.mpr ⟨dk_RC_hasSmallNumbers, List.forall_mem_cons.mpr ⟨dk_RC_isSmall, List.forall_mem_cons.mpr ⟨dk_RC_isPlain, List.forall_mem_cons.mpr ⟨dk_RC_hasGroup, List.forall_mem_cons.mpr ⟨dk_RC_degreeOf, List.forall_mem_cons.mpr ⟨dk_RC_clear, List.forall_mem_cons.mpr ⟨dk_RC_copy, List.forall_mem_cons.mpr ⟨dk_RC_valueAt, List.forall_mem_cons.mpr ⟨dk_RC_deriveInto, List.forall_mem_cons.mpr ⟨dk_RC_addProduct, List.forall_mem_cons.mpr ⟨dk_RC_takeContentOut, List.forall_mem_cons.mpr ⟨dk_RC_greatestDivisor, List.forall_mem_cons.mpr ⟨dk_RC_divides, List.forall_mem_cons.mpr ⟨dk_RC_isPrime, List.forall_mem_cons.mpr ⟨dk_RC_isSquare, List.forall_mem_cons.mpr ⟨dk_RC_isSameSquareClass, List.forall_mem_cons.mpr ⟨dk_RC_discriminantOf, List.forall_mem_cons.mpr ⟨dk_RC_kindOf, List.forall_mem_cons.mpr ⟨dk_RC_kindOfQuadratics, List.forall_mem_cons.mpr ⟨dk_RC_kindOfQuartic, List.forall_mem_cons.mpr ⟨dk_RC_splitsBy, List.forall_mem_cons.mpr ⟨dk_RC_wholeRoot, List.forall_mem_cons.mpr ⟨dk_M_init, List.forall_mem_cons.mpr ⟨dk_M_in, List.forall_mem_cons.mpr ⟨dk_M_said, List.forall_mem_cons.mpr ⟨dk_M_divisor, List.forall_mem_cons.mpr ⟨dk_M_isRow, List.forall_mem_cons.mpr ⟨dk_M_degreeOf, List.forall_mem_cons.mpr ⟨dk_M_told, List.forall_mem_cons.mpr ⟨dk_M_number, List.forall_mem_cons.mpr ⟨dk_M_degree, List.forall_mem_cons.mpr ⟨dk_M_at, List.forall_mem_cons.mpr ⟨dk_M_clear, List.forall_mem_cons.mpr ⟨dk_M_put, List.forall_mem_cons.mpr ⟨dk_M_times, List.forall_mem_cons.mpr ⟨dk_M_plus, List.forall_mem_cons.mpr ⟨dk_M_derive, List.forall_mem_cons.mpr ⟨dk_M_shift, List.forall_mem_cons.mpr ⟨dk_M_turn, List.forall_mem_cons.mpr ⟨dk_M_isSmall, List.forall_mem_cons.mpr ⟨dk_M_isPlain, List.forall_mem_cons.mpr ⟨dk_M_valueAt, List.forall_mem_cons.mpr ⟨dk_M_divides, fun _ h => absurd h List.not_mem_nil⟩⟩⟩⟩⟩⟩⟩⟩⟩⟩⟩⟩⟩⟩⟩⟩⟩⟩⟩⟩⟩⟩⟩⟩⟩⟩⟩⟩⟩⟩⟩⟩⟩⟩⟩⟩⟩⟩⟩⟩⟩⟩⟩⟩⟩⟩⟩⟩⟩⟩⟩⟩⟩⟩⟩⟩⟩⟩
