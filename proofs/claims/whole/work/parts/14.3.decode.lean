/-! the same, further methods -/
set_option maxRecDepth 100000 in
theorem dk_M_kindOf : ∀ pc, rz_ok1 prog_10_method_63_code pc (pr_M_kindOf pc) = true := rz_okall 237 (by decide +kernel) (fun pc h => by unfold pr_M_kindOf; rw [h]; rfl)
set_option maxRecDepth 100000 in
theorem dk_M_twoOf : ∀ pc, rz_ok1 prog_10_method_64_code pc (pr_M_twoOf pc) = true := rz_okall 50 (by decide +kernel) (fun pc h => by unfold pr_M_twoOf; rw [h]; rfl)
set_option maxRecDepth 100000 in
theorem dk_M_quarticOf : ∀ pc, rz_ok1 prog_10_method_65_code pc (pr_M_quarticOf pc) = true := rz_okall 228 (by decide +kernel) (fun pc h => by unfold pr_M_quarticOf; rw [h]; rfl)
set_option maxRecDepth 100000 in
theorem dk_M_orderOf : ∀ pc, rz_ok1 prog_10_method_66_code pc (pr_M_orderOf pc) = true := rz_okall 76 (by decide +kernel) (fun pc h => by unfold pr_M_orderOf; rw [h]; rfl)
set_option maxRecDepth 100000 in
theorem dk_M_fieldsOf : ∀ pc, rz_ok1 prog_10_method_67_code pc (pr_M_fieldsOf pc) = true := rz_okall 73 (by decide +kernel) (fun pc h => by unfold pr_M_fieldsOf; rw [h]; rfl)
set_option maxRecDepth 100000 in
theorem dk_M_manyOf : ∀ pc, rz_ok1 prog_10_method_68_code pc (pr_M_manyOf pc) = true := rz_okall 239 (by decide +kernel) (fun pc h => by unfold pr_M_manyOf; rw [h]; rfl)
set_option maxRecDepth 100000 in
theorem dk_M_isGrouped : ∀ pc, rz_ok1 prog_10_method_69_code pc (pr_M_isGrouped pc) = true := rz_okall 23 (by decide +kernel) (fun pc h => by unfold pr_M_isGrouped; rw [h]; rfl)
set_option maxRecDepth 100000 in
theorem dk_M_group : ∀ pc, rz_ok1 prog_10_method_70_code pc (pr_M_group pc) = true := rz_okall 128 (by decide +kernel) (fun pc h => by unfold pr_M_group; rw [h]; rfl)
set_option maxRecDepth 100000 in
theorem dk_M_typeOf : ∀ pc, rz_ok1 prog_10_method_71_code pc (pr_M_typeOf pc) = true := rz_okall 101 (by decide +kernel) (fun pc h => by unfold pr_M_typeOf; rw [h]; rfl)
set_option maxRecDepth 100000 in
theorem dk_M_changes : ∀ pc, rz_ok1 prog_10_method_72_code pc (pr_M_changes pc) = true := rz_okall 112 (by decide +kernel) (fun pc h => by unfold pr_M_changes; rw [h]; rfl)
set_option maxRecDepth 100000 in
theorem dk_M_discriminant : ∀ pc, rz_ok1 prog_10_method_73_code pc (pr_M_discriminant pc) = true := rz_okall 188 (by decide +kernel) (fun pc h => by unfold pr_M_discriminant; rw [h]; rfl)
set_option maxRecDepth 100000 in
theorem dk_M_setBig : ∀ pc, rz_ok1 prog_10_method_74_code pc (pr_M_setBig pc) = true := rz_okall 95 (by decide +kernel) (fun pc h => by unfold pr_M_setBig; rw [h]; rfl)
set_option maxRecDepth 100000 in
theorem dk_M_copyBig : ∀ pc, rz_ok1 prog_10_method_75_code pc (pr_M_copyBig pc) = true := rz_okall 70 (by decide +kernel) (fun pc h => by unfold pr_M_copyBig; rw [h]; rfl)
set_option maxRecDepth 100000 in
theorem dk_M_usedBig : ∀ pc, rz_ok1 prog_10_method_76_code pc (pr_M_usedBig pc) = true := rz_okall 33 (by decide +kernel) (fun pc h => by unfold pr_M_usedBig; rw [h]; rfl)
set_option maxRecDepth 100000 in
theorem dk_M_timesBig : ∀ pc, rz_ok1 prog_10_method_77_code pc (pr_M_timesBig pc) = true := rz_okall 186 (by decide +kernel) (fun pc h => by unfold pr_M_timesBig; rw [h]; rfl)
set_option maxRecDepth 100000 in
theorem dk_M_compareBig : ∀ pc, rz_ok1 prog_10_method_78_code pc (pr_M_compareBig pc) = true := rz_okall 76 (by decide +kernel) (fun pc h => by unfold pr_M_compareBig; rw [h]; rfl)
set_option maxRecDepth 100000 in
theorem dk_M_plusBig : ∀ pc, rz_ok1 prog_10_method_79_code pc (pr_M_plusBig pc) = true := rz_okall 284 (by decide +kernel) (fun pc h => by unfold pr_M_plusBig; rw [h]; rfl)
set_option maxRecDepth 100000 in
theorem dk_M_addRest : ∀ pc, rz_ok1 prog_10_method_80_code pc (pr_M_addRest pc) = true := rz_okall 324 (by decide +kernel) (fun pc h => by unfold pr_M_addRest; rw [h]; rfl)
set_option maxRecDepth 100000 in
theorem dk_M_makeChain : ∀ pc, rz_ok1 prog_10_method_81_code pc (pr_M_makeChain pc) = true := rz_okall 182 (by decide +kernel) (fun pc h => by unfold pr_M_makeChain; rw [h]; rfl)
set_option maxRecDepth 100000 in
theorem dk_M_signAt : ∀ pc, rz_ok1 prog_10_method_82_code pc (pr_M_signAt pc) = true := rz_okall 76 (by decide +kernel) (fun pc h => by unfold pr_M_signAt; rw [h]; rfl)
set_option maxRecDepth 100000 in
theorem dk_M_changesAt : ∀ pc, rz_ok1 prog_10_method_83_code pc (pr_M_changesAt pc) = true := rz_okall 68 (by decide +kernel) (fun pc h => by unfold pr_M_changesAt; rw [h]; rfl)
set_option maxRecDepth 100000 in
theorem dk_M_changesFar : ∀ pc, rz_ok1 prog_10_method_84_code pc (pr_M_changesFar pc) = true := rz_okall 92 (by decide +kernel) (fun pc h => by unfold pr_M_changesFar; rw [h]; rfl)
set_option maxRecDepth 100000 in
theorem dk_M_count : ∀ pc, rz_ok1 prog_10_method_85_code pc (pr_M_count pc) = true := rz_okall 76 (by decide +kernel) (fun pc h => by unfold pr_M_count; rw [h]; rfl)
set_option maxRecDepth 100000 in
theorem dk_M_reals : ∀ pc, rz_ok1 prog_10_method_86_code pc (pr_M_reals pc) = true := rz_okall 43 (by decide +kernel) (fun pc h => by unfold pr_M_reals; rw [h]; rfl)
set_option maxRecDepth 100000 in
theorem dk_M_status : ∀ pc, rz_ok1 prog_10_method_87_code pc (pr_M_status pc) = true := rz_okall 10 (by decide +kernel) (fun pc h => by unfold pr_M_status; rw [h]; rfl)
set_option maxRecDepth 100000 in
theorem dk_J_highestOneBit : ∀ pc, rz_ok1 prog_12_method_45_code pc (pr_J_highestOneBit pc) = true := rz_okall 10 (by decide +kernel) (fun pc h => by unfold pr_J_highestOneBit; rw [h]; rfl)
set_option maxRecDepth 100000 in
theorem dk_J_numberOfLeadingZeros : ∀ pc, rz_ok1 prog_12_method_47_code pc (pr_J_numberOfLeadingZeros pc) = true := rz_okall 79 (by decide +kernel) (fun pc h => by unfold pr_J_numberOfLeadingZeros; rw [h]; rfl)
set_option maxRecDepth 100000 in
theorem dk_J_bitCount : ∀ pc, rz_ok1 prog_12_method_49_code pc (pr_J_bitCount pc) = true := rz_okall 53 (by decide +kernel) (fun pc h => by unfold pr_J_bitCount; rw [h]; rfl)
set_option maxRecDepth 100000 in
theorem dk_J_signum : ∀ pc, rz_ok1 prog_13_method_57_code pc (pr_J_signum pc) = true := rz_okall 12 (by decide +kernel) (fun pc h => by unfold pr_J_signum; rw [h]; rfl)
set_option maxRecDepth 100000 in
theorem dk_J_abs : ∀ pc, rz_ok1 prog_14_method_61_code pc (pr_J_abs pc) = true := rz_okall 13 (by decide +kernel) (fun pc h => by unfold pr_J_abs; rw [h]; rfl)
set_option maxRecDepth 100000 in
theorem dk_J_max : ∀ pc, rz_ok1 prog_14_method_65_code pc (pr_J_max pc) = true := rz_okall 11 (by decide +kernel) (fun pc h => by unfold pr_J_max; rw [h]; rfl)
set_option maxRecDepth 100000 in
theorem dk_J_min : ∀ pc, rz_ok1 prog_14_method_69_code pc (pr_J_min pc) = true := rz_okall 11 (by decide +kernel) (fun pc h => by unfold pr_J_min; rw [h]; rfl)
set_option maxRecDepth 100000 in
set_option maxHeartbeats 4000000 in
theorem dk_all_3 : ∀ y ∈ [180, 181, 182, 183, 184, 185, 186, 187, 188, 189, 190, 191, 192, 193, 194, 195, 196, 197, 198, 199, 200, 201, 202, 203, 204, 205, 206, 207, 208, 209, 210, 211], ∀ pc, rz_ok1 (rz_mB y) pc (rz_p y pc) = true := List.forall_mem_cons.mpr ⟨dk_M_kindOf, List.forall_mem_cons.mpr ⟨dk_M_twoOf, List.forall_mem_cons.mpr ⟨dk_M_quarticOf, List.forall_mem_cons.mpr ⟨dk_M_orderOf, List.forall_mem_cons.mpr ⟨dk_M_fieldsOf, List.forall_mem_cons.mpr ⟨dk_M_manyOf, List.forall_mem_cons.mpr ⟨dk_M_isGrouped, List.forall_mem_cons.mpr ⟨dk_M_group, List.forall_mem_cons.mpr ⟨dk_M_typeOf, List.forall_mem_cons.mpr ⟨dk_M_changes, List.forall_mem_cons.mpr ⟨dk_M_discriminant, List.forall_mem_cons.mpr ⟨dk_M_setBig, List.forall_mem_cons.mpr ⟨dk_M_copyBig, List.forall_mem_cons.mpr ⟨dk_M_usedBig, List.forall_mem_cons.mpr ⟨dk_M_timesBig, List.forall_mem_cons.mpr ⟨dk_M_compareBig, List.forall_mem_cons.mpr ⟨dk_M_plusBig, List.forall_mem_cons.mpr ⟨dk_M_addRest, List.forall_mem_cons.mpr ⟨dk_M_makeChain, List.forall_mem_cons.mpr ⟨dk_M_signAt, List.forall_mem_cons.mpr ⟨dk_M_changesAt, List.forall_mem_cons.mpr ⟨dk_M_changesFar, List.forall_mem_cons.mpr ⟨dk_M_count, List.forall_mem_cons.mpr ⟨dk_M_reals, List.forall_mem_cons.mpr ⟨dk_M_status, List.forall_mem_cons.mpr ⟨dk_J_highestOneBit, List.forall_mem_cons.mpr ⟨dk_J_numberOfLeadingZeros, List.forall_mem_cons.mpr ⟨dk_J_bitCount, List.forall_mem_cons.mpr ⟨dk_J_signum, List.forall_mem_cons.mpr ⟨dk_J_abs, List.forall_mem_cons.mpr ⟨dk_J_max, List.forall_mem_cons.mpr ⟨dk_J_min, fun _ h => absurd h List.not_mem_nil⟩⟩⟩⟩⟩⟩⟩⟩⟩⟩⟩⟩⟩⟩⟩⟩⟩⟩⟩⟩⟩⟩⟩⟩⟩⟩⟩⟩⟩⟩⟩⟩
