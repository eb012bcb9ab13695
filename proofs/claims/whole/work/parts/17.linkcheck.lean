/-! the links of every method (by gen/mk17.py) -/
set_option maxRecDepth 100000 in
theorem lkc_Big_init : ∀ pc, rz_lkc (rz_mi 0).1 (pr_Big_init pc).1 = true := rz_lkall 13 (by decide +kernel) (fun pc h => by unfold pr_Big_init; rw [h]; rfl)
set_option maxRecDepth 100000 in
theorem lkc_Big_sign : ∀ pc, rz_lkc (rz_mi 1).1 (pr_Big_sign pc).1 = true := rz_lkall 5 (by decide +kernel) (fun pc h => by unfold pr_Big_sign; rw [h]; rfl)
set_option maxRecDepth 100000 in
theorem lkc_Big_flip : ∀ pc, rz_lkc (rz_mi 2).1 (pr_Big_flip pc).1 = true := rz_lkall 10 (by decide +kernel) (fun pc h => by unfold pr_Big_flip; rw [h]; rfl)
set_option maxRecDepth 100000 in
theorem lkc_Big_put : ∀ pc, rz_lkc (rz_mi 3).1 (pr_Big_put pc).1 = true := rz_lkall 63 (by decide +kernel) (fun pc h => by unfold pr_Big_put; rw [h]; rfl)
set_option maxRecDepth 100000 in
theorem lkc_Big_take : ∀ pc, rz_lkc (rz_mi 4).1 (pr_Big_take pc).1 = true := rz_lkall 34 (by decide +kernel) (fun pc h => by unfold pr_Big_take; rw [h]; rfl)
set_option maxRecDepth 100000 in
theorem lkc_Big_scale : ∀ pc, rz_lkc (rz_mi 5).1 (pr_Big_scale pc).1 = true := rz_lkall 82 (by decide +kernel) (fun pc h => by unfold pr_Big_scale; rw [h]; rfl)
set_option maxRecDepth 100000 in
theorem lkc_Big_multiply : ∀ pc, rz_lkc (rz_mi 6).1 (pr_Big_multiply pc).1 = true := rz_lkall 181 (by decide +kernel) (fun pc h => by unfold pr_Big_multiply; rw [h]; rfl)
set_option maxRecDepth 100000 in
theorem lkc_Big_add : ∀ pc, rz_lkc (rz_mi 7).1 (pr_Big_add pc).1 = true := rz_lkall 84 (by decide +kernel) (fun pc h => by unfold pr_Big_add; rw [h]; rfl)
set_option maxRecDepth 100000 in
theorem lkc_Big_addSizes : ∀ pc, rz_lkc (rz_mi 8).1 (pr_Big_addSizes pc).1 = true := rz_lkall 108 (by decide +kernel) (fun pc h => by unfold pr_Big_addSizes; rw [h]; rfl)
set_option maxRecDepth 100000 in
theorem lkc_Big_takeSizes : ∀ pc, rz_lkc (rz_mi 9).1 (pr_Big_takeSizes pc).1 = true := rz_lkall 87 (by decide +kernel) (fun pc h => by unfold pr_Big_takeSizes; rw [h]; rfl)
set_option maxRecDepth 100000 in
theorem lkc_Big_isSmaller : ∀ pc, rz_lkc (rz_mi 10).1 (pr_Big_isSmaller pc).1 = true := rz_lkall 85 (by decide +kernel) (fun pc h => by unfold pr_Big_isSmaller; rw [h]; rfl)
set_option maxRecDepth 100000 in
theorem lkc_Big_endWith : ∀ pc, rz_lkc (rz_mi 11).1 (pr_Big_endWith pc).1 = true := rz_lkall 91 (by decide +kernel) (fun pc h => by unfold pr_Big_endWith; rw [h]; rfl)
set_option maxRecDepth 100000 in
theorem lkc_Big_divideBy : ∀ pc, rz_lkc (rz_mi 12).1 (pr_Big_divideBy pc).1 = true := rz_lkall 68 (by decide +kernel) (fun pc h => by unfold pr_Big_divideBy; rw [h]; rfl)
set_option maxRecDepth 100000 in
theorem lkc_Big_isWithin : ∀ pc, rz_lkc (rz_mi 13).1 (pr_Big_isWithin pc).1 = true := rz_lkall 32 (by decide +kernel) (fun pc h => by unfold pr_Big_isWithin; rw [h]; rfl)
set_option maxRecDepth 100000 in
theorem lkc_Big_asLong : ∀ pc, rz_lkc (rz_mi 14).1 (pr_Big_asLong pc).1 = true := rz_lkall 24 (by decide +kernel) (fun pc h => by unfold pr_Big_asLong; rw [h]; rfl)
set_option maxRecDepth 100000 in
theorem lkc_Kind_size : ∀ pc, rz_lkc (rz_mi 15).1 (pr_Kind_size pc).1 = true := rz_lkall 22 (by decide +kernel) (fun pc h => by unfold pr_Kind_size; rw [h]; rfl)
set_option maxRecDepth 100000 in
theorem lkc_Kind_isEven : ∀ pc, rz_lkc (rz_mi 16).1 (pr_Kind_isEven pc).1 = true := rz_lkall 20 (by decide +kernel) (fun pc h => by unfold pr_Kind_isEven; rw [h]; rfl)
set_option maxRecDepth 100000 in
theorem lkc_Kind_sizeOfType : ∀ pc, rz_lkc (rz_mi 17).1 (pr_Kind_sizeOfType pc).1 = true := rz_lkall 95 (by decide +kernel) (fun pc h => by unfold pr_Kind_sizeOfType; rw [h]; rfl)
set_option maxRecDepth 100000 in
theorem lkc_Kind_ones : ∀ pc, rz_lkc (rz_mi 18).1 (pr_Kind_ones pc).1 = true := rz_lkall 24 (by decide +kernel) (fun pc h => by unfold pr_Kind_ones; rw [h]; rfl)
set_option maxRecDepth 100000 in
theorem lkc_Parts_init : ∀ pc, rz_lkc (rz_mi 19).1 (pr_Parts_init pc).1 = true := rz_lkall 41 (by decide +kernel) (fun pc h => by unfold pr_Parts_init; rw [h]; rfl)
set_option maxRecDepth 100000 in
theorem lkc_Parts_startWith : ∀ pc, rz_lkc (rz_mi 20).1 (pr_Parts_startWith pc).1 = true := rz_lkall 11 (by decide +kernel) (fun pc h => by unfold pr_Parts_startWith; rw [h]; rfl)
set_option maxRecDepth 100000 in
theorem lkc_Parts_take : ∀ pc, rz_lkc (rz_mi 21).1 (pr_Parts_take pc).1 = true := rz_lkall 129 (by decide +kernel) (fun pc h => by unfold pr_Parts_take; rw [h]; rfl)
set_option maxRecDepth 100000 in
theorem lkc_Parts_isBefore : ∀ pc, rz_lkc (rz_mi 22).1 (pr_Parts_isBefore pc).1 = true := rz_lkall 83 (by decide +kernel) (fun pc h => by unfold pr_Parts_isBefore; rw [h]; rfl)
set_option maxRecDepth 100000 in
theorem lkc_Parts_rootsInAll : ∀ pc, rz_lkc (rz_mi 23).1 (pr_Parts_rootsInAll pc).1 = true := rz_lkall 29 (by decide +kernel) (fun pc h => by unfold pr_Parts_rootsInAll; rw [h]; rfl)
set_option maxRecDepth 100000 in
theorem lkc_Parts_shareWith : ∀ pc, rz_lkc (rz_mi 24).1 (pr_Parts_shareWith pc).1 = true := rz_lkall 116 (by decide +kernel) (fun pc h => by unfold pr_Parts_shareWith; rw [h]; rfl)
set_option maxRecDepth 100000 in
theorem lkc_Parts_oftenOf : ∀ pc, rz_lkc (rz_mi 25).1 (pr_Parts_oftenOf pc).1 = true := rz_lkall 74 (by decide +kernel) (fun pc h => by unfold pr_Parts_oftenOf; rw [h]; rfl)
set_option maxRecDepth 100000 in
theorem lkc_PV_init : ∀ pc, rz_lkc (rz_mi 26).1 (pr_PV_init pc).1 = true := rz_lkall 68 (by decide +kernel) (fun pc h => by unfold pr_PV_init; rw [h]; rfl)
set_option maxRecDepth 100000 in
theorem lkc_PV_typeBy : ∀ pc, rz_lkc (rz_mi 27).1 (pr_PV_typeBy pc).1 = true := rz_lkall 162 (by decide +kernel) (fun pc h => by unfold pr_PV_typeBy; rw [h]; rfl)
set_option maxRecDepth 100000 in
theorem lkc_PV_load : ∀ pc, rz_lkc (rz_mi 28).1 (pr_PV_load pc).1 = true := rz_lkall 60 (by decide +kernel) (fun pc h => by unfold pr_PV_load; rw [h]; rfl)
set_option maxRecDepth 100000 in
theorem lkc_PV_hasUnlikeRoots : ∀ pc, rz_lkc (rz_mi 29).1 (pr_PV_hasUnlikeRoots pc).1 = true := rz_lkall 65 (by decide +kernel) (fun pc h => by unfold pr_PV_hasUnlikeRoots; rw [h]; rfl)
set_option maxRecDepth 100000 in
theorem lkc_PV_makeFirstStep : ∀ pc, rz_lkc (rz_mi 30).1 (pr_PV_makeFirstStep pc).1 = true := rz_lkall 74 (by decide +kernel) (fun pc h => by unfold pr_PV_makeFirstStep; rw [h]; rfl)
set_option maxRecDepth 100000 in
theorem lkc_PV_makeNextStep : ∀ pc, rz_lkc (rz_mi 31).1 (pr_PV_makeNextStep pc).1 = true := rz_lkall 79 (by decide +kernel) (fun pc h => by unfold pr_PV_makeNextStep; rw [h]; rfl)
set_option maxRecDepth 100000 in
theorem lkc_PV_multiplyStepByX : ∀ pc, rz_lkc (rz_mi 32).1 (pr_PV_multiplyStepByX pc).1 = true := rz_lkall 76 (by decide +kernel) (fun pc h => by unfold pr_PV_multiplyStepByX; rw [h]; rfl)
set_option maxRecDepth 100000 in
theorem lkc_PV_multiplyStep : ∀ pc, rz_lkc (rz_mi 33).1 (pr_PV_multiplyStep pc).1 = true := rz_lkall 83 (by decide +kernel) (fun pc h => by unfold pr_PV_multiplyStep; rw [h]; rfl)
set_option maxRecDepth 100000 in
theorem lkc_PV_shareWithStep : ∀ pc, rz_lkc (rz_mi 34).1 (pr_PV_shareWithStep pc).1 = true := rz_lkall 45 (by decide +kernel) (fun pc h => by unfold pr_PV_shareWithStep; rw [h]; rfl)
set_option maxRecDepth 100000 in
theorem lkc_PV_shareLeftRight : ∀ pc, rz_lkc (rz_mi 35).1 (pr_PV_shareLeftRight pc).1 = true := rz_lkall 77 (by decide +kernel) (fun pc h => by unfold pr_PV_shareLeftRight; rw [h]; rfl)
set_option maxRecDepth 100000 in
theorem lkc_PV_partWhole : ∀ pc, rz_lkc (rz_mi 36).1 (pr_PV_partWhole pc).1 = true := rz_lkall 99 (by decide +kernel) (fun pc h => by unfold pr_PV_partWhole; rw [h]; rfl)
set_option maxRecDepth 100000 in
theorem lkc_PV_reduce : ∀ pc, rz_lkc (rz_mi 37).1 (pr_PV_reduce pc).1 = true := rz_lkall 99 (by decide +kernel) (fun pc h => by unfold pr_PV_reduce; rw [h]; rfl)
set_option maxRecDepth 100000 in
theorem lkc_PV_makeEndWithOne : ∀ pc, rz_lkc (rz_mi 38).1 (pr_PV_makeEndWithOne pc).1 = true := rz_lkall 45 (by decide +kernel) (fun pc h => by unfold pr_PV_makeEndWithOne; rw [h]; rfl)
set_option maxRecDepth 100000 in
theorem lkc_PV_inverseOf : ∀ pc, rz_lkc (rz_mi 39).1 (pr_PV_inverseOf pc).1 = true := rz_lkall 71 (by decide +kernel) (fun pc h => by unfold pr_PV_inverseOf; rw [h]; rfl)
set_option maxRecDepth 100000 in
theorem lkc_PV_byPrime : ∀ pc, rz_lkc (rz_mi 40).1 (pr_PV_byPrime pc).1 = true := rz_lkall 24 (by decide +kernel) (fun pc h => by unfold pr_PV_byPrime; rw [h]; rfl)
set_option maxRecDepth 100000 in
theorem lkc_RA_init : ∀ pc, rz_lkc (rz_mi 41).1 (pr_RA_init pc).1 = true := rz_lkall 107 (by decide +kernel) (fun pc h => by unfold pr_RA_init; rw [h]; rfl)
set_option maxRecDepth 100000 in
theorem lkc_RA_addRoots : ∀ pc, rz_lkc (rz_mi 42).1 (pr_RA_addRoots pc).1 = true := rz_lkall 171 (by decide +kernel) (fun pc h => by unfold pr_RA_addRoots; rw [h]; rfl)
set_option maxRecDepth 100000 in
theorem lkc_RA_fillPowers : ∀ pc, rz_lkc (rz_mi 43).1 (pr_RA_fillPowers pc).1 = true := rz_lkall 138 (by decide +kernel) (fun pc h => by unfold pr_RA_fillPowers; rw [h]; rfl)
set_option maxRecDepth 100000 in
theorem lkc_RA_mixPowers : ∀ pc, rz_lkc (rz_mi 44).1 (pr_RA_mixPowers pc).1 = true := rz_lkall 117 (by decide +kernel) (fun pc h => by unfold pr_RA_mixPowers; rw [h]; rfl)
set_option maxRecDepth 100000 in
theorem lkc_SC_init : ∀ pc, rz_lkc (rz_mi 45).1 (pr_SC_init pc).1 = true := rz_lkall 85 (by decide +kernel) (fun pc h => by unfold pr_SC_init; rw [h]; rfl)
set_option maxRecDepth 100000 in
theorem lkc_SC_build : ∀ pc, rz_lkc (rz_mi 46).1 (pr_SC_build pc).1 = true := rz_lkall 148 (by decide +kernel) (fun pc h => by unfold pr_SC_build; rw [h]; rfl)
set_option maxRecDepth 100000 in
theorem lkc_SC_putRest : ∀ pc, rz_lkc (rz_mi 47).1 (pr_SC_putRest pc).1 = true := rz_lkall 151 (by decide +kernel) (fun pc h => by unfold pr_SC_putRest; rw [h]; rfl)
set_option maxRecDepth 100000 in
theorem lkc_SC_lower : ∀ pc, rz_lkc (rz_mi 48).1 (pr_SC_lower pc).1 = true := rz_lkall 137 (by decide +kernel) (fun pc h => by unfold pr_SC_lower; rw [h]; rfl)
set_option maxRecDepth 100000 in
theorem lkc_SC_variationsAt : ∀ pc, rz_lkc (rz_mi 49).1 (pr_SC_variationsAt pc).1 = true := rz_lkall 56 (by decide +kernel) (fun pc h => by unfold pr_SC_variationsAt; rw [h]; rfl)
set_option maxRecDepth 100000 in
theorem lkc_SC_signAt : ∀ pc, rz_lkc (rz_mi 50).1 (pr_SC_signAt pc).1 = true := rz_lkall 69 (by decide +kernel) (fun pc h => by unfold pr_SC_signAt; rw [h]; rfl)
set_option maxRecDepth 100000 in
theorem lkc_SC_variationsFarOut : ∀ pc, rz_lkc (rz_mi 51).1 (pr_SC_variationsFarOut pc).1 = true := rz_lkall 91 (by decide +kernel) (fun pc h => by unfold pr_SC_variationsFarOut; rw [h]; rfl)
set_option maxRecDepth 100000 in
theorem lkc_Sp_init : ∀ pc, rz_lkc (rz_mi 52).1 (pr_Sp_init pc).1 = true := rz_lkall 89 (by decide +kernel) (fun pc h => by unfold pr_Sp_init; rw [h]; rfl)
set_option maxRecDepth 100000 in
theorem lkc_Sp_splitInto : ∀ pc, rz_lkc (rz_mi 53).1 (pr_Sp_splitInto pc).1 = true := rz_lkall 143 (by decide +kernel) (fun pc h => by unfold pr_Sp_splitInto; rw [h]; rfl)
set_option maxRecDepth 100000 in
theorem lkc_Sp_takePowersOfX : ∀ pc, rz_lkc (rz_mi 54).1 (pr_Sp_takePowersOfX pc).1 = true := rz_lkall 15 (by decide +kernel) (fun pc h => by unfold pr_Sp_takePowersOfX; rw [h]; rfl)
set_option maxRecDepth 100000 in
theorem lkc_Sp_takeLinears : ∀ pc, rz_lkc (rz_mi 55).1 (pr_Sp_takeLinears pc).1 = true := rz_lkall 48 (by decide +kernel) (fun pc h => by unfold pr_Sp_takeLinears; rw [h]; rfl)
set_option maxRecDepth 100000 in
theorem lkc_Sp_takeLinearsWith : ∀ pc, rz_lkc (rz_mi 56).1 (pr_Sp_takeLinearsWith pc).1 = true := rz_lkall 90 (by decide +kernel) (fun pc h => by unfold pr_Sp_takeLinearsWith; rw [h]; rfl)
set_option maxRecDepth 100000 in
theorem lkc_Sp_possibleDegrees : ∀ pc, rz_lkc (rz_mi 57).1 (pr_Sp_possibleDegrees pc).1 = true := rz_lkall 74 (by decide +kernel) (fun pc h => by unfold pr_Sp_possibleDegrees; rw [h]; rfl)
set_option maxRecDepth 100000 in
theorem lkc_Sp_sumsOfDigits : ∀ pc, rz_lkc (rz_mi 58).1 (pr_Sp_sumsOfDigits pc).1 = true := rz_lkall 27 (by decide +kernel) (fun pc h => by unfold pr_Sp_sumsOfDigits; rw [h]; rfl)
set_option maxRecDepth 100000 in
theorem lkc_Sp_takeQuadratic : ∀ pc, rz_lkc (rz_mi 59).1 (pr_Sp_takeQuadratic pc).1 = true := rz_lkall 237 (by decide +kernel) (fun pc h => by unfold pr_Sp_takeQuadratic; rw [h]; rfl)
set_option maxRecDepth 100000 in
theorem lkc_Sp_takeCubic : ∀ pc, rz_lkc (rz_mi 60).1 (pr_Sp_takeCubic pc).1 = true := rz_lkall 175 (by decide +kernel) (fun pc h => by unfold pr_Sp_takeCubic; rw [h]; rfl)
set_option maxRecDepth 100000 in
theorem lkc_Sp_takeCubicWith : ∀ pc, rz_lkc (rz_mi 61).1 (pr_Sp_takeCubicWith pc).1 = true := rz_lkall 134 (by decide +kernel) (fun pc h => by unfold pr_Sp_takeCubicWith; rw [h]; rfl)
set_option maxRecDepth 100000 in
theorem lkc_Sp_setPart : ∀ pc, rz_lkc (rz_mi 62).1 (pr_Sp_setPart pc).1 = true := rz_lkall 38 (by decide +kernel) (fun pc h => by unfold pr_Sp_setPart; rw [h]; rfl)
set_option maxRecDepth 100000 in
theorem lkc_Sp_takeOut : ∀ pc, rz_lkc (rz_mi 63).1 (pr_Sp_takeOut pc).1 = true := rz_lkall 70 (by decide +kernel) (fun pc h => by unfold pr_Sp_takeOut; rw [h]; rfl)
set_option maxRecDepth 100000 in
theorem lkc_Sp_dividesRest : ∀ pc, rz_lkc (rz_mi 64).1 (pr_Sp_dividesRest pc).1 = true := rz_lkall 171 (by decide +kernel) (fun pc h => by unfold pr_Sp_dividesRest; rw [h]; rfl)
set_option maxRecDepth 100000 in
theorem lkc_Sp_listDivisors : ∀ pc, rz_lkc (rz_mi 65).1 (pr_Sp_listDivisors pc).1 = true := rz_lkall 129 (by decide +kernel) (fun pc h => by unfold pr_Sp_listDivisors; rw [h]; rfl)
set_option maxRecDepth 100000 in
theorem lkc_RC_init : ∀ pc, rz_lkc (rz_mi 66).1 (pr_RC_init pc).1 = true := rz_lkall 119 (by decide +kernel) (fun pc h => by unfold pr_RC_init; rw [h]; rfl)
set_option maxRecDepth 100000 in
theorem lkc_RC_told : ∀ pc, rz_lkc (rz_mi 67).1 (pr_RC_told pc).1 = true := rz_lkall 143 (by decide +kernel) (fun pc h => by unfold pr_RC_told; rw [h]; rfl)
set_option maxRecDepth 100000 in
theorem lkc_RC_number : ∀ pc, rz_lkc (rz_mi 68).1 (pr_RC_number pc).1 = true := rz_lkall 32 (by decide +kernel) (fun pc h => by unfold pr_RC_number; rw [h]; rfl)
set_option maxRecDepth 100000 in
theorem lkc_RC_degree : ∀ pc, rz_lkc (rz_mi 69).1 (pr_RC_degree pc).1 = true := rz_lkall 22 (by decide +kernel) (fun pc h => by unfold pr_RC_degree; rw [h]; rfl)
set_option maxRecDepth 100000 in
theorem lkc_RC_at : ∀ pc, rz_lkc (rz_mi 70).1 (pr_RC_at pc).1 = true := rz_lkall 34 (by decide +kernel) (fun pc h => by unfold pr_RC_at; rw [h]; rfl)
set_option maxRecDepth 100000 in
theorem lkc_RC_times : ∀ pc, rz_lkc (rz_mi 71).1 (pr_RC_times pc).1 = true := rz_lkall 112 (by decide +kernel) (fun pc h => by unfold pr_RC_times; rw [h]; rfl)
set_option maxRecDepth 100000 in
theorem lkc_RC_plus : ∀ pc, rz_lkc (rz_mi 72).1 (pr_RC_plus pc).1 = true := rz_lkall 75 (by decide +kernel) (fun pc h => by unfold pr_RC_plus; rw [h]; rfl)
set_option maxRecDepth 100000 in
theorem lkc_RC_derive : ∀ pc, rz_lkc (rz_mi 73).1 (pr_RC_derive pc).1 = true := rz_lkall 39 (by decide +kernel) (fun pc h => by unfold pr_RC_derive; rw [h]; rfl)
set_option maxRecDepth 100000 in
theorem lkc_RC_shift : ∀ pc, rz_lkc (rz_mi 74).1 (pr_RC_shift pc).1 = true := rz_lkall 102 (by decide +kernel) (fun pc h => by unfold pr_RC_shift; rw [h]; rfl)
set_option maxRecDepth 100000 in
theorem lkc_RC_turn : ∀ pc, rz_lkc (rz_mi 75).1 (pr_RC_turn pc).1 = true := rz_lkall 87 (by decide +kernel) (fun pc h => by unfold pr_RC_turn; rw [h]; rfl)
set_option maxRecDepth 100000 in
theorem lkc_RC_common : ∀ pc, rz_lkc (rz_mi 76).1 (pr_RC_common pc).1 = true := rz_lkall 189 (by decide +kernel) (fun pc h => by unfold pr_RC_common; rw [h]; rfl)
set_option maxRecDepth 100000 in
theorem lkc_RC_sums : ∀ pc, rz_lkc (rz_mi 77).1 (pr_RC_sums pc).1 = true := rz_lkall 140 (by decide +kernel) (fun pc h => by unfold pr_RC_sums; rw [h]; rfl)
set_option maxRecDepth 100000 in
theorem lkc_RC_factors : ∀ pc, rz_lkc (rz_mi 78).1 (pr_RC_factors pc).1 = true := rz_lkall 62 (by decide +kernel) (fun pc h => by unfold pr_RC_factors; rw [h]; rfl)
set_option maxRecDepth 100000 in
theorem lkc_RC_factor : ∀ pc, rz_lkc (rz_mi 79).1 (pr_RC_factor pc).1 = true := rz_lkall 112 (by decide +kernel) (fun pc h => by unfold pr_RC_factor; rw [h]; rfl)
set_option maxRecDepth 100000 in
theorem lkc_RC_type : ∀ pc, rz_lkc (rz_mi 80).1 (pr_RC_type pc).1 = true := rz_lkall 53 (by decide +kernel) (fun pc h => by unfold pr_RC_type; rw [h]; rfl)
set_option maxRecDepth 100000 in
theorem lkc_RC_tally : ∀ pc, rz_lkc (rz_mi 81).1 (pr_RC_tally pc).1 = true := rz_lkall 87 (by decide +kernel) (fun pc h => by unfold pr_RC_tally; rw [h]; rfl)
set_option maxRecDepth 100000 in
theorem lkc_RC_group : ∀ pc, rz_lkc (rz_mi 82).1 (pr_RC_group pc).1 = true := rz_lkall 136 (by decide +kernel) (fun pc h => by unfold pr_RC_group; rw [h]; rfl)
set_option maxRecDepth 100000 in
theorem lkc_RC_changes : ∀ pc, rz_lkc (rz_mi 83).1 (pr_RC_changes pc).1 = true := rz_lkall 60 (by decide +kernel) (fun pc h => by unfold pr_RC_changes; rw [h]; rfl)
set_option maxRecDepth 100000 in
theorem lkc_RC_discriminant : ∀ pc, rz_lkc (rz_mi 84).1 (pr_RC_discriminant pc).1 = true := rz_lkall 55 (by decide +kernel) (fun pc h => by unfold pr_RC_discriminant; rw [h]; rfl)
set_option maxRecDepth 100000 in
theorem lkc_RC_count : ∀ pc, rz_lkc (rz_mi 85).1 (pr_RC_count pc).1 = true := rz_lkall 142 (by decide +kernel) (fun pc h => by unfold pr_RC_count; rw [h]; rfl)
set_option maxRecDepth 100000 in
theorem lkc_RC_reals : ∀ pc, rz_lkc (rz_mi 86).1 (pr_RC_reals pc).1 = true := rz_lkall 109 (by decide +kernel) (fun pc h => by unfold pr_RC_reals; rw [h]; rfl)
set_option maxRecDepth 100000 in
theorem lkc_RC_power : ∀ pc, rz_lkc (rz_mi 87).1 (pr_RC_power pc).1 = true := rz_lkall 86 (by decide +kernel) (fun pc h => by unfold pr_RC_power; rw [h]; rfl)
set_option maxRecDepth 100000 in
theorem lkc_RC_pairs : ∀ pc, rz_lkc (rz_mi 88).1 (pr_RC_pairs pc).1 = true := rz_lkall 123 (by decide +kernel) (fun pc h => by unfold pr_RC_pairs; rw [h]; rfl)
set_option maxRecDepth 100000 in
theorem lkc_RC_status : ∀ pc, rz_lkc (rz_mi 89).1 (pr_RC_status pc).1 = true := rz_lkall 5 (by decide +kernel) (fun pc h => by unfold pr_RC_status; rw [h]; rfl)
set_option maxRecDepth 100000 in
theorem lkc_RC_refuse : ∀ pc, rz_lkc (rz_mi 90).1 (pr_RC_refuse pc).1 = true := rz_lkall 7 (by decide +kernel) (fun pc h => by unfold pr_RC_refuse; rw [h]; rfl)
set_option maxRecDepth 100000 in
theorem lkc_RC_keepMade : ∀ pc, rz_lkc (rz_mi 91).1 (pr_RC_keepMade pc).1 = true := rz_lkall 67 (by decide +kernel) (fun pc h => by unfold pr_RC_keepMade; rw [h]; rfl)
set_option maxRecDepth 100000 in
theorem lkc_RC_fillRootPowers : ∀ pc, rz_lkc (rz_mi 92).1 (pr_RC_fillRootPowers pc).1 = true := rz_lkall 122 (by decide +kernel) (fun pc h => by unfold pr_RC_fillRootPowers; rw [h]; rfl)
set_option maxRecDepth 100000 in
theorem lkc_RC_partOfFraction : ∀ pc, rz_lkc (rz_mi 93).1 (pr_RC_partOfFraction pc).1 = true := rz_lkall 76 (by decide +kernel) (fun pc h => by unfold pr_RC_partOfFraction; rw [h]; rfl)
set_option maxRecDepth 100000 in
theorem lkc_RC_isRow : ∀ pc, rz_lkc (rz_mi 94).1 (pr_RC_isRow pc).1 = true := rz_lkall 16 (by decide +kernel) (fun pc h => by unfold pr_RC_isRow; rw [h]; rfl)
set_option maxRecDepth 100000 in
theorem lkc_RC_isWithin : ∀ pc, rz_lkc (rz_mi 95).1 (pr_RC_isWithin pc).1 = true := rz_lkall 17 (by decide +kernel) (fun pc h => by unfold pr_RC_isWithin; rw [h]; rfl)
set_option maxRecDepth 100000 in
theorem lkc_RC_isSmallNumber : ∀ pc, rz_lkc (rz_mi 96).1 (pr_RC_isSmallNumber pc).1 = true := rz_lkall 22 (by decide +kernel) (fun pc h => by unfold pr_RC_isSmallNumber; rw [h]; rfl)
set_option maxRecDepth 100000 in
theorem lkc_RC_hasSmallNumbers : ∀ pc, rz_lkc (rz_mi 97).1 (pr_RC_hasSmallNumbers pc).1 = true := rz_lkall 27 (by decide +kernel) (fun pc h => by unfold pr_RC_hasSmallNumbers; rw [h]; rfl)
set_option maxRecDepth 100000 in
theorem lkc_RC_isSmall : ∀ pc, rz_lkc (rz_mi 98).1 (pr_RC_isSmall pc).1 = true := rz_lkall 21 (by decide +kernel) (fun pc h => by unfold pr_RC_isSmall; rw [h]; rfl)
set_option maxRecDepth 100000 in
theorem lkc_RC_isPlain : ∀ pc, rz_lkc (rz_mi 99).1 (pr_RC_isPlain pc).1 = true := rz_lkall 31 (by decide +kernel) (fun pc h => by unfold pr_RC_isPlain; rw [h]; rfl)
set_option maxRecDepth 100000 in
theorem lkc_RC_hasGroup : ∀ pc, rz_lkc (rz_mi 100).1 (pr_RC_hasGroup pc).1 = true := rz_lkall 21 (by decide +kernel) (fun pc h => by unfold pr_RC_hasGroup; rw [h]; rfl)
set_option maxRecDepth 100000 in
theorem lkc_RC_degreeOf : ∀ pc, rz_lkc (rz_mi 101).1 (pr_RC_degreeOf pc).1 = true := rz_lkall 25 (by decide +kernel) (fun pc h => by unfold pr_RC_degreeOf; rw [h]; rfl)
set_option maxRecDepth 100000 in
theorem lkc_RC_clear : ∀ pc, rz_lkc (rz_mi 102).1 (pr_RC_clear pc).1 = true := rz_lkall 19 (by decide +kernel) (fun pc h => by unfold pr_RC_clear; rw [h]; rfl)
set_option maxRecDepth 100000 in
theorem lkc_RC_copy : ∀ pc, rz_lkc (rz_mi 103).1 (pr_RC_copy pc).1 = true := rz_lkall 10 (by decide +kernel) (fun pc h => by unfold pr_RC_copy; rw [h]; rfl)
set_option maxRecDepth 100000 in
theorem lkc_RC_valueAt : ∀ pc, rz_lkc (rz_mi 104).1 (pr_RC_valueAt pc).1 = true := rz_lkall 28 (by decide +kernel) (fun pc h => by unfold pr_RC_valueAt; rw [h]; rfl)
set_option maxRecDepth 100000 in
theorem lkc_RC_deriveInto : ∀ pc, rz_lkc (rz_mi 105).1 (pr_RC_deriveInto pc).1 = true := rz_lkall 31 (by decide +kernel) (fun pc h => by unfold pr_RC_deriveInto; rw [h]; rfl)
set_option maxRecDepth 100000 in
theorem lkc_RC_addProduct : ∀ pc, rz_lkc (rz_mi 106).1 (pr_RC_addProduct pc).1 = true := rz_lkall 62 (by decide +kernel) (fun pc h => by unfold pr_RC_addProduct; rw [h]; rfl)
set_option maxRecDepth 100000 in
theorem lkc_RC_takeContentOut : ∀ pc, rz_lkc (rz_mi 107).1 (pr_RC_takeContentOut pc).1 = true := rz_lkall 88 (by decide +kernel) (fun pc h => by unfold pr_RC_takeContentOut; rw [h]; rfl)
set_option maxRecDepth 100000 in
theorem lkc_RC_greatestDivisor : ∀ pc, rz_lkc (rz_mi 108).1 (pr_RC_greatestDivisor pc).1 = true := rz_lkall 53 (by decide +kernel) (fun pc h => by unfold pr_RC_greatestDivisor; rw [h]; rfl)
set_option maxRecDepth 100000 in
theorem lkc_RC_divides : ∀ pc, rz_lkc (rz_mi 109).1 (pr_RC_divides pc).1 = true := rz_lkall 20 (by decide +kernel) (fun pc h => by unfold pr_RC_divides; rw [h]; rfl)
set_option maxRecDepth 100000 in
theorem lkc_RC_isPrime : ∀ pc, rz_lkc (rz_mi 110).1 (pr_RC_isPrime pc).1 = true := rz_lkall 39 (by decide +kernel) (fun pc h => by unfold pr_RC_isPrime; rw [h]; rfl)
set_option maxRecDepth 100000 in
theorem lkc_RC_isSquare : ∀ pc, rz_lkc (rz_mi 111).1 (pr_RC_isSquare pc).1 = true := rz_lkall 64 (by decide +kernel) (fun pc h => by unfold pr_RC_isSquare; rw [h]; rfl)
set_option maxRecDepth 100000 in
theorem lkc_RC_isSameSquareClass : ∀ pc, rz_lkc (rz_mi 112).1 (pr_RC_isSameSquareClass pc).1 = true := rz_lkall 71 (by decide +kernel) (fun pc h => by unfold pr_RC_isSameSquareClass; rw [h]; rfl)
set_option maxRecDepth 100000 in
theorem lkc_RC_discriminantOf : ∀ pc, rz_lkc (rz_mi 113).1 (pr_RC_discriminantOf pc).1 = true := rz_lkall 266 (by decide +kernel) (fun pc h => by unfold pr_RC_discriminantOf; rw [h]; rfl)
set_option maxRecDepth 100000 in
theorem lkc_RC_kindOf : ∀ pc, rz_lkc (rz_mi 114).1 (pr_RC_kindOf pc).1 = true := rz_lkall 92 (by decide +kernel) (fun pc h => by unfold pr_RC_kindOf; rw [h]; rfl)
set_option maxRecDepth 100000 in
theorem lkc_RC_kindOfQuadratics : ∀ pc, rz_lkc (rz_mi 115).1 (pr_RC_kindOfQuadratics pc).1 = true := rz_lkall 65 (by decide +kernel) (fun pc h => by unfold pr_RC_kindOfQuadratics; rw [h]; rfl)
set_option maxRecDepth 100000 in
theorem lkc_RC_kindOfQuartic : ∀ pc, rz_lkc (rz_mi 116).1 (pr_RC_kindOfQuartic pc).1 = true := rz_lkall 164 (by decide +kernel) (fun pc h => by unfold pr_RC_kindOfQuartic; rw [h]; rfl)
set_option maxRecDepth 100000 in
theorem lkc_RC_splitsBy : ∀ pc, rz_lkc (rz_mi 117).1 (pr_RC_splitsBy pc).1 = true := rz_lkall 27 (by decide +kernel) (fun pc h => by unfold pr_RC_splitsBy; rw [h]; rfl)
set_option maxRecDepth 100000 in
theorem lkc_RC_wholeRoot : ∀ pc, rz_lkc (rz_mi 118).1 (pr_RC_wholeRoot pc).1 = true := rz_lkall 123 (by decide +kernel) (fun pc h => by unfold pr_RC_wholeRoot; rw [h]; rfl)
set_option maxRecDepth 100000 in
theorem lkc_M_init : ∀ pc, rz_lkc (rz_mi 119).1 (pr_M_init pc).1 = true := rz_lkall 227 (by decide +kernel) (fun pc h => by unfold pr_M_init; rw [h]; rfl)
set_option maxRecDepth 100000 in
theorem lkc_M_in : ∀ pc, rz_lkc (rz_mi 120).1 (pr_M_in pc).1 = true := rz_lkall 19 (by decide +kernel) (fun pc h => by unfold pr_M_in; rw [h]; rfl)
set_option maxRecDepth 100000 in
theorem lkc_M_said : ∀ pc, rz_lkc (rz_mi 121).1 (pr_M_said pc).1 = true := rz_lkall 15 (by decide +kernel) (fun pc h => by unfold pr_M_said; rw [h]; rfl)
set_option maxRecDepth 100000 in
theorem lkc_M_divisor : ∀ pc, rz_lkc (rz_mi 122).1 (pr_M_divisor pc).1 = true := rz_lkall 56 (by decide +kernel) (fun pc h => by unfold pr_M_divisor; rw [h]; rfl)
set_option maxRecDepth 100000 in
theorem lkc_M_isRow : ∀ pc, rz_lkc (rz_mi 123).1 (pr_M_isRow pc).1 = true := rz_lkall 10 (by decide +kernel) (fun pc h => by unfold pr_M_isRow; rw [h]; rfl)
set_option maxRecDepth 100000 in
theorem lkc_M_degreeOf : ∀ pc, rz_lkc (rz_mi 124).1 (pr_M_degreeOf pc).1 = true := rz_lkall 31 (by decide +kernel) (fun pc h => by unfold pr_M_degreeOf; rw [h]; rfl)
set_option maxRecDepth 100000 in
theorem lkc_M_told : ∀ pc, rz_lkc (rz_mi 125).1 (pr_M_told pc).1 = true := rz_lkall 241 (by decide +kernel) (fun pc h => by unfold pr_M_told; rw [h]; rfl)
set_option maxRecDepth 100000 in
theorem lkc_M_number : ∀ pc, rz_lkc (rz_mi 126).1 (pr_M_number pc).1 = true := rz_lkall 42 (by decide +kernel) (fun pc h => by unfold pr_M_number; rw [h]; rfl)
set_option maxRecDepth 100000 in
theorem lkc_M_degree : ∀ pc, rz_lkc (rz_mi 127).1 (pr_M_degree pc).1 = true := rz_lkall 23 (by decide +kernel) (fun pc h => by unfold pr_M_degree; rw [h]; rfl)
set_option maxRecDepth 100000 in
theorem lkc_M_at : ∀ pc, rz_lkc (rz_mi 128).1 (pr_M_at pc).1 = true := rz_lkall 67 (by decide +kernel) (fun pc h => by unfold pr_M_at; rw [h]; rfl)
set_option maxRecDepth 100000 in
theorem lkc_M_clear : ∀ pc, rz_lkc (rz_mi 129).1 (pr_M_clear pc).1 = true := rz_lkall 22 (by decide +kernel) (fun pc h => by unfold pr_M_clear; rw [h]; rfl)
set_option maxRecDepth 100000 in
theorem lkc_M_put : ∀ pc, rz_lkc (rz_mi 130).1 (pr_M_put pc).1 = true := rz_lkall 112 (by decide +kernel) (fun pc h => by unfold pr_M_put; rw [h]; rfl)
set_option maxRecDepth 100000 in
theorem lkc_M_times : ∀ pc, rz_lkc (rz_mi 131).1 (pr_M_times pc).1 = true := rz_lkall 153 (by decide +kernel) (fun pc h => by unfold pr_M_times; rw [h]; rfl)
set_option maxRecDepth 100000 in
theorem lkc_M_plus : ∀ pc, rz_lkc (rz_mi 132).1 (pr_M_plus pc).1 = true := rz_lkall 90 (by decide +kernel) (fun pc h => by unfold pr_M_plus; rw [h]; rfl)
set_option maxRecDepth 100000 in
theorem lkc_M_derive : ∀ pc, rz_lkc (rz_mi 133).1 (pr_M_derive pc).1 = true := rz_lkall 71 (by decide +kernel) (fun pc h => by unfold pr_M_derive; rw [h]; rfl)
set_option maxRecDepth 100000 in
theorem lkc_M_shift : ∀ pc, rz_lkc (rz_mi 134).1 (pr_M_shift pc).1 = true := rz_lkall 136 (by decide +kernel) (fun pc h => by unfold pr_M_shift; rw [h]; rfl)
set_option maxRecDepth 100000 in
theorem lkc_M_turn : ∀ pc, rz_lkc (rz_mi 135).1 (pr_M_turn pc).1 = true := rz_lkall 115 (by decide +kernel) (fun pc h => by unfold pr_M_turn; rw [h]; rfl)
set_option maxRecDepth 100000 in
theorem lkc_M_isSmall : ∀ pc, rz_lkc (rz_mi 136).1 (pr_M_isSmall pc).1 = true := rz_lkall 67 (by decide +kernel) (fun pc h => by unfold pr_M_isSmall; rw [h]; rfl)
set_option maxRecDepth 100000 in
theorem lkc_M_isPlain : ∀ pc, rz_lkc (rz_mi 137).1 (pr_M_isPlain pc).1 = true := rz_lkall 35 (by decide +kernel) (fun pc h => by unfold pr_M_isPlain; rw [h]; rfl)
set_option maxRecDepth 100000 in
theorem lkc_M_valueAt : ∀ pc, rz_lkc (rz_mi 138).1 (pr_M_valueAt pc).1 = true := rz_lkall 31 (by decide +kernel) (fun pc h => by unfold pr_M_valueAt; rw [h]; rfl)
set_option maxRecDepth 100000 in
theorem lkc_M_divides : ∀ pc, rz_lkc (rz_mi 139).1 (pr_M_divides pc).1 = true := rz_lkall 218 (by decide +kernel) (fun pc h => by unfold pr_M_divides; rw [h]; rfl)
set_option maxRecDepth 100000 in
theorem lkc_M_takesOut : ∀ pc, rz_lkc (rz_mi 140).1 (pr_M_takesOut pc).1 = true := rz_lkall 175 (by decide +kernel) (fun pc h => by unfold pr_M_takesOut; rw [h]; rfl)
set_option maxRecDepth 100000 in
theorem lkc_M_into : ∀ pc, rz_lkc (rz_mi 141).1 (pr_M_into pc).1 = true := rz_lkall 20 (by decide +kernel) (fun pc h => by unfold pr_M_into; rw [h]; rfl)
set_option maxRecDepth 100000 in
theorem lkc_M_findLinear : ∀ pc, rz_lkc (rz_mi 142).1 (pr_M_findLinear pc).1 = true := rz_lkall 129 (by decide +kernel) (fun pc h => by unfold pr_M_findLinear; rw [h]; rfl)
set_option maxRecDepth 100000 in
theorem lkc_M_findQuadratic : ∀ pc, rz_lkc (rz_mi 143).1 (pr_M_findQuadratic pc).1 = true := rz_lkall 218 (by decide +kernel) (fun pc h => by unfold pr_M_findQuadratic; rw [h]; rfl)
set_option maxRecDepth 100000 in
theorem lkc_M_findCubic : ∀ pc, rz_lkc (rz_mi 144).1 (pr_M_findCubic pc).1 = true := rz_lkall 179 (by decide +kernel) (fun pc h => by unfold pr_M_findCubic; rw [h]; rfl)
set_option maxRecDepth 100000 in
theorem lkc_M_findMiddle : ∀ pc, rz_lkc (rz_mi 145).1 (pr_M_findMiddle pc).1 = true := rz_lkall 148 (by decide +kernel) (fun pc h => by unfold pr_M_findMiddle; rw [h]; rfl)
set_option maxRecDepth 100000 in
theorem lkc_M_takeLeft : ∀ pc, rz_lkc (rz_mi 146).1 (pr_M_takeLeft pc).1 = true := rz_lkall 45 (by decide +kernel) (fun pc h => by unfold pr_M_takeLeft; rw [h]; rfl)
set_option maxRecDepth 100000 in
theorem lkc_M_findFactors : ∀ pc, rz_lkc (rz_mi 147).1 (pr_M_findFactors pc).1 = true := rz_lkall 177 (by decide +kernel) (fun pc h => by unfold pr_M_findFactors; rw [h]; rfl)
set_option maxRecDepth 100000 in
theorem lkc_M_isAhead : ∀ pc, rz_lkc (rz_mi 148).1 (pr_M_isAhead pc).1 = true := rz_lkall 109 (by decide +kernel) (fun pc h => by unfold pr_M_isAhead; rw [h]; rfl)
set_option maxRecDepth 100000 in
theorem lkc_M_sortFactors : ∀ pc, rz_lkc (rz_mi 149).1 (pr_M_sortFactors pc).1 = true := rz_lkall 50 (by decide +kernel) (fun pc h => by unfold pr_M_sortFactors; rw [h]; rfl)
set_option maxRecDepth 100000 in
theorem lkc_M_exchange : ∀ pc, rz_lkc (rz_mi 150).1 (pr_M_exchange pc).1 = true := rz_lkall 115 (by decide +kernel) (fun pc h => by unfold pr_M_exchange; rw [h]; rfl)
set_option maxRecDepth 100000 in
theorem lkc_M_factors : ∀ pc, rz_lkc (rz_mi 151).1 (pr_M_factors pc).1 = true := rz_lkall 140 (by decide +kernel) (fun pc h => by unfold pr_M_factors; rw [h]; rfl)
set_option maxRecDepth 100000 in
theorem lkc_M_factor : ∀ pc, rz_lkc (rz_mi 152).1 (pr_M_factor pc).1 = true := rz_lkall 112 (by decide +kernel) (fun pc h => by unfold pr_M_factor; rw [h]; rfl)
set_option maxRecDepth 100000 in
theorem lkc_M_keepOther : ∀ pc, rz_lkc (rz_mi 153).1 (pr_M_keepOther pc).1 = true := rz_lkall 85 (by decide +kernel) (fun pc h => by unfold pr_M_keepOther; rw [h]; rfl)
set_option maxRecDepth 100000 in
theorem lkc_M_oftenThere : ∀ pc, rz_lkc (rz_mi 154).1 (pr_M_oftenThere pc).1 = true := rz_lkall 104 (by decide +kernel) (fun pc h => by unfold pr_M_oftenThere; rw [h]; rfl)
set_option maxRecDepth 100000 in
theorem lkc_M_makeTimes : ∀ pc, rz_lkc (rz_mi 155).1 (pr_M_makeTimes pc).1 = true := rz_lkall 96 (by decide +kernel) (fun pc h => by unfold pr_M_makeTimes; rw [h]; rfl)
set_option maxRecDepth 100000 in
theorem lkc_M_common : ∀ pc, rz_lkc (rz_mi 156).1 (pr_M_common pc).1 = true := rz_lkall 260 (by decide +kernel) (fun pc h => by unfold pr_M_common; rw [h]; rfl)
set_option maxRecDepth 100000 in
theorem lkc_M_findSums : ∀ pc, rz_lkc (rz_mi 157).1 (pr_M_findSums pc).1 = true := rz_lkall 153 (by decide +kernel) (fun pc h => by unfold pr_M_findSums; rw [h]; rfl)
set_option maxRecDepth 100000 in
theorem lkc_M_powerOf : ∀ pc, rz_lkc (rz_mi 158).1 (pr_M_powerOf pc).1 = true := rz_lkall 23 (by decide +kernel) (fun pc h => by unfold pr_M_powerOf; rw [h]; rfl)
set_option maxRecDepth 100000 in
theorem lkc_M_part : ∀ pc, rz_lkc (rz_mi 159).1 (pr_M_part pc).1 = true := rz_lkall 45 (by decide +kernel) (fun pc h => by unfold pr_M_part; rw [h]; rfl)
set_option maxRecDepth 100000 in
theorem lkc_M_power : ∀ pc, rz_lkc (rz_mi 160).1 (pr_M_power pc).1 = true := rz_lkall 86 (by decide +kernel) (fun pc h => by unfold pr_M_power; rw [h]; rfl)
set_option maxRecDepth 100000 in
theorem lkc_M_pairs : ∀ pc, rz_lkc (rz_mi 161).1 (pr_M_pairs pc).1 = true := rz_lkall 121 (by decide +kernel) (fun pc h => by unfold pr_M_pairs; rw [h]; rfl)
set_option maxRecDepth 100000 in
theorem lkc_M_choose : ∀ pc, rz_lkc (rz_mi 162).1 (pr_M_choose pc).1 = true := rz_lkall 33 (by decide +kernel) (fun pc h => by unfold pr_M_choose; rw [h]; rfl)
set_option maxRecDepth 100000 in
theorem lkc_M_sums : ∀ pc, rz_lkc (rz_mi 163).1 (pr_M_sums pc).1 = true := rz_lkall 195 (by decide +kernel) (fun pc h => by unfold pr_M_sums; rw [h]; rfl)
set_option maxRecDepth 100000 in
theorem lkc_M_bothSum : ∀ pc, rz_lkc (rz_mi 164).1 (pr_M_bothSum pc).1 = true := rz_lkall 46 (by decide +kernel) (fun pc h => by unfold pr_M_bothSum; rw [h]; rfl)
set_option maxRecDepth 100000 in
theorem lkc_M_inverse : ∀ pc, rz_lkc (rz_mi 165).1 (pr_M_inverse pc).1 = true := rz_lkall 39 (by decide +kernel) (fun pc h => by unfold pr_M_inverse; rw [h]; rfl)
set_option maxRecDepth 100000 in
theorem lkc_M_topOf : ∀ pc, rz_lkc (rz_mi 166).1 (pr_M_topOf pc).1 = true := rz_lkall 23 (by decide +kernel) (fun pc h => by unfold pr_M_topOf; rw [h]; rfl)
set_option maxRecDepth 100000 in
theorem lkc_M_multiply : ∀ pc, rz_lkc (rz_mi 167).1 (pr_M_multiply pc).1 = true := rz_lkall 253 (by decide +kernel) (fun pc h => by unfold pr_M_multiply; rw [h]; rfl)
set_option maxRecDepth 100000 in
theorem lkc_M_toPrime : ∀ pc, rz_lkc (rz_mi 168).1 (pr_M_toPrime pc).1 = true := rz_lkall 121 (by decide +kernel) (fun pc h => by unfold pr_M_toPrime; rw [h]; rfl)
set_option maxRecDepth 100000 in
theorem lkc_M_commonBy : ∀ pc, rz_lkc (rz_mi 169).1 (pr_M_commonBy pc).1 = true := rz_lkall 158 (by decide +kernel) (fun pc h => by unfold pr_M_commonBy; rw [h]; rfl)
set_option maxRecDepth 100000 in
theorem lkc_M_typeBy : ∀ pc, rz_lkc (rz_mi 170).1 (pr_M_typeBy pc).1 = true := rz_lkall 171 (by decide +kernel) (fun pc h => by unfold pr_M_typeBy; rw [h]; rfl)
set_option maxRecDepth 100000 in
theorem lkc_M_degreesBy : ∀ pc, rz_lkc (rz_mi 171).1 (pr_M_degreesBy pc).1 = true := rz_lkall 200 (by decide +kernel) (fun pc h => by unfold pr_M_degreesBy; rw [h]; rfl)
set_option maxRecDepth 100000 in
theorem lkc_M_before : ∀ pc, rz_lkc (rz_mi 172).1 (pr_M_before pc).1 = true := rz_lkall 38 (by decide +kernel) (fun pc h => by unfold pr_M_before; rw [h]; rfl)
set_option maxRecDepth 100000 in
theorem lkc_M_isPrime : ∀ pc, rz_lkc (rz_mi 173).1 (pr_M_isPrime pc).1 = true := rz_lkall 44 (by decide +kernel) (fun pc h => by unfold pr_M_isPrime; rw [h]; rfl)
set_option maxRecDepth 100000 in
theorem lkc_M_type : ∀ pc, rz_lkc (rz_mi 174).1 (pr_M_type pc).1 = true := rz_lkall 56 (by decide +kernel) (fun pc h => by unfold pr_M_type; rw [h]; rfl)
set_option maxRecDepth 100000 in
theorem lkc_M_tally : ∀ pc, rz_lkc (rz_mi 175).1 (pr_M_tally pc).1 = true := rz_lkall 90 (by decide +kernel) (fun pc h => by unfold pr_M_tally; rw [h]; rfl)
set_option maxRecDepth 100000 in
theorem lkc_M_isSquare : ∀ pc, rz_lkc (rz_mi 176).1 (pr_M_isSquare pc).1 = true := rz_lkall 73 (by decide +kernel) (fun pc h => by unfold pr_M_isSquare; rw [h]; rfl)
set_option maxRecDepth 100000 in
theorem lkc_M_areSquare : ∀ pc, rz_lkc (rz_mi 177).1 (pr_M_areSquare pc).1 = true := rz_lkall 69 (by decide +kernel) (fun pc h => by unfold pr_M_areSquare; rw [h]; rfl)
set_option maxRecDepth 100000 in
theorem lkc_M_three : ∀ pc, rz_lkc (rz_mi 178).1 (pr_M_three pc).1 = true := rz_lkall 66 (by decide +kernel) (fun pc h => by unfold pr_M_three; rw [h]; rfl)
set_option maxRecDepth 100000 in
theorem lkc_M_fourOf : ∀ pc, rz_lkc (rz_mi 179).1 (pr_M_fourOf pc).1 = true := rz_lkall 310 (by decide +kernel) (fun pc h => by unfold pr_M_fourOf; rw [h]; rfl)
set_option maxRecDepth 100000 in
theorem lkc_M_kindOf : ∀ pc, rz_lkc (rz_mi 180).1 (pr_M_kindOf pc).1 = true := rz_lkall 237 (by decide +kernel) (fun pc h => by unfold pr_M_kindOf; rw [h]; rfl)
set_option maxRecDepth 100000 in
theorem lkc_M_twoOf : ∀ pc, rz_lkc (rz_mi 181).1 (pr_M_twoOf pc).1 = true := rz_lkall 50 (by decide +kernel) (fun pc h => by unfold pr_M_twoOf; rw [h]; rfl)
set_option maxRecDepth 100000 in
theorem lkc_M_quarticOf : ∀ pc, rz_lkc (rz_mi 182).1 (pr_M_quarticOf pc).1 = true := rz_lkall 228 (by decide +kernel) (fun pc h => by unfold pr_M_quarticOf; rw [h]; rfl)
set_option maxRecDepth 100000 in
theorem lkc_M_orderOf : ∀ pc, rz_lkc (rz_mi 183).1 (pr_M_orderOf pc).1 = true := rz_lkall 76 (by decide +kernel) (fun pc h => by unfold pr_M_orderOf; rw [h]; rfl)
set_option maxRecDepth 100000 in
theorem lkc_M_fieldsOf : ∀ pc, rz_lkc (rz_mi 184).1 (pr_M_fieldsOf pc).1 = true := rz_lkall 73 (by decide +kernel) (fun pc h => by unfold pr_M_fieldsOf; rw [h]; rfl)
set_option maxRecDepth 100000 in
theorem lkc_M_manyOf : ∀ pc, rz_lkc (rz_mi 185).1 (pr_M_manyOf pc).1 = true := rz_lkall 239 (by decide +kernel) (fun pc h => by unfold pr_M_manyOf; rw [h]; rfl)
set_option maxRecDepth 100000 in
theorem lkc_M_isGrouped : ∀ pc, rz_lkc (rz_mi 186).1 (pr_M_isGrouped pc).1 = true := rz_lkall 23 (by decide +kernel) (fun pc h => by unfold pr_M_isGrouped; rw [h]; rfl)
set_option maxRecDepth 100000 in
theorem lkc_M_group : ∀ pc, rz_lkc (rz_mi 187).1 (pr_M_group pc).1 = true := rz_lkall 128 (by decide +kernel) (fun pc h => by unfold pr_M_group; rw [h]; rfl)
set_option maxRecDepth 100000 in
theorem lkc_M_typeOf : ∀ pc, rz_lkc (rz_mi 188).1 (pr_M_typeOf pc).1 = true := rz_lkall 101 (by decide +kernel) (fun pc h => by unfold pr_M_typeOf; rw [h]; rfl)
set_option maxRecDepth 100000 in
theorem lkc_M_changes : ∀ pc, rz_lkc (rz_mi 189).1 (pr_M_changes pc).1 = true := rz_lkall 112 (by decide +kernel) (fun pc h => by unfold pr_M_changes; rw [h]; rfl)
set_option maxRecDepth 100000 in
theorem lkc_M_discriminant : ∀ pc, rz_lkc (rz_mi 190).1 (pr_M_discriminant pc).1 = true := rz_lkall 188 (by decide +kernel) (fun pc h => by unfold pr_M_discriminant; rw [h]; rfl)
set_option maxRecDepth 100000 in
theorem lkc_M_setBig : ∀ pc, rz_lkc (rz_mi 191).1 (pr_M_setBig pc).1 = true := rz_lkall 95 (by decide +kernel) (fun pc h => by unfold pr_M_setBig; rw [h]; rfl)
set_option maxRecDepth 100000 in
theorem lkc_M_copyBig : ∀ pc, rz_lkc (rz_mi 192).1 (pr_M_copyBig pc).1 = true := rz_lkall 70 (by decide +kernel) (fun pc h => by unfold pr_M_copyBig; rw [h]; rfl)
set_option maxRecDepth 100000 in
theorem lkc_M_usedBig : ∀ pc, rz_lkc (rz_mi 193).1 (pr_M_usedBig pc).1 = true := rz_lkall 33 (by decide +kernel) (fun pc h => by unfold pr_M_usedBig; rw [h]; rfl)
set_option maxRecDepth 100000 in
theorem lkc_M_timesBig : ∀ pc, rz_lkc (rz_mi 194).1 (pr_M_timesBig pc).1 = true := rz_lkall 186 (by decide +kernel) (fun pc h => by unfold pr_M_timesBig; rw [h]; rfl)
set_option maxRecDepth 100000 in
theorem lkc_M_compareBig : ∀ pc, rz_lkc (rz_mi 195).1 (pr_M_compareBig pc).1 = true := rz_lkall 76 (by decide +kernel) (fun pc h => by unfold pr_M_compareBig; rw [h]; rfl)
set_option maxRecDepth 100000 in
theorem lkc_M_plusBig : ∀ pc, rz_lkc (rz_mi 196).1 (pr_M_plusBig pc).1 = true := rz_lkall 284 (by decide +kernel) (fun pc h => by unfold pr_M_plusBig; rw [h]; rfl)
set_option maxRecDepth 100000 in
theorem lkc_M_addRest : ∀ pc, rz_lkc (rz_mi 197).1 (pr_M_addRest pc).1 = true := rz_lkall 324 (by decide +kernel) (fun pc h => by unfold pr_M_addRest; rw [h]; rfl)
set_option maxRecDepth 100000 in
theorem lkc_M_makeChain : ∀ pc, rz_lkc (rz_mi 198).1 (pr_M_makeChain pc).1 = true := rz_lkall 182 (by decide +kernel) (fun pc h => by unfold pr_M_makeChain; rw [h]; rfl)
set_option maxRecDepth 100000 in
theorem lkc_M_signAt : ∀ pc, rz_lkc (rz_mi 199).1 (pr_M_signAt pc).1 = true := rz_lkall 76 (by decide +kernel) (fun pc h => by unfold pr_M_signAt; rw [h]; rfl)
set_option maxRecDepth 100000 in
theorem lkc_M_changesAt : ∀ pc, rz_lkc (rz_mi 200).1 (pr_M_changesAt pc).1 = true := rz_lkall 68 (by decide +kernel) (fun pc h => by unfold pr_M_changesAt; rw [h]; rfl)
set_option maxRecDepth 100000 in
theorem lkc_M_changesFar : ∀ pc, rz_lkc (rz_mi 201).1 (pr_M_changesFar pc).1 = true := rz_lkall 92 (by decide +kernel) (fun pc h => by unfold pr_M_changesFar; rw [h]; rfl)
set_option maxRecDepth 100000 in
theorem lkc_M_count : ∀ pc, rz_lkc (rz_mi 202).1 (pr_M_count pc).1 = true := rz_lkall 76 (by decide +kernel) (fun pc h => by unfold pr_M_count; rw [h]; rfl)
set_option maxRecDepth 100000 in
theorem lkc_M_reals : ∀ pc, rz_lkc (rz_mi 203).1 (pr_M_reals pc).1 = true := rz_lkall 43 (by decide +kernel) (fun pc h => by unfold pr_M_reals; rw [h]; rfl)
set_option maxRecDepth 100000 in
theorem lkc_M_status : ∀ pc, rz_lkc (rz_mi 204).1 (pr_M_status pc).1 = true := rz_lkall 10 (by decide +kernel) (fun pc h => by unfold pr_M_status; rw [h]; rfl)
set_option maxRecDepth 100000 in
theorem lkc_J_highestOneBit : ∀ pc, rz_lkc (rz_mi 205).1 (pr_J_highestOneBit pc).1 = true := rz_lkall 10 (by decide +kernel) (fun pc h => by unfold pr_J_highestOneBit; rw [h]; rfl)
set_option maxRecDepth 100000 in
theorem lkc_J_numberOfLeadingZeros : ∀ pc, rz_lkc (rz_mi 206).1 (pr_J_numberOfLeadingZeros pc).1 = true := rz_lkall 79 (by decide +kernel) (fun pc h => by unfold pr_J_numberOfLeadingZeros; rw [h]; rfl)
set_option maxRecDepth 100000 in
theorem lkc_J_bitCount : ∀ pc, rz_lkc (rz_mi 207).1 (pr_J_bitCount pc).1 = true := rz_lkall 53 (by decide +kernel) (fun pc h => by unfold pr_J_bitCount; rw [h]; rfl)
set_option maxRecDepth 100000 in
theorem lkc_J_signum : ∀ pc, rz_lkc (rz_mi 208).1 (pr_J_signum pc).1 = true := rz_lkall 12 (by decide +kernel) (fun pc h => by unfold pr_J_signum; rw [h]; rfl)
set_option maxRecDepth 100000 in
theorem lkc_J_abs : ∀ pc, rz_lkc (rz_mi 209).1 (pr_J_abs pc).1 = true := rz_lkall 13 (by decide +kernel) (fun pc h => by unfold pr_J_abs; rw [h]; rfl)
set_option maxRecDepth 100000 in
theorem lkc_J_max : ∀ pc, rz_lkc (rz_mi 210).1 (pr_J_max pc).1 = true := rz_lkall 11 (by decide +kernel) (fun pc h => by unfold pr_J_max; rw [h]; rfl)
set_option maxRecDepth 100000 in
theorem lkc_J_min : ∀ pc, rz_lkc (rz_mi 211).1 (pr_J_min pc).1 = true := rz_lkall 11 (by decide +kernel) (fun pc h => by unfold pr_J_min; rw [h]; rfl)
set_option maxRecDepth 100000 in
theorem lkc_L_law : ∀ pc, rz_lkc (rz_mi 212).1 (pr_L_law pc).1 = true := rz_lkall 1019 (by decide +kernel) (fun pc h => by unfold pr_L_law; rw [h]; rfl)
set_option maxRecDepth 100000 in
set_option maxHeartbeats 4000000 in
theorem lkc_list : ∀ y ∈ [0, 1, 2, 3, 4, 5, 6, 7, 8, 9, 10, 11, 12, 13, 14, 15, 16, 17, 18, 19, 20, 21, 22, 23, 24, 25, 26, 27, 28, 29, 30, 31, 32, 33, 34, 35, 36, 37, 38, 39, 40, 41, 42, 43, 44, 45, 46, 47, 48, 49, 50, 51, 52, 53, 54, 55, 56, 57, 58, 59, 60, 61, 62, 63, 64, 65, 66, 67, 68, 69, 70, 71, 72, 73, 74, 75, 76, 77, 78, 79, 80, 81, 82, 83, 84, 85, 86, 87, 88, 89, 90, 91, 92, 93, 94, 95, 96, 97, 98, 99, 100, 101, 102, 103, 104, 105, 106, 107, 108, 109, 110, 111, 112, 113, 114, 115, 116, 117, 118, 119, 120, 121, 122, 123, 124, 125, 126, 127, 128, 129, 130, 131, 132, 133, 134, 135, 136, 137, 138, 139, 140, 141, 142, 143, 144, 145, 146, 147, 148, 149, 150, 151, 152, 153, 154, 155, 156, 157, 158, 159, 160, 161, 162, 163, 164, 165, 166, 167, 168, 169, 170, 171, 172, 173, 174, 175, 176, 177, 178, 179, 180, 181, 182, 183, 184, 185, 186, 187, 188, 189, 190, 191, 192, 193, 194, 195, 196, 197, 198, 199, 200, 201, 202, 203, 204, 205, 206, 207, 208, 209, 210, 211, 212], ∀ pc, rz_lkc (rz_mi y).1 (rz_p y pc).1 = true := List.forall_mem_cons.mpr ⟨lkc_Big_init, List.forall_mem_cons.mpr ⟨lkc_Big_sign, List.forall_mem_cons.mpr ⟨lkc_Big_flip, List.forall_mem_cons.mpr ⟨lkc_Big_put, List.forall_mem_cons.mpr ⟨lkc_Big_take, List.forall_mem_cons.mpr ⟨lkc_Big_scale, List.forall_mem_cons.mpr ⟨lkc_Big_multiply, List.forall_mem_cons.mpr ⟨lkc_Big_add, List.forall_mem_cons.mpr ⟨lkc_Big_addSizes, List.forall_mem_cons.mpr ⟨lkc_Big_takeSizes, List.forall_mem_cons.mpr ⟨lkc_Big_isSmaller, List.forall_mem_cons.mpr ⟨lkc_Big_endWith, List.forall_mem_cons.mpr ⟨lkc_Big_divideBy, List.forall_mem_cons.mpr ⟨lkc_Big_isWithin, List.forall_mem_cons.mpr ⟨lkc_Big_asLong, List.forall_mem_cons.mpr ⟨lkc_Kind_size, List.forall_mem_cons.mpr ⟨lkc_Kind_isEven, List.forall_mem_cons.mpr ⟨lkc_Kind_sizeOfType, List.forall_mem_cons.mpr ⟨lkc_Kind_ones, List.forall_mem_cons.mpr ⟨lkc_Parts_init, List.forall_mem_cons.mpr ⟨lkc_Parts_startWith, List.forall_mem_cons.mpr ⟨lkc_Parts_take, List.forall_mem_cons.mpr ⟨lkc_Parts_isBefore, List.forall_mem_cons.mpr ⟨lkc_Parts_rootsInAll, List.forall_mem_cons.mpr ⟨lkc_Parts_shareWith, List.forall_mem_cons.mpr ⟨lkc_Parts_oftenOf, List.forall_mem_cons.mpr ⟨lkc_PV_init, List.forall_mem_cons.mpr ⟨lkc_PV_typeBy, List.forall_mem_cons.mpr ⟨lkc_PV_load, List.forall_mem_cons.mpr ⟨lkc_PV_hasUnlikeRoots, List.forall_mem_cons.mpr ⟨lkc_PV_makeFirstStep, List.forall_mem_cons.mpr ⟨lkc_PV_makeNextStep, List.forall_mem_cons.mpr ⟨lkc_PV_multiplyStepByX, List.forall_mem_cons.mpr ⟨lkc_PV_multiplyStep, List.forall_mem_cons.mpr ⟨lkc_PV_shareWithStep, List.forall_mem_cons.mpr ⟨lkc_PV_shareLeftRight, List.forall_mem_cons.mpr ⟨lkc_PV_partWhole, List.forall_mem_cons.mpr ⟨lkc_PV_reduce, List.forall_mem_cons.mpr ⟨lkc_PV_makeEndWithOne, List.forall_mem_cons.mpr ⟨lkc_PV_inverseOf, List.forall_mem_cons.mpr ⟨lkc_PV_byPrime, List.forall_mem_cons.mpr ⟨lkc_RA_init, List.forall_mem_cons.mpr ⟨lkc_RA_addRoots, List.forall_mem_cons.mpr ⟨lkc_RA_fillPowers, List.forall_mem_cons.mpr ⟨lkc_RA_mixPowers, List.forall_mem_cons.mpr ⟨lkc_SC_init, List.forall_mem_cons.mpr ⟨lkc_SC_build, List.forall_mem_cons.mpr ⟨lkc_SC_putRest, List.forall_mem_cons.mpr ⟨lkc_SC_lower, List.forall_mem_cons.mpr ⟨lkc_SC_variationsAt, List.forall_mem_cons.mpr ⟨lkc_SC_signAt, List.forall_mem_cons.mpr ⟨lkc_SC_variationsFarOut, List.forall_mem_cons.mpr ⟨lkc_Sp_init, List.forall_mem_cons.mpr ⟨lkc_Sp_splitInto, List.forall_mem_cons.mpr ⟨lkc_Sp_takePowersOfX, List.forall_mem_cons.mpr ⟨lkc_Sp_takeLinears, List.forall_mem_cons.mpr ⟨lkc_Sp_takeLinearsWith, List.forall_mem_cons.mpr ⟨lkc_Sp_possibleDegrees, List.forall_mem_cons.mpr ⟨lkc_Sp_sumsOfDigits, List.forall_mem_cons.mpr ⟨lkc_Sp_takeQuadratic, List.forall_mem_cons.mpr ⟨lkc_Sp_takeCubic, List.forall_mem_cons.mpr ⟨lkc_Sp_takeCubicWith, List.forall_mem_cons.mpr ⟨lkc_Sp_setPart, List.forall_mem_cons.mpr ⟨lkc_Sp_takeOut, List.forall_mem_cons.mpr ⟨lkc_Sp_dividesRest, List.forall_mem_cons.mpr ⟨lkc_Sp_listDivisors, List.forall_mem_cons.mpr ⟨lkc_RC_init, List.forall_mem_cons.mpr ⟨lkc_RC_told, List.forall_mem_cons.mpr ⟨lkc_RC_number, List.forall_mem_cons.mpr ⟨lkc_RC_degree, List.forall_mem_cons.mpr ⟨lkc_RC_at, List.forall_mem_cons.mpr ⟨lkc_RC_times, List.forall_mem_cons.mpr ⟨lkc_RC_plus, List.forall_mem_cons.mpr ⟨lkc_RC_derive, List.forall_mem_cons.mpr ⟨lkc_RC_shift, List.forall_mem_cons.mpr ⟨lkc_RC_turn, List.forall_mem_cons.mpr ⟨lkc_RC_common, List.forall_mem_cons.mpr ⟨lkc_RC_sums, List.forall_mem_cons.mpr ⟨lkc_RC_factors, List.forall_mem_cons.mpr ⟨lkc_RC_factor, List.forall_mem_cons.mpr ⟨lkc_RC_type, List.forall_mem_cons.mpr ⟨lkc_RC_tally, List.forall_mem_cons.mpr ⟨lkc_RC_group, List.forall_mem_cons.mpr ⟨lkc_RC_changes, List.forall_mem_cons.mpr ⟨lkc_RC_discriminant, List.forall_mem_cons.mpr ⟨lkc_RC_count, List.forall_mem_cons.mpr ⟨lkc_RC_reals, List.forall_mem_cons.mpr ⟨lkc_RC_power, List.forall_mem_cons.mpr ⟨lkc_RC_pairs, List.forall_mem_cons.mpr ⟨lkc_RC_status, List.forall_mem_cons.mpr ⟨lkc_RC_refuse, List.forall_mem_cons.mpr ⟨lkc_RC_keepMade, List.forall_mem_cons.mpr ⟨lkc_RC_fillRootPowers, List.forall_mem_cons.mpr ⟨lkc_RC_partOfFraction, List.forall_mem_cons.mpr ⟨lkc_RC_isRow, List.forall_mem_cons.mpr ⟨lkc_RC_isWithin, List.forall_mem_cons.mpr ⟨lkc_RC_isSmallNumber, List.forall_mem_cons.mpr ⟨lkc_RC_hasSmallNumbers, List.forall_mem_cons.mpr ⟨lkc_RC_isSmall, List.forall_mem_cons.mpr ⟨lkc_RC_isPlain, List.forall_mem_cons.mpr ⟨lkc_RC_hasGroup, List.forall_mem_cons.mpr ⟨lkc_RC_degreeOf, List.forall_mem_cons.mpr ⟨lkc_RC_clear, List.forall_mem_cons.mpr ⟨lkc_RC_copy, List.forall_mem_cons.mpr ⟨lkc_RC_valueAt, List.forall_mem_cons.mpr ⟨lkc_RC_deriveInto, List.forall_mem_cons.mpr ⟨lkc_RC_addProduct, List.forall_mem_cons.mpr ⟨lkc_RC_takeContentOut, List.forall_mem_cons.mpr ⟨lkc_RC_greatestDivisor, List.forall_mem_cons.mpr ⟨lkc_RC_divides, List.forall_mem_cons.mpr ⟨lkc_RC_isPrime, List.forall_mem_cons.mpr ⟨lkc_RC_isSquare, List.forall_mem_cons.mpr ⟨lkc_RC_isSameSquareClass, List.forall_mem_cons.mpr ⟨lkc_RC_discriminantOf, List.forall_mem_cons.mpr ⟨lkc_RC_kindOf, List.forall_mem_cons.mpr ⟨lkc_RC_kindOfQuadratics, List.forall_mem_cons.mpr ⟨lkc_RC_kindOfQuartic, List.forall_mem_cons.mpr ⟨lkc_RC_splitsBy, List.forall_mem_cons.mpr ⟨lkc_RC_wholeRoot, List.forall_mem_cons.mpr ⟨lkc_M_init, List.forall_mem_cons.mpr ⟨lkc_M_in, List.forall_mem_cons.mpr ⟨lkc_M_said, List.forall_mem_cons.mpr ⟨lkc_M_divisor, List.forall_mem_cons.mpr ⟨lkc_M_isRow, List.forall_mem_cons.mpr ⟨lkc_M_degreeOf, List.forall_mem_cons.mpr ⟨lkc_M_told, List.forall_mem_cons.mpr ⟨lkc_M_number, List.forall_mem_cons.mpr ⟨lkc_M_degree, List.forall_mem_cons.mpr ⟨lkc_M_at, List.forall_mem_cons.mpr ⟨lkc_M_clear, List.forall_mem_cons.mpr ⟨lkc_M_put, List.forall_mem_cons.mpr ⟨lkc_M_times, List.forall_mem_cons.mpr ⟨lkc_M_plus, List.forall_mem_cons.mpr ⟨lkc_M_derive, List.forall_mem_cons.mpr ⟨lkc_M_shift, List.forall_mem_cons.mpr ⟨lkc_M_turn, List.forall_mem_cons.mpr ⟨lkc_M_isSmall, List.forall_mem_cons.mpr ⟨lkc_M_isPlain, List.forall_mem_cons.mpr ⟨lkc_M_valueAt, List.forall_mem_cons.mpr ⟨lkc_M_divides, List.forall_mem_cons.mpr ⟨lkc_M_takesOut, List.forall_mem_cons.mpr ⟨lkc_M_into, List.forall_mem_cons.mpr ⟨lkc_M_findLinear, List.forall_mem_cons.mpr ⟨lkc_M_findQuadratic, List.forall_mem_cons.mpr ⟨lkc_M_findCubic, List.forall_mem_cons.mpr ⟨lkc_M_findMiddle, List.forall_mem_cons.mpr ⟨lkc_M_takeLeft, List.forall_mem_cons.mpr ⟨lkc_M_findFactors, List.forall_mem_cons.mpr ⟨lkc_M_isAhead, List.forall_mem_cons.mpr ⟨lkc_M_sortFactors, List.forall_mem_cons.mpr ⟨lkc_M_exchange, List.forall_mem_cons.mpr ⟨lkc_M_factors, List.forall_mem_cons.mpr ⟨lkc_M_factor, List.forall_mem_cons.mpr ⟨lkc_M_keepOther, List.forall_mem_cons.mpr ⟨lkc_M_oftenThere, List.forall_mem_cons.mpr ⟨lkc_M_makeTimes, List.forall_mem_cons.mpr ⟨lkc_M_common, List.forall_mem_cons.mpr ⟨lkc_M_findSums, List.forall_mem_cons.mpr ⟨lkc_M_powerOf, List.forall_mem_cons.mpr ⟨lkc_M_part, List.forall_mem_cons.mpr ⟨lkc_M_power, List.forall_mem_cons.mpr ⟨lkc_M_pairs, List.forall_mem_cons.mpr ⟨lkc_M_choose, List.forall_mem_cons.mpr ⟨lkc_M_sums, List.forall_mem_cons.mpr ⟨lkc_M_bothSum, List.forall_mem_cons.mpr ⟨lkc_M_inverse, List.forall_mem_cons.mpr ⟨lkc_M_topOf, List.forall_mem_cons.mpr ⟨lkc_M_multiply, List.forall_mem_cons.mpr ⟨lkc_M_toPrime, List.forall_mem_cons.mpr ⟨lkc_M_commonBy, List.forall_mem_cons.mpr ⟨lkc_M_typeBy, List.forall_mem_cons.mpr ⟨lkc_M_degreesBy, List.forall_mem_cons.mpr ⟨lkc_M_before, List.forall_mem_cons.mpr ⟨lkc_M_isPrime, List.forall_mem_cons.mpr ⟨lkc_M_type, List.forall_mem_cons.mpr ⟨lkc_M_tally, List.forall_mem_cons.mpr ⟨lkc_M_isSquare, List.forall_mem_cons.mpr ⟨lkc_M_areSquare, List.forall_mem_cons.mpr ⟨lkc_M_three, List.forall_mem_cons.mpr ⟨lkc_M_fourOf, List.forall_mem_cons.mpr ⟨lkc_M_kindOf, List.forall_mem_cons.mpr ⟨lkc_M_twoOf, List.forall_mem_cons.mpr ⟨lkc_M_quarticOf, List.forall_mem_cons.mpr ⟨lkc_M_orderOf, List.forall_mem_cons.mpr ⟨lkc_M_fieldsOf, List.forall_mem_cons.mpr ⟨lkc_M_manyOf, List.forall_mem_cons.mpr ⟨lkc_M_isGrouped, List.forall_mem_cons.mpr ⟨lkc_M_group, List.forall_mem_cons.mpr ⟨lkc_M_typeOf, List.forall_mem_cons.mpr ⟨lkc_M_changes, List.forall_mem_cons.mpr ⟨lkc_M_discriminant, List.forall_mem_cons.mpr ⟨lkc_M_setBig, List.forall_mem_cons.mpr ⟨lkc_M_copyBig, List.forall_mem_cons.mpr ⟨lkc_M_usedBig, List.forall_mem_cons.mpr ⟨lkc_M_timesBig, List.forall_mem_cons.mpr ⟨lkc_M_compareBig, List.forall_mem_cons.mpr ⟨lkc_M_plusBig, List.forall_mem_cons.mpr ⟨lkc_M_addRest, List.forall_mem_cons.mpr ⟨lkc_M_makeChain, List.forall_mem_cons.mpr ⟨lkc_M_signAt, List.forall_mem_cons.mpr ⟨lkc_M_changesAt, List.forall_mem_cons.mpr ⟨lkc_M_changesFar, List.forall_mem_cons.mpr ⟨lkc_M_count, List.forall_mem_cons.mpr ⟨lkc_M_reals, List.forall_mem_cons.mpr ⟨lkc_M_status, List.forall_mem_cons.mpr ⟨lkc_J_highestOneBit, List.forall_mem_cons.mpr ⟨lkc_J_numberOfLeadingZeros, List.forall_mem_cons.mpr ⟨lkc_J_bitCount, List.forall_mem_cons.mpr ⟨lkc_J_signum, List.forall_mem_cons.mpr ⟨lkc_J_abs, List.forall_mem_cons.mpr ⟨lkc_J_max, List.forall_mem_cons.mpr ⟨lkc_J_min, List.forall_mem_cons.mpr ⟨lkc_L_law, fun _ h => absurd h List.not_mem_nil⟩⟩⟩⟩⟩⟩⟩⟩⟩⟩⟩⟩⟩⟩⟩⟩⟩⟩⟩⟩⟩⟩⟩⟩⟩⟩⟩⟩⟩⟩⟩⟩⟩⟩⟩⟩⟩⟩⟩⟩⟩⟩⟩⟩⟩⟩⟩⟩⟩⟩⟩⟩⟩⟩⟩⟩⟩⟩⟩⟩⟩⟩⟩⟩⟩⟩⟩⟩⟩⟩⟩⟩⟩⟩⟩⟩⟩⟩⟩⟩⟩⟩⟩⟩⟩⟩⟩⟩⟩⟩⟩⟩⟩⟩⟩⟩⟩⟩⟩⟩⟩⟩⟩⟩⟩⟩⟩⟩⟩⟩⟩⟩⟩⟩⟩⟩⟩⟩⟩⟩⟩⟩⟩⟩⟩⟩⟩⟩⟩⟩⟩⟩⟩⟩⟩⟩⟩⟩⟩⟩⟩⟩⟩⟩⟩⟩⟩⟩⟩⟩⟩⟩⟩⟩⟩⟩⟩⟩⟩⟩⟩⟩⟩⟩⟩⟩⟩⟩⟩⟩⟩⟩⟩⟩⟩⟩⟩⟩⟩⟩⟩⟩⟩⟩⟩⟩⟩⟩⟩⟩⟩⟩⟩⟩⟩⟩⟩⟩⟩⟩⟩⟩⟩⟩⟩⟩⟩⟩⟩⟩⟩⟩⟩
theorem lkc_all (y : Nat) (h : y < 213) (pc : Nat) : rz_lkc (rz_mi y).1 (rz_p y pc).1 = true := lkc_list y (by have : y ∈ List.range 213 := List.mem_range.mpr h; exact this) pc
