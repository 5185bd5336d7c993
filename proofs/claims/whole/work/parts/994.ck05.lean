set_option maxRecDepth 100000 in
theorem ck_PrimeGroup_codeOf : ckM MT me_PrimeGroup_codeOf = true := by decide +kernel
set_option maxRecDepth 100000 in
theorem ck_X_codeBy : ckM MT me_X_codeBy = true := by decide +kernel
set_option maxRecDepth 100000 in
theorem cq_PrimeGroup_add_0 : ckC MT "CurvePoints$PrimeGroup" prog_7_method_8_code (some .int) mc_PrimeGroup_add 0 (mc_PrimeGroup_add.take 50) = true := by decide +kernel
set_option maxRecDepth 100000 in
theorem cq_PrimeGroup_add_1 : ckC MT "CurvePoints$PrimeGroup" prog_7_method_8_code (some .int) mc_PrimeGroup_add 50 ((mc_PrimeGroup_add.drop 50).take 50) = true := by decide +kernel
set_option maxRecDepth 100000 in
theorem cq_PrimeGroup_add_2 : ckC MT "CurvePoints$PrimeGroup" prog_7_method_8_code (some .int) mc_PrimeGroup_add 100 (((mc_PrimeGroup_add.drop 50).drop 50)) = true := by decide +kernel
set_option maxRecDepth 100000 in
theorem ck_PrimeGroup_add : ckM MT me_PrimeGroup_add = true := ck_join (by decide +kernel) (by decide +kernel) (ck_cut 50 (by decide +kernel) cq_PrimeGroup_add_0 (ck_cut 50 (by decide +kernel) cq_PrimeGroup_add_1 cq_PrimeGroup_add_2))
set_option maxRecDepth 100000 in
theorem ck_PrimeGroup_orderOfCode : ckM MT me_PrimeGroup_orderOfCode = true := by decide +kernel
set_option maxRecDepth 100000 in
theorem ck_X_orderBy : ckM MT me_X_orderBy = true := by decide +kernel
set_option maxRecDepth 100000 in
theorem ck_M_power : ckM MT me_M_power = true := by decide +kernel
set_option maxRecDepth 100000 in
theorem ck_M_starts : ckM MT me_M_starts = true := by decide +kernel
set_option maxRecDepth 100000 in
theorem cq_M_addsBy_0 : ckC MT "CurvePointsModel" prog_14_method_58_code (none) mc_M_addsBy 0 (mc_M_addsBy.take 50) = true := by decide +kernel
set_option maxRecDepth 100000 in
theorem cq_M_addsBy_1 : ckC MT "CurvePointsModel" prog_14_method_58_code (none) mc_M_addsBy 50 ((mc_M_addsBy.drop 50).take 50) = true := by decide +kernel
set_option maxRecDepth 100000 in
theorem cq_M_addsBy_2 : ckC MT "CurvePointsModel" prog_14_method_58_code (none) mc_M_addsBy 100 (((mc_M_addsBy.drop 50).drop 50)) = true := by decide +kernel
set_option maxRecDepth 100000 in
theorem ck_M_addsBy : ckM MT me_M_addsBy = true := ck_join (by decide +kernel) (by decide +kernel) (ck_cut 50 (by decide +kernel) cq_M_addsBy_0 (ck_cut 50 (by decide +kernel) cq_M_addsBy_1 cq_M_addsBy_2))
set_option maxRecDepth 100000 in
theorem ck_M_orderFrom : ckM MT me_M_orderFrom = true := by decide +kernel
set_option maxRecDepth 100000 in
theorem ck_M_orderBy : ckM MT me_M_orderBy = true := by decide +kernel
set_option maxRecDepth 100000 in
theorem ck_X_bound : ckM MT me_X_bound = true := by decide +kernel
set_option maxRecDepth 100000 in
theorem ck_M_bound : ckM MT me_M_bound = true := by decide +kernel
set_option maxRecDepth 100000 in
theorem ck_X_trace : ckM MT me_X_trace = true := by decide +kernel
set_option maxRecDepth 100000 in
theorem ck_M_trace : ckM MT me_M_trace = true := by decide +kernel
set_option maxRecDepth 100000 in
theorem ck_ClassTable_sortDivisors : ckM MT me_ClassTable_sortDivisors = true := by decide +kernel
set_option maxRecDepth 100000 in
theorem ck_ClassTable_addPrime : ckM MT me_ClassTable_addPrime = true := by decide +kernel
set_option maxRecDepth 100000 in
theorem ck_ClassTable_gatherDivisors : ckM MT me_ClassTable_gatherDivisors = true := by decide +kernel
set_option maxRecDepth 100000 in
theorem ck_ClassTable_size : ckM MT me_ClassTable_size = true := by decide +kernel
set_option maxRecDepth 100000 in
theorem ck_ClassTable_divisor : ckM MT me_ClassTable_divisor = true := by decide +kernel
set_option maxRecDepth 100000 in
theorem ck_ClassTable_valueAt : ckM MT me_ClassTable_valueAt = true := by decide +kernel
set_option maxRecDepth 100000 in
theorem ck_ClassTable_mayBeBy : ckM MT me_ClassTable_mayBeBy = true := by decide +kernel
set_option maxRecDepth 100000 in
theorem ck_ClassTable_mayBe : ckM MT me_ClassTable_mayBe = true := by decide +kernel
set_option maxRecDepth 100000 in
theorem ck_ClassTable_tally : ckM MT me_ClassTable_tally = true := by decide +kernel
set_option maxRecDepth 100000 in
theorem ck_ClassTable_search : ckM MT me_ClassTable_search = true := by decide +kernel
set_option maxRecDepth 100000 in
theorem ck_ClassTable_isFound : ckM MT me_ClassTable_isFound = true := by decide +kernel
set_option maxRecDepth 100000 in
theorem ck_ClassTable_mask : ckM MT me_ClassTable_mask = true := by decide +kernel
set_option maxRecDepth 100000 in
theorem ck_ClassTable_makeProducts : ckM MT me_ClassTable_makeProducts = true := by decide +kernel
set_option maxRecDepth 100000 in
theorem ck_ClassTable_judge : ckM MT me_ClassTable_judge = true := by decide +kernel
set_option maxRecDepth 100000 in
theorem ck_ClassTable_prepare : ckM MT me_ClassTable_prepare = true := by decide +kernel
set_option maxRecDepth 100000 in
theorem ck_X_side : ckM MT me_X_side = true := by decide +kernel
