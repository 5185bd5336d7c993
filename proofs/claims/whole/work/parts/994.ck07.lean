set_option maxRecDepth 100000 in
theorem ck_M_bitsOf : ckM MT me_M_bitsOf = true := by decide +kernel
set_option maxRecDepth 100000 in
theorem ck_M_bits : ckM MT me_M_bits = true := by decide +kernel
set_option maxRecDepth 100000 in
theorem ck_Adder_heightDigits : ckM MT me_Adder_heightDigits = true := by decide +kernel
set_option maxRecDepth 100000 in
theorem ck_X_parallel : ckM MT me_X_parallel = true := by decide +kernel
set_option maxRecDepth 100000 in
theorem ck_M_bitsOfSum : ckM MT me_M_bitsOfSum = true := by decide +kernel
set_option maxRecDepth 100000 in
theorem ck_M_parallel : ckM MT me_M_parallel = true := by decide +kernel
set_option maxRecDepth 100000 in
theorem ck_Sums_shown : ckM MT me_Sums_shown = true := by decide +kernel
set_option maxRecDepth 100000 in
theorem ck_Closure_take : ckM MT me_Closure_take = true := by decide +kernel
set_option maxRecDepth 100000 in
theorem ck_Closure_maker : ckM MT me_Closure_maker = true := by decide +kernel
set_option maxRecDepth 100000 in
theorem ck_Closure_addMaker : ckM MT me_Closure_addMaker = true := by decide +kernel
set_option maxRecDepth 100000 in
theorem ck_Closure_size : ckM MT me_Closure_size = true := by decide +kernel
set_option maxRecDepth 100000 in
theorem ck_X_made : ckM MT me_X_made = true := by decide +kernel
set_option maxRecDepth 100000 in
theorem ck_M_placeOf : ckM MT me_M_placeOf = true := by decide +kernel
set_option maxRecDepth 100000 in
theorem cq_M_laysIn_0 : ckC MT "CurvePointsModel" prog_14_method_120_code (none) mc_M_laysIn 0 (mc_M_laysIn.take 50) = true := by decide +kernel
set_option maxRecDepth 100000 in
theorem cq_M_laysIn_1 : ckC MT "CurvePointsModel" prog_14_method_120_code (none) mc_M_laysIn 50 ((mc_M_laysIn.drop 50).take 50) = true := by decide +kernel
set_option maxRecDepth 100000 in
theorem cq_M_laysIn_2 : ckC MT "CurvePointsModel" prog_14_method_120_code (none) mc_M_laysIn 100 (((mc_M_laysIn.drop 50).drop 50)) = true := by decide +kernel
set_option maxRecDepth 100000 in
theorem ck_M_laysIn : ckM MT me_M_laysIn = true := ck_join (by decide +kernel) (by decide +kernel) (ck_cut 50 (by decide +kernel) cq_M_laysIn_0 (ck_cut 50 (by decide +kernel) cq_M_laysIn_1 cq_M_laysIn_2))
set_option maxRecDepth 100000 in
theorem ck_M_made : ckM MT me_M_made = true := by decide +kernel
set_option maxRecDepth 100000 in
theorem ck_Closure_gather : ckM MT me_Closure_gather = true := by decide +kernel
set_option maxRecDepth 100000 in
theorem ck_Closure_makerCount : ckM MT me_Closure_makerCount = true := by decide +kernel
set_option maxRecDepth 100000 in
theorem ck_X_makers : ckM MT me_X_makers = true := by decide +kernel
set_option maxRecDepth 100000 in
theorem ck_M_makers : ckM MT me_M_makers = true := by decide +kernel
set_option maxRecDepth 100000 in
theorem ck_Sums_fillTimes : ckM MT me_Sums_fillTimes = true := by decide +kernel
set_option maxRecDepth 100000 in
theorem ck_Sums_reaches : ckM MT me_Sums_reaches = true := by decide +kernel
set_option maxRecDepth 100000 in
theorem ck_Sums_findFactors : ckM MT me_Sums_findFactors = true := by decide +kernel
set_option maxRecDepth 100000 in
theorem ck_Sums_factor : ckM MT me_Sums_factor = true := by decide +kernel
set_option maxRecDepth 100000 in
theorem ck_X_related : ckM MT me_X_related = true := by decide +kernel
set_option maxRecDepth 100000 in
theorem ck_M_isRound : ckM MT me_M_isRound = true := by decide +kernel
set_option maxRecDepth 100000 in
theorem ck_M_isRelated : ckM MT me_M_isRelated = true := by decide +kernel
set_option maxRecDepth 100000 in
theorem ck_M_related : ckM MT me_M_related = true := by decide +kernel
set_option maxRecDepth 100000 in
theorem ck_X_above : ckM MT me_X_above = true := by decide +kernel
set_option maxRecDepth 100000 in
theorem ck_M_above : ckM MT me_M_above = true := by decide +kernel
set_option maxRecDepth 100000 in
theorem ck_X_upTo : ckM MT me_X_upTo = true := by decide +kernel
