set_option maxRecDepth 100000 in
theorem ck_Whole_withoutSquares : ckM MT me_Whole_withoutSquares = true := by decide +kernel
set_option maxRecDepth 100000 in
theorem ck_Sieve_mark : ckM MT me_Sieve_mark = true := by decide +kernel
set_option maxRecDepth 100000 in
theorem ck_Sieve_gather : ckM MT me_Sieve_gather = true := by decide +kernel
set_option maxRecDepth 100000 in
theorem ck_Sieve_size : ckM MT me_Sieve_size = true := by decide +kernel
set_option maxRecDepth 100000 in
theorem ck_Sieve_spot : ckM MT me_Sieve_spot = true := by decide +kernel
set_option maxRecDepth 100000 in
theorem ck_Integer_numberOfLeadingZeros : ckM MT me_Integer_numberOfLeadingZeros = true := by decide +kernel
set_option maxRecDepth 100000 in
theorem ck_Long_numberOfLeadingZeros : ckM MT me_Long_numberOfLeadingZeros = true := by decide +kernel
set_option maxRecDepth 100000 in
theorem ck_Whole_rootOf : ckM MT me_Whole_rootOf = true := by decide +kernel
set_option maxRecDepth 100000 in
theorem ck_Whole_gcd : ckM MT me_Whole_gcd = true := by decide +kernel
set_option maxRecDepth 100000 in
theorem ck_PointList_append : ckM MT me_PointList_append = true := by decide +kernel
set_option maxRecDepth 100000 in
theorem ck_PointList_addSpot : ckM MT me_PointList_addSpot = true := by decide +kernel
set_option maxRecDepth 100000 in
theorem ck_PointList_fill : ckM MT me_PointList_fill = true := by decide +kernel
set_option maxRecDepth 100000 in
theorem ck_Sums_renew : ckM MT me_Sums_renew = true := by decide +kernel
set_option maxRecDepth 100000 in
theorem ck_Closure_forget : ckM MT me_Closure_forget = true := by decide +kernel
set_option maxRecDepth 100000 in
theorem ck_PointList_shown : ckM MT me_PointList_shown = true := by decide +kernel
set_option maxRecDepth 100000 in
theorem ck_X_become : ckM MT me_X_become = true := by decide +kernel
set_option maxRecDepth 100000 in
theorem ck_X_curve : ckM MT me_X_curve = true := by decide +kernel
set_option maxRecDepth 100000 in
theorem ck_M_see : ckM MT me_M_see = true := by decide +kernel
set_option maxRecDepth 100000 in
theorem cq_M_advance_0 : ckC MT "CurvePointsModel" prog_14_method_13_code (none) mc_M_advance 0 (mc_M_advance.take 50) = true := by decide +kernel
set_option maxRecDepth 100000 in
theorem cq_M_advance_1 : ckC MT "CurvePointsModel" prog_14_method_13_code (none) mc_M_advance 50 ((mc_M_advance.drop 50).take 50) = true := by decide +kernel
set_option maxRecDepth 100000 in
theorem cq_M_advance_2 : ckC MT "CurvePointsModel" prog_14_method_13_code (none) mc_M_advance 100 (((mc_M_advance.drop 50).drop 50)) = true := by decide +kernel
set_option maxRecDepth 100000 in
theorem ck_M_advance : ckM MT me_M_advance = true := ck_join (by decide +kernel) (by decide +kernel) (ck_cut 50 (by decide +kernel) cq_M_advance_0 (ck_cut 50 (by decide +kernel) cq_M_advance_1 cq_M_advance_2))
set_option maxRecDepth 100000 in
theorem ck_M_begins : ckM MT me_M_begins = true := by decide +kernel
set_option maxRecDepth 100000 in
theorem ck_M_good : ckM MT me_M_good = true := by decide +kernel
set_option maxRecDepth 100000 in
theorem ck_M_isWord : ckM MT me_M_isWord = true := by decide +kernel
set_option maxRecDepth 100000 in
theorem ck_M_errs : ckM MT me_M_errs = true := by decide +kernel
set_option maxRecDepth 100000 in
theorem ck_M_isSign : ckM MT me_M_isSign = true := by decide +kernel
set_option maxRecDepth 100000 in
theorem ck_M_number : ckM MT me_M_number = true := by decide +kernel
set_option maxRecDepth 100000 in
theorem ck_M_signed : ckM MT me_M_signed = true := by decide +kernel
set_option maxRecDepth 100000 in
theorem ck_M_isCurve : ckM MT me_M_isCurve = true := by decide +kernel
set_option maxRecDepth 100000 in
theorem ck_M_common : ckM MT me_M_common = true := by decide +kernel
set_option maxRecDepth 100000 in
theorem ck_M_root : ckM MT me_M_root = true := by decide +kernel
set_option maxRecDepth 100000 in
theorem ck_M_isSquare : ckM MT me_M_isSquare = true := by decide +kernel
