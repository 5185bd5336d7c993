set_option maxRecDepth 100000 in
theorem ck_M_half : ckM MT me_M_half = true := by decide +kernel
set_option maxRecDepth 100000 in
theorem ck_X_straight : ckM MT me_X_straight = true := by decide +kernel
set_option maxRecDepth 100000 in
theorem ck_M_areTurned : ckM MT me_M_areTurned = true := by decide +kernel
set_option maxRecDepth 100000 in
theorem ck_M_straight : ckM MT me_M_straight = true := by decide +kernel
set_option maxRecDepth 100000 in
theorem ck_Sums_lineCount : ckM MT me_Sums_lineCount = true := by decide +kernel
set_option maxRecDepth 100000 in
theorem ck_X_lines : ckM MT me_X_lines = true := by decide +kernel
set_option maxRecDepth 100000 in
theorem ck_M_lines : ckM MT me_M_lines = true := by decide +kernel
set_option maxRecDepth 100000 in
theorem ck_X_part : ckM MT me_X_part = true := by decide +kernel
set_option maxRecDepth 100000 in
theorem ck_M_part : ckM MT me_M_part = true := by decide +kernel
set_option maxRecDepth 100000 in
theorem ck_ClassTable_firstRoot : ckM MT me_ClassTable_firstRoot = true := by decide +kernel
set_option maxRecDepth 100000 in
theorem cq_X_shows_0 : ckC MT "CurvePoints" prog_1_method_73_code (some .int) mc_X_shows 0 (mc_X_shows.take 50) = true := by decide +kernel
set_option maxRecDepth 100000 in
theorem cq_X_shows_1 : ckC MT "CurvePoints" prog_1_method_73_code (some .int) mc_X_shows 50 ((mc_X_shows.drop 50).take 50) = true := by decide +kernel
set_option maxRecDepth 100000 in
theorem cq_X_shows_2 : ckC MT "CurvePoints" prog_1_method_73_code (some .int) mc_X_shows 100 (((mc_X_shows.drop 50).drop 50)) = true := by decide +kernel
set_option maxRecDepth 100000 in
theorem ck_X_shows : ckM MT me_X_shows = true := ck_join (by decide +kernel) (by decide +kernel) (ck_cut 50 (by decide +kernel) cq_X_shows_0 (ck_cut 50 (by decide +kernel) cq_X_shows_1 cq_X_shows_2))
set_option maxRecDepth 100000 in
theorem cq_M_shows_0 : ckC MT "CurvePointsModel" prog_14_method_83_code (some .int) mc_M_shows 0 (mc_M_shows.take 50) = true := by decide +kernel
set_option maxRecDepth 100000 in
theorem cq_M_shows_1 : ckC MT "CurvePointsModel" prog_14_method_83_code (some .int) mc_M_shows 50 ((mc_M_shows.drop 50).take 50) = true := by decide +kernel
set_option maxRecDepth 100000 in
theorem cq_M_shows_2 : ckC MT "CurvePointsModel" prog_14_method_83_code (some .int) mc_M_shows 100 (((mc_M_shows.drop 50).drop 50)) = true := by decide +kernel
set_option maxRecDepth 100000 in
theorem ck_M_shows : ckM MT me_M_shows = true := ck_join (by decide +kernel) (by decide +kernel) (ck_cut 50 (by decide +kernel) cq_M_shows_0 (ck_cut 50 (by decide +kernel) cq_M_shows_1 cq_M_shows_2))
set_option maxRecDepth 100000 in
theorem ck_PrimeGroup_slotOf : ckM MT me_PrimeGroup_slotOf = true := by decide +kernel
set_option maxRecDepth 100000 in
theorem ck_PrimeGroup_fillOrders : ckM MT me_PrimeGroup_fillOrders = true := by decide +kernel
set_option maxRecDepth 100000 in
theorem ck_PrimeGroup_weigh : ckM MT me_PrimeGroup_weigh = true := by decide +kernel
set_option maxRecDepth 100000 in
theorem ck_PrimeGroup_findBest : ckM MT me_PrimeGroup_findBest = true := by decide +kernel
set_option maxRecDepth 100000 in
theorem ck_PrimeGroup_greatestOrder : ckM MT me_PrimeGroup_greatestOrder = true := by decide +kernel
set_option maxRecDepth 100000 in
theorem ck_X_groupBy : ckM MT me_X_groupBy = true := by decide +kernel
set_option maxRecDepth 100000 in
theorem ck_M_laysBest : ckM MT me_M_laysBest = true := by decide +kernel
set_option maxRecDepth 100000 in
theorem ck_M_groupBy : ckM MT me_M_groupBy = true := by decide +kernel
set_option maxRecDepth 100000 in
theorem ck_PrimeGroup_logOf : ckM MT me_PrimeGroup_logOf = true := by decide +kernel
set_option maxRecDepth 100000 in
theorem ck_X_logBy : ckM MT me_X_logBy = true := by decide +kernel
set_option maxRecDepth 100000 in
theorem ck_M_logBy : ckM MT me_M_logBy = true := by decide +kernel
set_option maxRecDepth 100000 in
theorem ck_PrimeGroup_bestPart : ckM MT me_PrimeGroup_bestPart = true := by decide +kernel
set_option maxRecDepth 100000 in
theorem ck_X_bestBy : ckM MT me_X_bestBy = true := by decide +kernel
set_option maxRecDepth 100000 in
theorem ck_M_bestBy : ckM MT me_M_bestBy = true := by decide +kernel
set_option maxRecDepth 100000 in
theorem ck_X_walk : ckM MT me_X_walk = true := by decide +kernel
set_option maxRecDepth 100000 in
theorem ck_M_walk : ckM MT me_M_walk = true := by decide +kernel
set_option maxRecDepth 100000 in
theorem ck_X_isPlace : ckM MT me_X_isPlace = true := by decide +kernel
set_option maxRecDepth 100000 in
theorem ck_X_between : ckM MT me_X_between = true := by decide +kernel
