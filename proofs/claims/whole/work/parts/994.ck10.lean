set_option maxRecDepth 100000 in
theorem ck_M_between : ckM MT me_M_between = true := by decide +kernel
set_option maxRecDepth 100000 in
theorem ck_X_nearest : ckM MT me_X_nearest = true := by decide +kernel
set_option maxRecDepth 100000 in
theorem ck_M_nearest : ckM MT me_M_nearest = true := by decide +kernel
set_option maxRecDepth 100000 in
theorem ck_History_depth : ckM MT me_History_depth = true := by decide +kernel
set_option maxRecDepth 100000 in
theorem ck_History_pop : ckM MT me_History_pop = true := by decide +kernel
set_option maxRecDepth 100000 in
theorem ck_History_latest : ckM MT me_History_latest = true := by decide +kernel
set_option maxRecDepth 100000 in
theorem ck_X_undo : ckM MT me_X_undo = true := by decide +kernel
set_option maxRecDepth 100000 in
theorem ck_M_undo : ckM MT me_M_undo = true := by decide +kernel
set_option maxRecDepth 100000 in
theorem ck_X_readyBeside : ckM MT me_X_readyBeside = true := by decide +kernel
set_option maxRecDepth 100000 in
theorem ck_X_overMany : ckM MT me_X_overMany = true := by decide +kernel
set_option maxRecDepth 100000 in
theorem ck_M_addsOver : ckM MT me_M_addsOver = true := by decide +kernel
set_option maxRecDepth 100000 in
theorem cq_M_laysOver_0 : ckC MT "CurvePointsModel" prog_14_method_85_code (none) mc_M_laysOver 0 (mc_M_laysOver.take 50) = true := by decide +kernel
set_option maxRecDepth 100000 in
theorem cq_M_laysOver_1 : ckC MT "CurvePointsModel" prog_14_method_85_code (none) mc_M_laysOver 50 ((mc_M_laysOver.drop 50).take 50) = true := by decide +kernel
set_option maxRecDepth 100000 in
theorem cq_M_laysOver_2 : ckC MT "CurvePointsModel" prog_14_method_85_code (none) mc_M_laysOver 100 (((mc_M_laysOver.drop 50).drop 50)) = true := by decide +kernel
set_option maxRecDepth 100000 in
theorem ck_M_laysOver : ckM MT me_M_laysOver = true := ck_join (by decide +kernel) (by decide +kernel) (ck_cut 50 (by decide +kernel) cq_M_laysOver_0 (ck_cut 50 (by decide +kernel) cq_M_laysOver_1 cq_M_laysOver_2))
set_option maxRecDepth 100000 in
theorem ck_M_overMany : ckM MT me_M_overMany = true := by decide +kernel
set_option maxRecDepth 100000 in
theorem ck_X_overPoint : ckM MT me_X_overPoint = true := by decide +kernel
set_option maxRecDepth 100000 in
theorem ck_M_overPoint : ckM MT me_M_overPoint = true := by decide +kernel
set_option maxRecDepth 100000 in
theorem cq_X_goOver_0 : ckC MT "CurvePoints" prog_1_method_82_code (some .int) mc_X_goOver 0 (mc_X_goOver.take 50) = true := by decide +kernel
set_option maxRecDepth 100000 in
theorem cq_X_goOver_1 : ckC MT "CurvePoints" prog_1_method_82_code (some .int) mc_X_goOver 50 ((mc_X_goOver.drop 50).take 50) = true := by decide +kernel
set_option maxRecDepth 100000 in
theorem cq_X_goOver_2 : ckC MT "CurvePoints" prog_1_method_82_code (some .int) mc_X_goOver 100 (((mc_X_goOver.drop 50).drop 50)) = true := by decide +kernel
set_option maxRecDepth 100000 in
theorem ck_X_goOver : ckM MT me_X_goOver = true := ck_join (by decide +kernel) (by decide +kernel) (ck_cut 50 (by decide +kernel) cq_X_goOver_0 (ck_cut 50 (by decide +kernel) cq_X_goOver_1 cq_X_goOver_2))
set_option maxRecDepth 100000 in
theorem ck_X_over : ckM MT me_X_over = true := by decide +kernel
set_option maxRecDepth 100000 in
theorem ck_M_eWithin : ckM MT me_M_eWithin = true := by decide +kernel
set_option maxRecDepth 100000 in
theorem ck_M_findOver : ckM MT me_M_findOver = true := by decide +kernel
set_option maxRecDepth 100000 in
theorem ck_M_over : ckM MT me_M_over = true := by decide +kernel
set_option maxRecDepth 100000 in
theorem ck_X_back : ckM MT me_X_back = true := by decide +kernel
set_option maxRecDepth 100000 in
theorem cq_M_back_0 : ckC MT "CurvePointsModel" prog_14_method_91_code (some .int) mc_M_back 0 (mc_M_back.take 50) = true := by decide +kernel
set_option maxRecDepth 100000 in
theorem cq_M_back_1 : ckC MT "CurvePointsModel" prog_14_method_91_code (some .int) mc_M_back 50 ((mc_M_back.drop 50).take 50) = true := by decide +kernel
set_option maxRecDepth 100000 in
theorem cq_M_back_2 : ckC MT "CurvePointsModel" prog_14_method_91_code (some .int) mc_M_back 100 (((mc_M_back.drop 50).drop 50)) = true := by decide +kernel
set_option maxRecDepth 100000 in
theorem ck_M_back : ckM MT me_M_back = true := ck_join (by decide +kernel) (by decide +kernel) (ck_cut 50 (by decide +kernel) cq_M_back_0 (ck_cut 50 (by decide +kernel) cq_M_back_1 cq_M_back_2))
set_option maxRecDepth 100000 in
theorem ck_X_bad : ckM MT me_X_bad = true := by decide +kernel
set_option maxRecDepth 100000 in
theorem ck_M_bad : ckM MT me_M_bad = true := by decide +kernel
set_option maxRecDepth 100000 in
theorem ck_X_solves : ckM MT me_X_solves = true := by decide +kernel
set_option maxRecDepth 100000 in
theorem ck_M_isSolved : ckM MT me_M_isSolved = true := by decide +kernel
set_option maxRecDepth 100000 in
theorem ck_M_solves : ckM MT me_M_solves = true := by decide +kernel
set_option maxRecDepth 100000 in
theorem ck_Sums_doublingsTo : ckM MT me_Sums_doublingsTo = true := by decide +kernel
set_option maxRecDepth 100000 in
theorem ck_X_deep : ckM MT me_X_deep = true := by decide +kernel
set_option maxRecDepth 100000 in
theorem ck_M_deepOf : ckM MT me_M_deepOf = true := by decide +kernel
