set_option maxRecDepth 100000 in
theorem ck_M_isPoint : ckM MT me_M_isPoint = true := by decide +kernel
set_option maxRecDepth 100000 in
theorem ck_M_find : ckM MT me_M_find = true := by decide +kernel
set_option maxRecDepth 100000 in
theorem ck_M_turnedOf : ckM MT me_M_turnedOf = true := by decide +kernel
set_option maxRecDepth 100000 in
theorem ck_M_turned : ckM MT me_M_turned = true := by decide +kernel
set_option maxRecDepth 100000 in
theorem ck_Adder_followTangent : ckM MT me_Adder_followTangent = true := by decide +kernel
set_option maxRecDepth 100000 in
theorem ck_Adder_followChord : ckM MT me_Adder_followChord = true := by decide +kernel
set_option maxRecDepth 100000 in
theorem ck_Adder_join : ckM MT me_Adder_join = true := by decide +kernel
set_option maxRecDepth 100000 in
theorem ck_Whole_quotient : ckM MT me_Whole_quotient = true := by decide +kernel
set_option maxRecDepth 100000 in
theorem cq_PointList_find_0 : ckC MT "CurvePoints$PointList" prog_6_method_16_code (some .int) mc_PointList_find 0 (mc_PointList_find.take 50) = true := by decide +kernel
set_option maxRecDepth 100000 in
theorem cq_PointList_find_1 : ckC MT "CurvePoints$PointList" prog_6_method_16_code (some .int) mc_PointList_find 50 ((mc_PointList_find.drop 50).take 50) = true := by decide +kernel
set_option maxRecDepth 100000 in
theorem cq_PointList_find_2 : ckC MT "CurvePoints$PointList" prog_6_method_16_code (some .int) mc_PointList_find 100 (((mc_PointList_find.drop 50).drop 50)) = true := by decide +kernel
set_option maxRecDepth 100000 in
theorem ck_PointList_find : ckM MT me_PointList_find = true := ck_join (by decide +kernel) (by decide +kernel) (ck_cut 50 (by decide +kernel) cq_PointList_find_0 (ck_cut 50 (by decide +kernel) cq_PointList_find_1 cq_PointList_find_2))
set_option maxRecDepth 100000 in
theorem cq_Adder_placeIn_0 : ckC MT "CurvePoints$Adder" prog_2_method_11_code (some .int) mc_Adder_placeIn 0 (mc_Adder_placeIn.take 50) = true := by decide +kernel
set_option maxRecDepth 100000 in
theorem cq_Adder_placeIn_1 : ckC MT "CurvePoints$Adder" prog_2_method_11_code (some .int) mc_Adder_placeIn 50 ((mc_Adder_placeIn.drop 50).take 50) = true := by decide +kernel
set_option maxRecDepth 100000 in
theorem cq_Adder_placeIn_2 : ckC MT "CurvePoints$Adder" prog_2_method_11_code (some .int) mc_Adder_placeIn 100 (((mc_Adder_placeIn.drop 50).drop 50)) = true := by decide +kernel
set_option maxRecDepth 100000 in
theorem ck_Adder_placeIn : ckM MT me_Adder_placeIn = true := ck_join (by decide +kernel) (by decide +kernel) (ck_cut 50 (by decide +kernel) cq_Adder_placeIn_0 (ck_cut 50 (by decide +kernel) cq_Adder_placeIn_1 cq_Adder_placeIn_2))
set_option maxRecDepth 100000 in
theorem ck_Sums_heldTotal : ckM MT me_Sums_heldTotal = true := by decide +kernel
set_option maxRecDepth 100000 in
theorem ck_Sums_total : ckM MT me_Sums_total = true := by decide +kernel
set_option maxRecDepth 100000 in
theorem ck_X_sum : ckM MT me_X_sum = true := by decide +kernel
set_option maxRecDepth 100000 in
theorem ck_M_lowers : ckM MT me_M_lowers = true := by decide +kernel
set_option maxRecDepth 100000 in
theorem cq_M_joins_0 : ckC MT "CurvePointsModel" prog_14_method_35_code (none) mc_M_joins 0 (mc_M_joins.take 50) = true := by decide +kernel
set_option maxRecDepth 100000 in
theorem cq_M_joins_1 : ckC MT "CurvePointsModel" prog_14_method_35_code (none) mc_M_joins 50 ((mc_M_joins.drop 50).take 50) = true := by decide +kernel
set_option maxRecDepth 100000 in
theorem cq_M_joins_2 : ckC MT "CurvePointsModel" prog_14_method_35_code (none) mc_M_joins 100 (((mc_M_joins.drop 50).drop 50).take 50) = true := by decide +kernel
set_option maxRecDepth 100000 in
theorem cq_M_joins_3 : ckC MT "CurvePointsModel" prog_14_method_35_code (none) mc_M_joins 150 ((((mc_M_joins.drop 50).drop 50).drop 50).take 50) = true := by decide +kernel
set_option maxRecDepth 100000 in
theorem cq_M_joins_4 : ckC MT "CurvePointsModel" prog_14_method_35_code (none) mc_M_joins 200 (((((mc_M_joins.drop 50).drop 50).drop 50).drop 50).take 50) = true := by decide +kernel
set_option maxRecDepth 100000 in
theorem cq_M_joins_5 : ckC MT "CurvePointsModel" prog_14_method_35_code (none) mc_M_joins 250 ((((((mc_M_joins.drop 50).drop 50).drop 50).drop 50).drop 50).take 50) = true := by decide +kernel
set_option maxRecDepth 100000 in
theorem cq_M_joins_6 : ckC MT "CurvePointsModel" prog_14_method_35_code (none) mc_M_joins 300 (((((((mc_M_joins.drop 50).drop 50).drop 50).drop 50).drop 50).drop 50)) = true := by decide +kernel
set_option maxRecDepth 100000 in
theorem ck_M_joins : ckM MT me_M_joins = true := ck_join (by decide +kernel) (by decide +kernel) (ck_cut 50 (by decide +kernel) cq_M_joins_0 (ck_cut 50 (by decide +kernel) cq_M_joins_1 (ck_cut 50 (by decide +kernel) cq_M_joins_2 (ck_cut 50 (by decide +kernel) cq_M_joins_3 (ck_cut 50 (by decide +kernel) cq_M_joins_4 (ck_cut 50 (by decide +kernel) cq_M_joins_5 cq_M_joins_6))))))
set_option maxRecDepth 100000 in
theorem ck_M_sumOf : ckM MT me_M_sumOf = true := by decide +kernel
set_option maxRecDepth 100000 in
theorem ck_M_sum : ckM MT me_M_sum = true := by decide +kernel
set_option maxRecDepth 100000 in
theorem ck_Adder_reduce : ckM MT me_Adder_reduce = true := by decide +kernel
set_option maxRecDepth 100000 in
theorem ck_Sums_joined : ckM MT me_Sums_joined = true := by decide +kernel
set_option maxRecDepth 100000 in
theorem ck_Adder_isZero : ckM MT me_Adder_isZero = true := by decide +kernel
set_option maxRecDepth 100000 in
theorem ck_Adder_top : ckM MT me_Adder_top = true := by decide +kernel
set_option maxRecDepth 100000 in
theorem ck_Adder_under : ckM MT me_Adder_under = true := by decide +kernel
set_option maxRecDepth 100000 in
theorem ck_Adder_height : ckM MT me_Adder_height = true := by decide +kernel
set_option maxRecDepth 100000 in
theorem ck_X_of : ckM MT me_X_of = true := by decide +kernel
set_option maxRecDepth 100000 in
theorem ck_M_heightOf : ckM MT me_M_heightOf = true := by decide +kernel
set_option maxRecDepth 100000 in
theorem ck_M_of : ckM MT me_M_of = true := by decide +kernel
set_option maxRecDepth 100000 in
theorem ck_Sums_multiple : ckM MT me_Sums_multiple = true := by decide +kernel
set_option maxRecDepth 100000 in
theorem ck_X_times : ckM MT me_X_times = true := by decide +kernel
set_option maxRecDepth 100000 in
theorem ck_M_timesOf : ckM MT me_M_timesOf = true := by decide +kernel
set_option maxRecDepth 100000 in
theorem ck_M_times : ckM MT me_M_times = true := by decide +kernel
