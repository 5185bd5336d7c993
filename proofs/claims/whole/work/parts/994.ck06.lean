set_option maxRecDepth 100000 in
theorem ck_X_classes : ckM MT me_X_classes = true := by decide +kernel
set_option maxRecDepth 100000 in
theorem ck_M_isFree : ckM MT me_M_isFree = true := by decide +kernel
set_option maxRecDepth 100000 in
theorem ck_M_worthOf : ckM MT me_M_worthOf = true := by decide +kernel
set_option maxRecDepth 100000 in
theorem ck_M_seeks : ckM MT me_M_seeks = true := by decide +kernel
set_option maxRecDepth 100000 in
theorem ck_M_bySigns : ckM MT me_M_bySigns = true := by decide +kernel
set_option maxRecDepth 100000 in
theorem ck_M_byOne : ckM MT me_M_byOne = true := by decide +kernel
set_option maxRecDepth 100000 in
theorem ck_M_byRemainders : ckM MT me_M_byRemainders = true := by decide +kernel
set_option maxRecDepth 100000 in
theorem ck_M_productOf : ckM MT me_M_productOf = true := by decide +kernel
set_option maxRecDepth 100000 in
theorem ck_M_classFor : ckM MT me_M_classFor = true := by decide +kernel
set_option maxRecDepth 100000 in
theorem ck_M_laysMade : ckM MT me_M_laysMade = true := by decide +kernel
set_option maxRecDepth 100000 in
theorem cq_M_laysSide_0 : ckC MT "CurvePointsModel" prog_14_method_67_code (none) mc_M_laysSide 0 (mc_M_laysSide.take 50) = true := by decide +kernel
set_option maxRecDepth 100000 in
theorem cq_M_laysSide_1 : ckC MT "CurvePointsModel" prog_14_method_67_code (none) mc_M_laysSide 50 ((mc_M_laysSide.drop 50).take 50) = true := by decide +kernel
set_option maxRecDepth 100000 in
theorem cq_M_laysSide_2 : ckC MT "CurvePointsModel" prog_14_method_67_code (none) mc_M_laysSide 100 (((mc_M_laysSide.drop 50).drop 50)) = true := by decide +kernel
set_option maxRecDepth 100000 in
theorem ck_M_laysSide : ckM MT me_M_laysSide = true := ck_join (by decide +kernel) (by decide +kernel) (ck_cut 50 (by decide +kernel) cq_M_laysSide_0 (ck_cut 50 (by decide +kernel) cq_M_laysSide_1 cq_M_laysSide_2))
set_option maxRecDepth 100000 in
theorem ck_M_manyOfKind : ckM MT me_M_manyOfKind = true := by decide +kernel
set_option maxRecDepth 100000 in
theorem ck_M_classes : ckM MT me_M_classes = true := by decide +kernel
set_option maxRecDepth 100000 in
theorem ck_ClassTable_isPossible : ckM MT me_ClassTable_isPossible = true := by decide +kernel
set_option maxRecDepth 100000 in
theorem ck_ClassTable_isMade : ckM MT me_ClassTable_isMade = true := by decide +kernel
set_option maxRecDepth 100000 in
theorem ck_ClassTable_firstM : ckM MT me_ClassTable_firstM = true := by decide +kernel
set_option maxRecDepth 100000 in
theorem ck_ClassTable_firstE : ckM MT me_ClassTable_firstE = true := by decide +kernel
set_option maxRecDepth 100000 in
theorem ck_X_classOf : ckM MT me_X_classOf = true := by decide +kernel
set_option maxRecDepth 100000 in
theorem ck_M_classOf : ckM MT me_M_classOf = true := by decide +kernel
set_option maxRecDepth 100000 in
theorem ck_Whole_digits : ckM MT me_Whole_digits = true := by decide +kernel
set_option maxRecDepth 100000 in
theorem ck_ClassTable_halvings : ckM MT me_ClassTable_halvings = true := by decide +kernel
set_option maxRecDepth 100000 in
theorem ck_X_rank : ckM MT me_X_rank = true := by decide +kernel
set_option maxRecDepth 100000 in
theorem ck_M_twosIn : ckM MT me_M_twosIn = true := by decide +kernel
set_option maxRecDepth 100000 in
theorem ck_M_rank : ckM MT me_M_rank = true := by decide +kernel
set_option maxRecDepth 100000 in
theorem ck_X_classAt : ckM MT me_X_classAt = true := by decide +kernel
set_option maxRecDepth 100000 in
theorem ck_M_freeOf : ckM MT me_M_freeOf = true := by decide +kernel
set_option maxRecDepth 100000 in
theorem ck_M_classAt : ckM MT me_M_classAt = true := by decide +kernel
set_option maxRecDepth 100000 in
theorem ck_PointList_height : ckM MT me_PointList_height = true := by decide +kernel
set_option maxRecDepth 100000 in
theorem ck_X_bits : ckM MT me_X_bits = true := by decide +kernel
set_option maxRecDepth 100000 in
theorem ck_M_heightAt : ckM MT me_M_heightAt = true := by decide +kernel
