set_option maxRecDepth 100000 in
theorem ck_M_adds : ckM MT me_M_adds = true := by decide +kernel
set_option maxRecDepth 100000 in
theorem ck_M_lays : ckM MT me_M_lays = true := by decide +kernel
set_option maxRecDepth 100000 in
theorem ck_M_becomes : ckM MT me_M_becomes = true := by decide +kernel
set_option maxRecDepth 100000 in
theorem ck_M_curve : ckM MT me_M_curve = true := by decide +kernel
set_option maxRecDepth 100000 in
theorem ck_Reader_faultNumber : ckM MT me_Reader_faultNumber = true := by decide +kernel
set_option maxRecDepth 100000 in
theorem ck_Reader_faultPlace : ckM MT me_Reader_faultPlace = true := by decide +kernel
set_option maxRecDepth 100000 in
theorem ck_X_fault : ckM MT me_X_fault = true := by decide +kernel
set_option maxRecDepth 100000 in
theorem ck_M_fault : ckM MT me_M_fault = true := by decide +kernel
set_option maxRecDepth 100000 in
theorem ck_Told_length : ckM MT me_Told_length = true := by decide +kernel
set_option maxRecDepth 100000 in
theorem ck_PointList_most : ckM MT me_PointList_most = true := by decide +kernel
set_option maxRecDepth 100000 in
theorem ck_PointList_deepest : ckM MT me_PointList_deepest = true := by decide +kernel
set_option maxRecDepth 100000 in
theorem ck_X_count : ckM MT me_X_count = true := by decide +kernel
set_option maxRecDepth 100000 in
theorem ck_M_count : ckM MT me_M_count = true := by decide +kernel
set_option maxRecDepth 100000 in
theorem ck_X_isListed : ckM MT me_X_isListed = true := by decide +kernel
set_option maxRecDepth 100000 in
theorem ck_PointList_m : ckM MT me_PointList_m = true := by decide +kernel
set_option maxRecDepth 100000 in
theorem ck_PointList_n : ckM MT me_PointList_n = true := by decide +kernel
set_option maxRecDepth 100000 in
theorem ck_PointList_e : ckM MT me_PointList_e = true := by decide +kernel
set_option maxRecDepth 100000 in
theorem ck_PointList_coordinate : ckM MT me_PointList_coordinate = true := by decide +kernel
set_option maxRecDepth 100000 in
theorem ck_X_point : ckM MT me_X_point = true := by decide +kernel
set_option maxRecDepth 100000 in
theorem ck_M_isListed : ckM MT me_M_isListed = true := by decide +kernel
set_option maxRecDepth 100000 in
theorem ck_M_point : ckM MT me_M_point = true := by decide +kernel
set_option maxRecDepth 100000 in
theorem ck_Integer_signum : ckM MT me_Integer_signum = true := by decide +kernel
set_option maxRecDepth 100000 in
theorem ck_X_at : ckM MT me_X_at = true := by decide +kernel
set_option maxRecDepth 100000 in
theorem ck_Long_signum : ckM MT me_Long_signum = true := by decide +kernel
set_option maxRecDepth 100000 in
theorem ck_M_at : ckM MT me_M_at = true := by decide +kernel
set_option maxRecDepth 100000 in
theorem ck_X_isPoint : ckM MT me_X_isPoint = true := by decide +kernel
set_option maxRecDepth 100000 in
theorem ck_PointList_partner : ckM MT me_PointList_partner = true := by decide +kernel
set_option maxRecDepth 100000 in
theorem ck_Sums_negative : ckM MT me_Sums_negative = true := by decide +kernel
set_option maxRecDepth 100000 in
theorem ck_Sums_shownOnly : ckM MT me_Sums_shownOnly = true := by decide +kernel
set_option maxRecDepth 100000 in
theorem ck_X_turned : ckM MT me_X_turned = true := by decide +kernel
