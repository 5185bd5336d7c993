set_option maxRecDepth 100000 in
theorem ck_M_upTo : ckM MT me_M_upTo = true := by decide +kernel
set_option maxRecDepth 100000 in
theorem ck_X_beside : ckM MT me_X_beside = true := by decide +kernel
set_option maxRecDepth 100000 in
theorem ck_M_beside : ckM MT me_M_beside = true := by decide +kernel
set_option maxRecDepth 100000 in
theorem ck_X_same : ckM MT me_X_same = true := by decide +kernel
set_option maxRecDepth 100000 in
theorem ck_M_same : ckM MT me_M_same = true := by decide +kernel
set_option maxRecDepth 100000 in
theorem ck_X_inBounds : ckM MT me_X_inBounds = true := by decide +kernel
set_option maxRecDepth 100000 in
theorem ck_History_push : ckM MT me_History_push = true := by decide +kernel
set_option maxRecDepth 100000 in
theorem ck_X_change : ckM MT me_X_change = true := by decide +kernel
set_option maxRecDepth 100000 in
theorem ck_X_goesBeside : ckM MT me_X_goesBeside = true := by decide +kernel
set_option maxRecDepth 100000 in
theorem ck_M_keeps : ckM MT me_M_keeps = true := by decide +kernel
set_option maxRecDepth 100000 in
theorem ck_M_becomesOther : ckM MT me_M_becomesOther = true := by decide +kernel
set_option maxRecDepth 100000 in
theorem ck_M_goesBeside : ckM MT me_M_goesBeside = true := by decide +kernel
set_option maxRecDepth 100000 in
theorem ck_X_twists : ckM MT me_X_twists = true := by decide +kernel
set_option maxRecDepth 100000 in
theorem ck_M_twists : ckM MT me_M_twists = true := by decide +kernel
set_option maxRecDepth 100000 in
theorem ck_X_within : ckM MT me_X_within = true := by decide +kernel
set_option maxRecDepth 100000 in
theorem ck_M_within : ckM MT me_M_within = true := by decide +kernel
set_option maxRecDepth 100000 in
theorem ck_Told_clear : ckM MT me_Told_clear = true := by decide +kernel
set_option maxRecDepth 100000 in
theorem ck_Told_putByte : ckM MT me_Told_putByte = true := by decide +kernel
set_option maxRecDepth 100000 in
theorem ck_Told_putNumber : ckM MT me_Told_putNumber = true := by decide +kernel
set_option maxRecDepth 100000 in
theorem ck_X_tellFraction : ckM MT me_X_tellFraction = true := by decide +kernel
set_option maxRecDepth 100000 in
theorem ck_Told_putText : ckM MT me_Told_putText = true := by decide +kernel
set_option maxRecDepth 100000 in
theorem ck_X_tell : ckM MT me_X_tell = true := by decide +kernel
set_option maxRecDepth 100000 in
theorem ck_M_puts : ckM MT me_M_puts = true := by decide +kernel
set_option maxRecDepth 100000 in
theorem ck_M_tellsNumber : ckM MT me_M_tellsNumber = true := by decide +kernel
set_option maxRecDepth 100000 in
theorem ck_M_tellsBy : ckM MT me_M_tellsBy = true := by decide +kernel
set_option maxRecDepth 100000 in
theorem ck_M_tell : ckM MT me_M_tell = true := by decide +kernel
set_option maxRecDepth 100000 in
theorem ck_Told_byteAt : ckM MT me_Told_byteAt = true := by decide +kernel
set_option maxRecDepth 100000 in
theorem ck_X_octet : ckM MT me_X_octet = true := by decide +kernel
set_option maxRecDepth 100000 in
theorem ck_M_octet : ckM MT me_M_octet = true := by decide +kernel
set_option maxRecDepth 100000 in
theorem ck_X_half : ckM MT me_X_half = true := by decide +kernel
