set_option maxRecDepth 100000 in
theorem ck_M_deep : ckM MT me_M_deep = true := by decide +kernel
set_option maxRecDepth 100000 in
theorem ck_X_tellPart : ckM MT me_X_tellPart = true := by decide +kernel
set_option maxRecDepth 100000 in
theorem ck_X_tellCurve : ckM MT me_X_tellCurve = true := by decide +kernel
set_option maxRecDepth 100000 in
theorem ck_M_tellsPart : ckM MT me_M_tellsPart = true := by decide +kernel
set_option maxRecDepth 100000 in
theorem ck_M_tellCurve : ckM MT me_M_tellCurve = true := by decide +kernel
set_option maxRecDepth 100000 in
theorem ck_PrimeGroup_clearSeen : ckM MT me_PrimeGroup_clearSeen = true := by decide +kernel
set_option maxRecDepth 100000 in
theorem ck_PrimeGroup_seesNew : ckM MT me_PrimeGroup_seesNew = true := by decide +kernel
set_option maxRecDepth 100000 in
theorem ck_X_seenBy : ckM MT me_X_seenBy = true := by decide +kernel
set_option maxRecDepth 100000 in
theorem ck_M_areAlikeBy : ckM MT me_M_areAlikeBy = true := by decide +kernel
set_option maxRecDepth 100000 in
theorem ck_M_seenBy : ckM MT me_M_seenBy = true := by decide +kernel
set_option maxRecDepth 100000 in
theorem cq_X_isAlikeBy_0 : ckC MT "CurvePoints" prog_1_method_64_code (some .boolean) mc_X_isAlikeBy 0 (mc_X_isAlikeBy.take 50) = true := by decide +kernel
set_option maxRecDepth 100000 in
theorem cq_X_isAlikeBy_1 : ckC MT "CurvePoints" prog_1_method_64_code (some .boolean) mc_X_isAlikeBy 50 ((mc_X_isAlikeBy.drop 50).take 50) = true := by decide +kernel
set_option maxRecDepth 100000 in
theorem cq_X_isAlikeBy_2 : ckC MT "CurvePoints" prog_1_method_64_code (some .boolean) mc_X_isAlikeBy 100 (((mc_X_isAlikeBy.drop 50).drop 50)) = true := by decide +kernel
set_option maxRecDepth 100000 in
theorem ck_X_isAlikeBy : ckM MT me_X_isAlikeBy = true := ck_join (by decide +kernel) (by decide +kernel) (ck_cut 50 (by decide +kernel) cq_X_isAlikeBy_0 (ck_cut 50 (by decide +kernel) cq_X_isAlikeBy_1 cq_X_isAlikeBy_2))
set_option maxRecDepth 100000 in
theorem ck_X_firstAlike : ckM MT me_X_firstAlike = true := by decide +kernel
set_option maxRecDepth 100000 in
theorem ck_M_firstAlike : ckM MT me_M_firstAlike = true := by decide +kernel
set_option maxRecDepth 100000 in
theorem ck_X_fillTurnRanks : ckM MT me_X_fillTurnRanks = true := by decide +kernel
set_option maxRecDepth 100000 in
theorem ck_X_turnsRank : ckM MT me_X_turnsRank = true := by decide +kernel
set_option maxRecDepth 100000 in
theorem ck_M_turnsRank : ckM MT me_M_turnsRank = true := by decide +kernel
set_option maxRecDepth 100000 in
theorem ck_X_breaks : ckM MT me_X_breaks = true := by decide +kernel
set_option maxRecDepth 100000 in
theorem ck_M_breaks : ckM MT me_M_breaks = true := by decide +kernel
set_option maxRecDepth 100000 in
theorem ck_X_traces : ckM MT me_X_traces = true := by decide +kernel
set_option maxRecDepth 100000 in
theorem ck_M_traces : ckM MT me_M_traces = true := by decide +kernel
set_option maxRecDepth 100000 in
theorem ck_X_sorts : ckM MT me_X_sorts = true := by decide +kernel
set_option maxRecDepth 100000 in
theorem ck_M_sorts : ckM MT me_M_sorts = true := by decide +kernel
