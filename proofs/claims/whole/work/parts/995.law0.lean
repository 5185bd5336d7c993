set_option maxRecDepth 100000 in
theorem cq_law_0 : ckC MT "CurvePointsLaw" code (some .boolean) mc_law 0 (mc_law.take 50) = true := by decide +kernel
set_option maxRecDepth 100000 in
theorem cq_law_1 : ckC MT "CurvePointsLaw" code (some .boolean) mc_law 50 ((mc_law.drop 50).take 50) = true := by decide +kernel
set_option maxRecDepth 100000 in
theorem cq_law_2 : ckC MT "CurvePointsLaw" code (some .boolean) mc_law 100 ((mc_law.drop 100).take 50) = true := by decide +kernel
set_option maxRecDepth 100000 in
theorem cq_law_3 : ckC MT "CurvePointsLaw" code (some .boolean) mc_law 150 ((mc_law.drop 150).take 50) = true := by decide +kernel
set_option maxRecDepth 100000 in
theorem cq_law_4 : ckC MT "CurvePointsLaw" code (some .boolean) mc_law 200 ((mc_law.drop 200).take 50) = true := by decide +kernel
set_option maxRecDepth 100000 in
theorem cq_law_5 : ckC MT "CurvePointsLaw" code (some .boolean) mc_law 250 ((mc_law.drop 250).take 50) = true := by decide +kernel
set_option maxRecDepth 100000 in
theorem cq_law_6 : ckC MT "CurvePointsLaw" code (some .boolean) mc_law 300 ((mc_law.drop 300).take 50) = true := by decide +kernel
