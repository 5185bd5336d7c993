set_option maxRecDepth 100000 in
theorem cq_law_7 : ckC MT "CurvePointsLaw" code (some .boolean) mc_law 350 ((mc_law.drop 350).take 50) = true := by decide +kernel
set_option maxRecDepth 100000 in
theorem cq_law_8 : ckC MT "CurvePointsLaw" code (some .boolean) mc_law 400 ((mc_law.drop 400).take 50) = true := by decide +kernel
set_option maxRecDepth 100000 in
theorem cq_law_9 : ckC MT "CurvePointsLaw" code (some .boolean) mc_law 450 ((mc_law.drop 450).take 50) = true := by decide +kernel
set_option maxRecDepth 100000 in
theorem cq_law_10 : ckC MT "CurvePointsLaw" code (some .boolean) mc_law 500 ((mc_law.drop 500).take 50) = true := by decide +kernel
set_option maxRecDepth 100000 in
theorem cq_law_11 : ckC MT "CurvePointsLaw" code (some .boolean) mc_law 550 ((mc_law.drop 550).take 50) = true := by decide +kernel
set_option maxRecDepth 100000 in
theorem cq_law_12 : ckC MT "CurvePointsLaw" code (some .boolean) mc_law 600 ((mc_law.drop 600).take 50) = true := by decide +kernel
set_option maxRecDepth 100000 in
theorem cq_law_13 : ckC MT "CurvePointsLaw" code (some .boolean) mc_law 650 ((mc_law.drop 650).take 50) = true := by decide +kernel
