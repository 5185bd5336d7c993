set_option maxRecDepth 100000 in
theorem cq_law_14 : ckC MT "CurvePointsLaw" code (some .boolean) mc_law 700 ((mc_law.drop 700).take 50) = true := by decide +kernel
set_option maxRecDepth 100000 in
theorem cq_law_15 : ckC MT "CurvePointsLaw" code (some .boolean) mc_law 750 ((mc_law.drop 750).take 50) = true := by decide +kernel
set_option maxRecDepth 100000 in
theorem cq_law_16 : ckC MT "CurvePointsLaw" code (some .boolean) mc_law 800 ((mc_law.drop 800).take 50) = true := by decide +kernel
set_option maxRecDepth 100000 in
theorem cq_law_17 : ckC MT "CurvePointsLaw" code (some .boolean) mc_law 850 ((mc_law.drop 850).take 50) = true := by decide +kernel
set_option maxRecDepth 100000 in
theorem cq_law_18 : ckC MT "CurvePointsLaw" code (some .boolean) mc_law 900 ((mc_law.drop 900).take 50) = true := by decide +kernel
set_option maxRecDepth 100000 in
theorem cq_law_19 : ckC MT "CurvePointsLaw" code (some .boolean) mc_law 950 ((mc_law.drop 950).take 50) = true := by decide +kernel
set_option maxRecDepth 100000 in
theorem cq_law_20 : ckC MT "CurvePointsLaw" code (some .boolean) mc_law 1000 ((mc_law.drop 1000).take 50) = true := by decide +kernel
