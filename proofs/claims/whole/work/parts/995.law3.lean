set_option maxRecDepth 100000 in
theorem cq_law_21 : ckC MT "CurvePointsLaw" code (some .boolean) mc_law 1050 ((mc_law.drop 1050).take 50) = true := by decide +kernel
set_option maxRecDepth 100000 in
theorem cq_law_22 : ckC MT "CurvePointsLaw" code (some .boolean) mc_law 1100 ((mc_law.drop 1100).take 50) = true := by decide +kernel
set_option maxRecDepth 100000 in
theorem cq_law_23 : ckC MT "CurvePointsLaw" code (some .boolean) mc_law 1150 ((mc_law.drop 1150).take 50) = true := by decide +kernel
set_option maxRecDepth 100000 in
theorem cq_law_24 : ckC MT "CurvePointsLaw" code (some .boolean) mc_law 1200 ((mc_law.drop 1200).take 50) = true := by decide +kernel
set_option maxRecDepth 100000 in
theorem cq_law_25 : ckC MT "CurvePointsLaw" code (some .boolean) mc_law 1250 ((mc_law.drop 1250).take 50) = true := by decide +kernel
set_option maxRecDepth 100000 in
theorem cq_law_26 : ckC MT "CurvePointsLaw" code (some .boolean) mc_law 1300 ((mc_law.drop 1300).take 50) = true := by decide +kernel
set_option maxRecDepth 100000 in
theorem cq_law_27 : ckC MT "CurvePointsLaw" code (some .boolean) mc_law 1350 ((mc_law.drop 1350)) = true := by decide +kernel
