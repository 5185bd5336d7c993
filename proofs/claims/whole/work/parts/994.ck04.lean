set_option maxRecDepth 100000 in
theorem ck_Sums_orderOf : ckM MT me_Sums_orderOf = true := by decide +kernel
set_option maxRecDepth 100000 in
theorem ck_X_order : ckM MT me_X_order = true := by decide +kernel
set_option maxRecDepth 100000 in
theorem ck_M_orderOf : ckM MT me_M_orderOf = true := by decide +kernel
set_option maxRecDepth 100000 in
theorem ck_M_order : ckM MT me_M_order = true := by decide +kernel
set_option maxRecDepth 100000 in
theorem ck_X_round : ckM MT me_X_round = true := by decide +kernel
set_option maxRecDepth 100000 in
theorem ck_M_round : ckM MT me_M_round = true := by decide +kernel
set_option maxRecDepth 100000 in
theorem ck_Reader_isNumber : ckM MT me_Reader_isNumber = true := by decide +kernel
set_option maxRecDepth 100000 in
theorem ck_Reader_value : ckM MT me_Reader_value = true := by decide +kernel
set_option maxRecDepth 100000 in
theorem ck_X_readTerm : ckM MT me_X_readTerm = true := by decide +kernel
set_option maxRecDepth 100000 in
theorem ck_Reader_isDone : ckM MT me_Reader_isDone = true := by decide +kernel
set_option maxRecDepth 100000 in
theorem ck_X_readFormula : ckM MT me_X_readFormula = true := by decide +kernel
set_option maxRecDepth 100000 in
theorem ck_X_formula : ckM MT me_X_formula = true := by decide +kernel
set_option maxRecDepth 100000 in
theorem ck_M_pointHere : ckM MT me_M_pointHere = true := by decide +kernel
set_option maxRecDepth 100000 in
theorem ck_M_termHere : ckM MT me_M_termHere = true := by decide +kernel
set_option maxRecDepth 100000 in
theorem ck_M_sumSigned : ckM MT me_M_sumSigned = true := by decide +kernel
set_option maxRecDepth 100000 in
theorem ck_M_formula : ckM MT me_M_formula = true := by decide +kernel
set_option maxRecDepth 100000 in
theorem ck_X_primeIndex : ckM MT me_X_primeIndex = true := by decide +kernel
set_option maxRecDepth 100000 in
theorem ck_Whole_residue : ckM MT me_Whole_residue = true := by decide +kernel
set_option maxRecDepth 100000 in
theorem ck_X_besideB : ckM MT me_X_besideB = true := by decide +kernel
set_option maxRecDepth 100000 in
theorem ck_X_isByPrime : ckM MT me_X_isByPrime = true := by decide +kernel
set_option maxRecDepth 100000 in
theorem ck_PrimeGroup_residue : ckM MT me_PrimeGroup_residue = true := by decide +kernel
set_option maxRecDepth 100000 in
theorem ck_PrimeGroup_take : ckM MT me_PrimeGroup_take = true := by decide +kernel
set_option maxRecDepth 100000 in
theorem ck_PrimeGroup_rootAt : ckM MT me_PrimeGroup_rootAt = true := by decide +kernel
set_option maxRecDepth 100000 in
theorem ck_PrimeGroup_manyBy : ckM MT me_PrimeGroup_manyBy = true := by decide +kernel
set_option maxRecDepth 100000 in
theorem ck_X_many : ckM MT me_X_many = true := by decide +kernel
set_option maxRecDepth 100000 in
theorem ck_M_isPrime : ckM MT me_M_isPrime = true := by decide +kernel
set_option maxRecDepth 100000 in
theorem ck_M_isGoodPrime : ckM MT me_M_isGoodPrime = true := by decide +kernel
set_option maxRecDepth 100000 in
theorem ck_M_mod : ckM MT me_M_mod = true := by decide +kernel
set_option maxRecDepth 100000 in
theorem ck_M_manyOf : ckM MT me_M_manyOf = true := by decide +kernel
set_option maxRecDepth 100000 in
theorem ck_M_many : ckM MT me_M_many = true := by decide +kernel
