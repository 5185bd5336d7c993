/-! THE LAW FROM ITS ENTRY (printed by g998.py) -/
theorem d_law_0 : decode code 0 = .ok (.new 7, 3) := by decide +kernel
theorem d_law_3 : decode code 3 = .ok (.dup, 1) := by decide +kernel
theorem d_law_4 : decode code 4 = .ok (.invokespecial 9, 3) := by decide +kernel
theorem d_law_7 : decode code 7 = .ok (.astore_n 1, 1) := by decide +kernel
theorem d_law_8 : decode code 8 = .ok (.new 10, 3) := by decide +kernel
theorem d_law_11 : decode code 11 = .ok (.dup, 1) := by decide +kernel
theorem d_law_12 : decode code 12 = .ok (.invokespecial 12, 3) := by decide +kernel
theorem d_law_15 : decode code 15 = .ok (.astore_n 2, 1) := by decide +kernel
set_option maxRecDepth 100000 in
theorem tl_0 : Jvm.Cond.classLink "CurvePointsLaw" 7 "CurvePoints" ∈ lw_tbl := by decide +kernel
set_option maxRecDepth 100000 in
theorem tl_1 : Jvm.Cond.instantiable "CurvePoints" 16 ∈ lw_tbl := by decide +kernel
set_option maxRecDepth 100000 in
theorem tl_2 : Jvm.Cond.methodLink "CurvePointsLaw" 9 yK_CurvePoints ∈ lw_tbl := by decide +kernel
set_option maxRecDepth 100000 in
theorem tl_3 : Jvm.Cond.instanceMethod yK_CurvePoints ∈ lw_tbl := by decide +kernel
set_option maxRecDepth 100000 in
theorem tl_4 : Jvm.Cond.classLink "CurvePointsLaw" 10 "CurvePointsModel" ∈ lw_tbl := by decide +kernel
set_option maxRecDepth 100000 in
theorem tl_5 : Jvm.Cond.instantiable "CurvePointsModel" 58 ∈ lw_tbl := by decide +kernel
set_option maxRecDepth 100000 in
theorem tl_6 : Jvm.Cond.methodLink "CurvePointsLaw" 12 yK_CurvePointsModel ∈ lw_tbl := by decide +kernel
set_option maxRecDepth 100000 in
theorem tl_7 : Jvm.Cond.instanceMethod yK_CurvePointsModel ∈ lw_tbl := by decide +kernel
set_option maxRecDepth 100000 in
theorem tl_8 : Jvm.Cond.initialized "CurvePointsModel" ∈ lw_tbl := by decide +kernel
set_option maxRecDepth 100000 in
theorem tl_n : ∀ q ∈ NST, Jvm.Cond.methodLinkNest q.1 q.2.1 q.2.2.1 q.2.2.2 ∈ lw_tbl := by decide +kernel
set_option maxRecDepth 100000 in
theorem tl_i : ∀ q ∈ vwCl, Jvm.Cond.instantiable q.1 q.2.2 ∈ lw_tbl := by decide +kernel
theorem ck_uniq {D : va_G} {tys : List (ClassId × FieldType)} {U : State} (hK : va_K D vwCl tys U) {i j : Nat} {c d : ClassId} {t : FieldType} (h1 : tys[i]? = some (c, t)) (h2 : tys[j]? = some (d, t)) (ht : t = .int ∨ t = .long ∨ t = .byte ∨ t = .boolean) : c = d := by
  have a1 := (hK.2 i _ h1).2
  have a2 := (hK.2 j _ h2).2
  rcases ht with z | z | z | z
  all_goals
    subst z
    exact Option.some.inj (a1.symm.trans a2)
theorem MT_ok : ∀ (n : Nat) (me : aME), MT[n]? = some me → ckM MT me = true := sorry
theorem law_ck : ∀ (k : Nat) (q : aMI), mc_law[k]? = some q → ckD code q = true ∧ ckA MT "CurvePointsLaw" (some .boolean) mc_law k q = true := sorry
set_option maxRecDepth 100000 in
theorem law_first : mc_law[0]? = some (16, .iconst (0), 0, 0, 0, .int (0), []) := rfl
