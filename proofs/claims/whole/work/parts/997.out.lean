set_option maxRecDepth 100000 in
theorem lo_el0 : ∀ j, j < 25 → Jvm.Cond.eq (.elem (Jvm.Term.static "CurvePoints" "PRIMES" "[I") (.int (Int32.ofNat j))) (.int (cArr0.getD j 0)) ∈ (flatC (Jvm.Cond.and given_1 narrow_1)) := by decide +kernel
theorem lo_arr0 {b : Nat} {s : State} {A : Nat → Prop} (hA : ∀ a : Nat, a < s.heap.size → ¬ A a) (hgv : (Jvm.Cond.and given_1 narrow_1).before #[Value.ref b] s = true) : ∃ t : Nat, (Jvm.Term.static "CurvePoints" "PRIMES" "[I").eval #[Value.ref b] s none [] s = some (.ref t) ∧ va_T .int t 25 (fun j => .int (cArr0.getD j 0)) A s s.heap := by
  have fl := flat_of_before _ hgv
  exact va_Tof (N := 25) (Nat.le_of_ble_eq_true rfl) (fl _ (by decide +kernel)) (va_eqt (fl (Jvm.Cond.eq (.length (Jvm.Term.static "CurvePoints" "PRIMES" "[I")) (.int (Int32.ofNat 25))) (by decide +kernel))) (fun j hj => va_eqt (fl _ (lo_el0 j hj))) hA
set_option maxRecDepth 100000 in
theorem lo_el1 : ∀ j, j < 6 → Jvm.Cond.eq (.elem (Jvm.Term.static "CurvePoints$ClassTable" "MODULI" "[I") (.int (Int32.ofNat j))) (.int (cArr1.getD j 0)) ∈ (flatC (Jvm.Cond.and given_1 narrow_1)) := by decide +kernel
theorem lo_arr1 {b : Nat} {s : State} {A : Nat → Prop} (hA : ∀ a : Nat, a < s.heap.size → ¬ A a) (hgv : (Jvm.Cond.and given_1 narrow_1).before #[Value.ref b] s = true) : ∃ t : Nat, (Jvm.Term.static "CurvePoints$ClassTable" "MODULI" "[I").eval #[Value.ref b] s none [] s = some (.ref t) ∧ va_T .int t 6 (fun j => .int (cArr1.getD j 0)) A s s.heap := by
  have fl := flat_of_before _ hgv
  exact va_Tof (N := 6) (Nat.le_of_ble_eq_true rfl) (fl _ (by decide +kernel)) (va_eqt (fl (Jvm.Cond.eq (.length (Jvm.Term.static "CurvePoints$ClassTable" "MODULI" "[I")) (.int (Int32.ofNat 6))) (by decide +kernel))) (fun j hj => va_eqt (fl _ (lo_el1 j hj))) hA
set_option maxRecDepth 100000 in
theorem lo_el2 : ∀ j, j < 6 → Jvm.Cond.eq (.elem (Jvm.Term.static "CurvePoints$ClassTable" "MODULI_PRIMES" "[I") (.int (Int32.ofNat j))) (.int (cArr2.getD j 0)) ∈ (flatC (Jvm.Cond.and given_1 narrow_1)) := by decide +kernel
theorem lo_arr2 {b : Nat} {s : State} {A : Nat → Prop} (hA : ∀ a : Nat, a < s.heap.size → ¬ A a) (hgv : (Jvm.Cond.and given_1 narrow_1).before #[Value.ref b] s = true) : ∃ t : Nat, (Jvm.Term.static "CurvePoints$ClassTable" "MODULI_PRIMES" "[I").eval #[Value.ref b] s none [] s = some (.ref t) ∧ va_T .int t 6 (fun j => .int (cArr2.getD j 0)) A s s.heap := by
  have fl := flat_of_before _ hgv
  exact va_Tof (N := 6) (Nat.le_of_ble_eq_true rfl) (fl _ (by decide +kernel)) (va_eqt (fl (Jvm.Cond.eq (.length (Jvm.Term.static "CurvePoints$ClassTable" "MODULI_PRIMES" "[I")) (.int (Int32.ofNat 6))) (by decide +kernel))) (fun j hj => va_eqt (fl _ (lo_el2 j hj))) hA
set_option maxRecDepth 100000 in
theorem lo_el3 : ∀ j, j < 6 → Jvm.Cond.eq (.elem (Jvm.Term.static "CurvePoints$ClassTable" "MODULI_SQUARES" "[J") (.int (Int32.ofNat j))) (.long (cArr3.getD j 0)) ∈ (flatC (Jvm.Cond.and given_1 narrow_1)) := by decide +kernel
theorem lo_arr3 {b : Nat} {s : State} {A : Nat → Prop} (hA : ∀ a : Nat, a < s.heap.size → ¬ A a) (hgv : (Jvm.Cond.and given_1 narrow_1).before #[Value.ref b] s = true) : ∃ t : Nat, (Jvm.Term.static "CurvePoints$ClassTable" "MODULI_SQUARES" "[J").eval #[Value.ref b] s none [] s = some (.ref t) ∧ va_T .long t 6 (fun j => .long (cArr3.getD j 0)) A s s.heap := by
  have fl := flat_of_before _ hgv
  exact va_Tof (N := 6) (Nat.le_of_ble_eq_true rfl) (fl _ (by decide +kernel)) (va_eqt (fl (Jvm.Cond.eq (.length (Jvm.Term.static "CurvePoints$ClassTable" "MODULI_SQUARES" "[J")) (.int (Int32.ofNat 6))) (by decide +kernel))) (fun j hj => va_eqtl (fl _ (lo_el3 j hj))) hA
def loTm (i : Nat) : Jvm.Term := match i with
  | 0 => .string "CurvePoints$Reader" 110
  | 1 => .string "CurvePoints$Reader" 101
  | 2 => .string "CurvePoints" 173
  | 3 => .string "CurvePoints" 189
  | 4 => .string "CurvePoints" 217
  | 5 => .string "CurvePoints" 226
  | 6 => .string "CurvePoints" 228
  | _ => .string "CurvePoints" 234
def loLen : List Nat := [5, 6, 4, 1, 2, 6, 2, 1]
theorem loLen_ok : ∀ i, i < 8 → loLen.getD i 0 = (SLX.getD i []).length := by decide +kernel
set_option maxRecDepth 100000 in
theorem lo_s1 : ∀ i, i < 8 → Jvm.Cond.exactly (loTm i) "java/lang/String" ∈ (flatC (Jvm.Cond.and given_1 narrow_1)) := by decide +kernel
set_option maxRecDepth 100000 in
theorem lo_s2 : ∀ i, i < 8 → Jvm.Cond.eq (.field (loTm i) "java/lang/String" "coder" "B") (.int 0) ∈ (flatC (Jvm.Cond.and given_1 narrow_1)) := by decide +kernel
set_option maxRecDepth 100000 in
theorem lo_s3 : ∀ i, i < 8 → Jvm.Cond.arrayOf (.field (loTm i) "java/lang/String" "value" "[B") .byte ∈ (flatC (Jvm.Cond.and given_1 narrow_1)) := by decide +kernel
set_option maxRecDepth 100000 in
theorem lo_s4 : ∀ i, i < 8 → Jvm.Cond.eq (.length (.field (loTm i) "java/lang/String" "value" "[B")) (.int (Int32.ofNat (loLen.getD i 0))) ∈ (flatC (Jvm.Cond.and given_1 narrow_1)) := by decide +kernel
set_option maxRecDepth 100000 in
theorem lo_s5 : ∀ i, i < 8 → ∀ j, j < loLen.getD i 0 → Jvm.Cond.eq (.elem (.field (loTm i) "java/lang/String" "value" "[B") (.int (Int32.ofNat j))) (.int ((SLX.getD i []).getD j 0)) ∈ (flatC (Jvm.Cond.and given_1 narrow_1)) := by decide +kernel
set_option maxRecDepth 100000 in
theorem lo_s6 : ∀ i, i < 8 → ∀ j, j < 8 → i ≠ j → Jvm.Cond.not (Jvm.Cond.eq (loTm i) (loTm j)) ∈ (flatC (Jvm.Cond.and given_1 narrow_1)) ∨ Jvm.Cond.not (Jvm.Cond.eq (loTm j) (loTm i)) ∈ (flatC (Jvm.Cond.and given_1 narrow_1)) := by decide +kernel
theorem lo_str {b : Nat} {s : State} {A : Nat → Prop} (hA : ∀ a : Nat, a < s.heap.size → ¬ A a) (hgv : (Jvm.Cond.and given_1 narrow_1).before #[Value.ref b] s = true) : ∃ adK adV : Nat → Nat, vk_S 8 loLen SLX adK adV A s s.heap ∧ ∀ i : Nat, i < 8 → (loTm i).eval #[Value.ref b] s none [] s = some (.ref (adK i)) := by
  have fl := flat_of_before _ hgv
  refine vk_Sof (by decide) (fun i hi => fl _ (lo_s1 i hi)) (fun i hi => fl _ (lo_s2 i hi)) (fun i hi => fl _ (lo_s3 i hi)) (fun i hi => fl _ (lo_s4 i hi)) (fun i hi j hj => fl _ (lo_s5 i hi j hj)) (fun i j hi hj hne => ?_) hA
  rcases lo_s6 i hi j hj hne with h | h
  · exact Or.inl (fl _ h)
  · exact Or.inr (fl _ h)
set_option maxRecDepth 100000 in
theorem lo_same : ∀ q ∈ SRT, (Jvm.Term.string q.1 q.2.1 = loTm (q.2.2.1 - 200) ∨ Jvm.Cond.eq (loTm (q.2.2.1 - 200)) (Jvm.Term.string q.1 q.2.1) ∈ (flatC (Jvm.Cond.and given_1 narrow_1))) ∧ q.2.2.1 - 200 < 8 ∧ 200 ≤ q.2.2.1 := by decide +kernel
set_option maxRecDepth 100000 in
theorem lo_ref : ∀ q ∈ SRT, Jvm.Cond.stringRef q.1 q.2.1 q.2.2.2 ∈ lw_tbl := by
  intro q hq
  simp only [SRT, List.mem_cons, List.not_mem_nil, or_false] at hq
  rcases hq with rfl | rfl | rfl | rfl | rfl | rfl | rfl | rfl | rfl | rfl | rfl | rfl
  · exact List.mem_of_getElem? (i := 526) (by decide +kernel)
  · exact List.mem_of_getElem? (i := 614) (by decide +kernel)
  · exact List.mem_of_getElem? (i := 762) (by decide +kernel)
  · exact List.mem_of_getElem? (i := 773) (by decide +kernel)
  · exact List.mem_of_getElem? (i := 890) (by decide +kernel)
  · exact List.mem_of_getElem? (i := 902) (by decide +kernel)
  · exact List.mem_of_getElem? (i := 903) (by decide +kernel)
  · exact List.mem_of_getElem? (i := 909) (by decide +kernel)
  · exact List.mem_of_getElem? (i := 1727) (by decide +kernel)
  · exact List.mem_of_getElem? (i := 1758) (by decide +kernel)
  · exact List.mem_of_getElem? (i := 1885) (by decide +kernel)
  · exact List.mem_of_getElem? (i := 1890) (by decide +kernel)
theorem isRef_of {args : Array Value} {s : State} {C n d : String} (h : (Jvm.Cond.isRef (.static C n d)).before args s = true) : ∃ v : Value, (Jvm.Term.static C n d).eval args s none [] s = some v ∧ v.category = 1 := by
  obtain ⟨v, hv, hr⟩ := Cond.isRef_spec h
  exact ⟨v, hv, by cases v <;> first | rfl | cases hr⟩
set_option maxRecDepth 100000 in
theorem tw_P : Jvm.Cond.laysStatic "CurvePoints" "PRIMES" "[I" ∈ lw_tbl := by decide +kernel
set_option maxRecDepth 100000 in
theorem tw_M : Jvm.Cond.laysStatic "CurvePoints$ClassTable" "MODULI" "[I" ∈ lw_tbl := by decide +kernel
set_option maxRecDepth 100000 in
theorem tw_MP : Jvm.Cond.laysStatic "CurvePoints$ClassTable" "MODULI_PRIMES" "[I" ∈ lw_tbl := by decide +kernel
set_option maxRecDepth 100000 in
theorem tw_MS : Jvm.Cond.laysStatic "CurvePoints$ClassTable" "MODULI_SQUARES" "[J" ∈ lw_tbl := by decide +kernel
set_option maxRecDepth 100000 in
theorem tw_C : Jvm.Cond.laysStatic "java/lang/String" "COMPACT_STRINGS" "Z" ∈ lw_tbl := by decide +kernel
set_option maxRecDepth 100000 in
theorem tw_F : Jvm.Cond.laysStatic "jdk/internal/util/Preconditions" "SIOOBE_FORMATTER" "Ljava/util/function/BiFunction;" ∈ lw_tbl := by decide +kernel
set_option maxRecDepth 100000 in
theorem ti_X : Jvm.Cond.initialized "CurvePoints" ∈ lw_tbl := by decide +kernel
set_option maxRecDepth 100000 in
theorem ti_T : Jvm.Cond.initialized "CurvePoints$ClassTable" ∈ lw_tbl := by decide +kernel
set_option maxRecDepth 100000 in
theorem ti_S : Jvm.Cond.initialized "java/lang/String" ∈ lw_tbl := by decide +kernel
set_option maxRecDepth 100000 in
theorem ti_P : Jvm.Cond.initialized "jdk/internal/util/Preconditions" ∈ lw_tbl := by decide +kernel
set_option maxRecDepth 100000 in
theorem tg_C : Jvm.Cond.eq (Jvm.Term.static "java/lang/String" "COMPACT_STRINGS" "Z") (.int 1) ∈ (flatC (Jvm.Cond.and given_1 narrow_1)) := by decide +kernel
set_option maxRecDepth 100000 in
theorem tg_F : Jvm.Cond.isRef (Jvm.Term.static "jdk/internal/util/Preconditions" "SIOOBE_FORMATTER" "Ljava/util/function/BiFunction;") ∈ (flatC (Jvm.Cond.and given_1 narrow_1)) := by decide +kernel
theorem slx_of {i : Nat} {bs : List Int32} (h : slx i = some bs) : 200 ≤ i ∧ i - 200 < 8 ∧ SLX.getD (i - 200) [] = bs := by
  unfold slx at h
  by_cases c : i < 200
  · rw [show Nat.blt i 200 = true from by rw [Nat.blt_eq]; exact c] at h; cases h
  · rw [show Nat.blt i 200 = false from ft_tt (fun z => c (Nat.blt_eq.mp z))] at h
    have h' : SLX[i - 200]? = some bs := h
    have l : SLX.length = 8 := rfl
    have lt : i - 200 < SLX.length := by
      rcases Nat.lt_or_ge (i - 200) SLX.length with q | q
      · exact q
      · rw [List.getElem?_eq_none q] at h'; cases h'
    exact ⟨by omega, by omega, by rw [List.getD_eq_getElem?_getD, h']; rfl⟩
/-- all that lies outside: constants, the script, texts -/
theorem out_ok {b L : Nat} {xs : Nat → Int32} {s : State} (hL : L ≤ 3072) (hX : va_X b L xs s s.heap) (hbl : b < s.heap.size) (hts : ∀ w ∈ lw_tbl, w.before #[Value.ref b] s = true) (hgv : (Jvm.Cond.and given_1 narrow_1).before #[Value.ref b] s = true) : ∃ (adC adV : Nat → Nat) (fm : Value), fm.category = 1 ∧ adC 91 = b ∧ ∀ ad : Nat → Nat, (∀ o, 87 ≤ o → ad o = adC o) → aOut ad adV fm (st0 xs L) (fun q => s.heap.size ≤ q) s s.heap ∧ aStr ad s := by
  have hA : ∀ a : Nat, a < s.heap.size → ¬ (fun q : Nat => s.heap.size ≤ q) a := fun a h => Nat.not_le.mpr h
  have fl := flat_of_before _ hgv
  obtain ⟨t0, e0, v0⟩ := lo_arr0 hA hgv
  obtain ⟨t1, e1, v1⟩ := lo_arr1 hA hgv
  obtain ⟨t2, e2, v2⟩ := lo_arr2 hA hgv
  obtain ⟨t3, e3, v3⟩ := lo_arr3 hA hgv
  obtain ⟨adK, adW, hK, hE⟩ := lo_str hA hgv
  obtain ⟨fm, ef, cf⟩ := isRef_of (fl _ tg_F)
  have h200 : ∀ ad : Nat → Nat, (∀ o, 87 ≤ o → ad o = (fun o => if o = 87 then t0 else if o = 88 then t1 else if o = 89 then t2 else if o = 90 then t3 else if o = 91 then b else adK (o - 200)) o) → ∀ i, 200 ≤ i → ad i = adK (i - 200) := fun ad had i hi => by
    have h := had i (by omega)
    have h' : ad i = (if i = 87 then t0 else if i = 88 then t1 else if i = 89 then t2 else if i = 90 then t3 else if i = 91 then b else adK (i - 200)) := h
    rw [h', if_neg (show ¬ i = 87 by omega), if_neg (show ¬ i = 88 by omega), if_neg (show ¬ i = 89 by omega), if_neg (show ¬ i = 90 by omega), if_neg (show ¬ i = 91 by omega)]
  refine ⟨fun o => if o = 87 then t0 else if o = 88 then t1 else if o = 89 then t2 else if o = 90 then t3 else if o = 91 then b else adK (o - 200), fun i => adW (i - 200), fm, cf, rfl, fun ad had => ⟨⟨fun o q h1 h2 h3 => ?_, ⟨L, Nat.lt_of_le_of_lt hL (by decide), rfl, ?_⟩, fun q hq => ?_, fun i bs hi => ?_, ?_, ?_⟩, fun q hq => ?_⟩⟩
  · have ho : o < 92 := by
      have l : OT.length = 92 := by decide +kernel
      rcases Nat.lt_or_ge o OT.length with z | z
      · omega
      · rw [List.getElem?_eq_none z] at h3; cases h3
    have h1' : 87 ≤ o := h1
    have h2' : o ≠ 91 := h2
    have cs : o = 87 ∨ o = 88 ∨ o = 89 ∨ o = 90 := by omega
    rw [had o h1']
    rcases cs with z | z | z | z
    · subst z
      have e : q = (0, 25) := by
        have : OT[87]? = some (.inl (0, 25)) := by decide +kernel
        rw [this] at h3; exact (Sum.inl.inj (Option.some.inj h3)).symm
      subst e; exact v0
    · subst z
      have e : q = (0, 6) := by
        have : OT[88]? = some (.inl (0, 6)) := by decide +kernel
        rw [this] at h3; exact (Sum.inl.inj (Option.some.inj h3)).symm
      subst e; exact v1
    · subst z
      have e : q = (0, 6) := by
        have : OT[89]? = some (.inl (0, 6)) := by decide +kernel
        rw [this] at h3; exact (Sum.inl.inj (Option.some.inj h3)).symm
      subst e; exact v2
    · subst z
      have e : q = (1, 6) := by
        have : OT[90]? = some (.inl (1, 6)) := by decide +kernel
        rw [this] at h3; exact (Sum.inl.inj (Option.some.inj h3)).symm
      subst e; exact v3
  · obtain ⟨scr, x1, x2, x3, x4, x5⟩ := hX
    rw [show ad SCR = b from had 91 (by omega)]
    exact ⟨scr, x1, x2, x3, Nat.le_of_eq x4.symm, by rw [x4], x5, hA b hbl⟩
  · simp only [STT, List.mem_cons, List.not_mem_nil, or_false] at hq
    rcases hq with rfl | rfl | rfl | rfl
    · rw [had 87 (by omega)]; exact va_Zof (hts _ tw_P) (hts _ ti_X) e0 hA
    · rw [had 88 (by omega)]; exact va_Zof (hts _ tw_M) (hts _ ti_T) e1 hA
    · rw [had 89 (by omega)]; exact va_Zof (hts _ tw_MP) (hts _ ti_T) e2 hA
    · rw [had 90 (by omega)]; exact va_Zof (hts _ tw_MS) (hts _ ti_T) e3 hA
  · obtain ⟨i1, i2, i3⟩ := slx_of hi
    obtain ⟨k1, k2, k3, k4⟩ := hK.1 (i - 200) i2
    rw [h200 ad had i i1]
    rw [loLen_ok (i - 200) i2, i3] at k4
    exact ⟨k1, k2, k3, k4⟩
  · exact va_Zof (hts _ tw_C) (hts _ ti_S) (va_eqt (fl _ tg_C)) hA
  · exact va_Zof (hts _ tw_F) (hts _ ti_P) ef hA
  · obtain ⟨s1, s2, s3⟩ := lo_same q hq
    rw [h200 ad had q.2.2.1 s3]
    have ee := hE (q.2.2.1 - 200) s2
    refine vk_R.of (hts _ (lo_ref q hq)) ?_
    rcases s1 with z | z
    · rw [z]; exact ee
    · have := fl _ z
      exact va_eqR this ee
