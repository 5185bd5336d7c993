theorem mem_pl {ws : List Jvm.Cond} (ps : List Nat) (h : ws = ps.filterMap (fun i => lw_tbl[i]?)) (hg : ws.all goodWord = true) : ∀ w ∈ ws, w ∈ lw_good := by
  intro w hw
  have h1 := List.all_eq_true.mp hg w hw
  rw [h] at hw
  obtain ⟨i, -, hi⟩ := List.mem_filterMap.mp hw
  exact List.mem_filter.mpr ⟨List.mem_of_getElem? hi, h1⟩
set_option maxRecDepth 20000 in
theorem inX0 : ∀ w ∈ u_ws RX0 TX0 8, w ∈ lw_good := mem_pl [271, 273, 275, 277, 279, 281, 283, 285] (by decide +kernel) (by decide +kernel)
set_option maxRecDepth 20000 in
theorem inX1 : ∀ w ∈ u_ws RX1 TX1 10, w ∈ lw_good := mem_pl [403, 405, 407, 409, 411, 413, 415, 417, 419, 421] (by decide +kernel) (by decide +kernel)
set_option maxRecDepth 20000 in
theorem inX2 : ∀ w ∈ u_ws RX2 TX2 7, w ∈ lw_good := mem_pl [326, 328, 330, 332, 334, 336, 338] (by decide +kernel) (by decide +kernel)
set_option maxRecDepth 20000 in
theorem inX3 : ∀ w ∈ u_ws RX3 TX3 2, w ∈ lw_good := mem_pl [192, 194] (by decide +kernel) (by decide +kernel)
set_option maxRecDepth 20000 in
theorem inX4 : ∀ w ∈ u_ws RX4 TX4 10, w ∈ lw_good := mem_pl [229, 231, 233, 235, 237, 239, 241, 243, 245, 247] (by decide +kernel) (by decide +kernel)
set_option maxRecDepth 20000 in
theorem inX5 : ∀ w ∈ u_ws RX5 TX5 13, w ∈ lw_good := mem_pl [360, 362, 364, 366, 368, 370, 372, 374, 376, 378, 380, 382, 384] (by decide +kernel) (by decide +kernel)
set_option maxRecDepth 20000 in
theorem inX6 : ∀ w ∈ u_ws RX6 TX6 9, w ∈ lw_good := mem_pl [151, 153, 155, 157, 159, 161, 163, 165, 167] (by decide +kernel) (by decide +kernel)
set_option maxRecDepth 20000 in
theorem inX7 : ∀ w ∈ u_ws RX7 TX7 3, w ∈ lw_good := mem_pl [206, 208, 210] (by decide +kernel) (by decide +kernel)
set_option maxRecDepth 20000 in
theorem inX8 : ∀ w ∈ u_ws RX8 TX8 8, w ∈ lw_good := mem_pl [296, 298, 300, 302, 304, 306, 308, 310] (by decide +kernel) (by decide +kernel)
set_option maxRecDepth 20000 in
theorem inX9 : ∀ w ∈ u_ws RX9 TX9 2, w ∈ lw_good := mem_pl [179, 181] (by decide +kernel) (by decide +kernel)
set_option maxRecDepth 20000 in
theorem inX11 : ∀ w ∈ u_ws RX11 TX11 16, w ∈ lw_good := mem_pl [440, 442, 444, 446, 448, 450, 452, 454, 456, 458, 460, 462, 464, 466, 468, 470] (by decide +kernel) (by decide +kernel)
set_option maxRecDepth 20000 in
theorem inX12 : ∀ w ∈ u_ws RX12 TX12 58, w ∈ lw_good := mem_pl [1576, 1578, 1580, 1582, 1584, 1586, 1588, 1590, 1592, 1594, 1596, 1598, 1600, 1602, 1604, 1606, 1608, 1610, 1612, 1614, 1616, 1618, 1620, 1622, 1624, 1626, 1628, 1630, 1632, 1634, 1636, 1638, 1640, 1642, 1644, 1646, 1648, 1650, 1652, 1654, 1656, 1658, 1660, 1662, 1664, 1666, 1668, 1670, 1672, 1674, 1676, 1678, 1680, 1682, 1684, 1686, 1688, 1690] (by decide +kernel) (by decide +kernel)
def aCf (r : vw_C) : Prop := (∀ w ∈ u_ws r.1 r.2.1 r.2.2, w ∈ lw_good) ∧ (∃ ty0 : Nat → FieldType, ∀ k, k < r.2.2 → parseFieldDescriptor (r.2.1 k).2.2.1 = some (ty0 k)) ∧ (∀ a, a < r.2.2 → ∀ b, b < r.2.2 → a ≠ b → (r.2.1 a).2.1 ≠ (r.2.1 b).2.1)
theorem aCf_all : ∀ (ci : Nat) (r : vw_C), vwCl[ci]? = some r → aCf r := by
  intro ci r h
  match ci, h with
  | 0, h => cases h; exact ⟨inX0, ⟨tyX0, tyX0_ok⟩, nmX0⟩
  | 1, h => cases h; exact ⟨inX1, ⟨tyX1, tyX1_ok⟩, nmX1⟩
  | 2, h => cases h; exact ⟨inX2, ⟨tyX2, tyX2_ok⟩, nmX2⟩
  | 3, h => cases h; exact ⟨inX3, ⟨tyX3, tyX3_ok⟩, nmX3⟩
  | 4, h => cases h; exact ⟨inX4, ⟨tyX4, tyX4_ok⟩, nmX4⟩
  | 5, h => cases h; exact ⟨inX5, ⟨tyX5, tyX5_ok⟩, nmX5⟩
  | 6, h => cases h; exact ⟨inX6, ⟨tyX6, tyX6_ok⟩, nmX6⟩
  | 7, h => cases h; exact ⟨inX7, ⟨tyX7, tyX7_ok⟩, nmX7⟩
  | 8, h => cases h; exact ⟨inX8, ⟨tyX8, tyX8_ok⟩, nmX8⟩
  | 9, h => cases h; exact ⟨inX9, ⟨tyX9, tyX9_ok⟩, nmX9⟩
  | 10, h => cases h; exact ⟨inX11, ⟨tyX11, tyX11_ok⟩, nmX11⟩
  | 11, h => cases h; exact ⟨inX12, ⟨tyX12, tyX12_ok⟩, nmX12⟩
  | n + 12, h => simp [vwCl] at h
def aStr (ad : Nat → Nat) (U : State) : Prop := ∀ q ∈ SRT, vk_R q.1 q.2.1 q.2.2.2 (ad q.2.2.1) U
/-- the cells of the world -/
def aAW (ad : Nat → Nat) : Nat → Prop := fun q => ∃ o, o < nW ∧ q = ad o
def aPre (ad adV : Nat → Nat) (fm : Value) (D : va_G) (cA : Nat → ClassId) (σ0 σ : aSt) (U : State) : Prop := aWd ad D cA σ0 (aAW ad) σ U.heap ∧ va_K D vwCl (aTys cA) U ∧ aOut ad adV fm σ0 (aAW ad) U U.heap ∧ aStr ad U
def aQ (ad : Nat → Nat) (D : va_G) (cA : Nat → ClassId) (σ0 : aSt) (Post : Option Value → aSt → Prop) : Array Value → State → Outcome → State → Prop := fun _ st oc t => (∃ (r : Option Value) (σ' : aSt), oc = .returned (r.map (cv ad)) ∧ Post r σ' ∧ aWd ad D cA σ0 (aAW ad) σ' t.heap) ∧ va_F (aAW ad) st t
abbrev aWm (me : aME) : List Jvm.Cond := .code me.1 me.2.1 me.2.2.1 me.2.2.2.1 :: lw_good
/-- all calls of a depth are sound -/
def aCalls (l : Launch) (mt : List aME) (C : Nat → List Value → aSt → (Option Value → aSt → Prop) → Prop) (ad adV : Nat → Nat) (fm : Value) (D : va_G) (cA : Nat → ClassId) (σ0 : aSt) (rm : Room) : Prop := ∀ (m : Nat) (me : aME) (vs : List Value) (σ : aSt) (Post : Option Value → aSt → Prop), mt[m]? = some me → C m vs σ Post → Met l me.1 (aWm me) rm (va_Pc (vs.map (cv ad)) (aPre ad adV fm D cA σ0 σ)) (aQ ad D cA σ0 Post) 0 0 (aAW ad)
def aYlen : MethodName := ⟨"java/lang/String", "length", "()I"⟩
def aYch : MethodName := ⟨"java/lang/String", "charAt", "(I)C"⟩
/-- what a text answers: the heap stays -/
def aSQ (x : Int32) : Array Value → State → Outcome → State → Prop := fun _ st oc t => oc = .returned (some (.int x)) ∧ t.heap = st.heap
def aSrm : Room := { frames := 6, cells := 0, slots := 0, locals := 300 }
def aLenMet (l : Launch) : Prop := ∃ (cc : ByteArray) (nL : Nat), nL ≤ 20 ∧ Jvm.Cond.code aYlen cc nL (some .int) ∈ lw_good ∧ ∀ (ad adV : Nat → Nat) (fm : Value) (σ0 : aSt) (A : Nat → Prop) (i : Nat) (bs : List Int32), slx i = some bs → Met l aYlen (.code aYlen cc nL (some .int) :: lw_good) aSrm (va_Pc [.ref (ad i)] (fun U => aOut ad adV fm σ0 A U U.heap)) (aSQ (slen i)) 0 0 (fun _ => False)
def aChMet (l : Launch) (fm : Value) : Prop := ∃ (cc : ByteArray) (nL : Nat), nL ≤ 20 ∧ Jvm.Cond.code aYch cc nL (some .char) ∈ lw_good ∧ ∀ (ad adV : Nat → Nat) (σ0 : aSt) (A : Nat → Prop) (i : Nat) (bs : List Int32) (k : Int32), slx i = some bs → 0 ≤ k → k < slen i → Met l aYch (.code aYch cc nL (some .char) :: lw_good) aSrm (va_Pc [.ref (ad i), .int k] (fun U => aOut ad adV fm σ0 A U U.heap)) (aSQ (sch i k)) 0 0 (fun _ => False)
/-- the machine comes to its end from a configuration -/
def aWc (p : Program) (l : Launch) (e : Env) (R : Room) (s : State) (m : MethodId) (args : Array Value) (below : List Frame) (meth : Method) (c : Code) (cells slots : Nat) (Q : State → Prop) (ad : Nat → Nat) (D : va_G) (cA : Nat → ClassId) (σ0 : aSt) (A : Nat → Prop) (nL : Nat) (code : List aMI) (k : Nat) (L : aLo) (S : List Value) (σ : aSt) : Prop :=
  ∀ (H : Heap) (locs : List Loc) (ls : Array Slot) (q : aMI), code[k]? = some q → aWd ad D cA σ0 A σ H → va_S A s.heap H locs → L.length = nL → lv_has ls nL (lcn ad 0 L) → W p l e R s m args below meth c H locs cells slots Q (F0 m q.1 ls (S.map (cv ad)))
/-- what a return must fit -/
def aRet (bytes : ByteArray) (ret : Option FieldType) (pc : Nat) : Option Value → Prop
  | some (.int x) => (ret = some .int ∨ (ret = some .boolean ∧ (x = 0 ∨ x = 1))) ∧ decode bytes pc = .ok (.ireturn, 1)
  | some (.long _) => ret = some .long ∧ decode bytes pc = .ok (.lreturn, 1)
  | some (.ref _) => (∃ n, ret = some (.object n)) ∧ decode bytes pc = .ok (.areturn, 1)
  | none => ret = none ∧ decode bytes pc = .ok (.return_, 1)
  | _ => False
theorem lst_get {L : aLo} {i b n : Nat} {v u : Value} (hok : okS L i b = true) (h : (lst1 L i b v)[n]? = some (some u)) : (n = i ∧ u = v) ∨ (n ≠ i ∧ L[n]? = some (some u) ∧ ¬ (n + 1 = i ∧ u.category = 2)) := by
  unfold lst1 at h
  unfold okS at hok
  rw [Bool.and_eq_true] at hok
  obtain ⟨hi, hok⟩ := hok
  have hi : i < L.length := by simpa [Nat.blt_eq] using hi
  rw [List.getElem?_set] at h
  by_cases hn : i = n
  · subst hn
    rw [if_pos rfl] at h
    split at h
    · exact Or.inl ⟨rfl, by simpa using h.symm⟩
    · cases h
  · rw [if_neg hn] at h
    refine Or.inr ⟨fun q => hn q.symm, ?_⟩
    cases hb : Nat.beq b 0 with
    | true =>
      rw [hb, cond_true] at h
      refine ⟨h, ?_⟩
      rintro ⟨h1, h2⟩
      rw [hb] at hok
      simp only [Bool.not_true, Bool.false_or, Bool.or_eq_true] at hok
      rcases hok with hok | hok
      · have := Nat.eq_of_beq_eq_true hok; omega
      · rw [show i - 1 = n by omega, h] at hok
        dsimp only at hok
        have := Nat.eq_of_beq_eq_true hok
        omega
    | false =>
      rw [hb, cond_false, List.getElem?_set] at h
      by_cases h2 : i - 1 = n
      · rw [if_pos h2] at h
        split at h <;> cases h
      · rw [if_neg h2] at h
        exact ⟨h, fun q => by omega⟩
theorem lst1_len (L : aLo) (i b : Nat) (v : Value) : (lst1 L i b v).length = L.length := by
  unfold lst1
  cases Nat.beq b 0 <;> simp
theorem lst2_len (L : aLo) (i b : Nat) (v : Value) : (lst2 L i b v).length = L.length := by
  unfold lst2
  cases Nat.beq b 0 <;> simp
theorem lst2_eq (L : aLo) (i b : Nat) (v : Value) : lst2 L i b v = (lst1 L i b v).set (i + 1) none := rfl
theorem lcn_st1 {ad : Nat → Nat} {ls : Array Slot} {nL i b : Nat} {L : aLo} {v : Value} (hok : okS L i b = true) (h : lv_has ls nL ((i, cv ad v) :: (lcn ad 0 L).filter (fun q => !(q.1 == i) && !(q.1 + 1 == i && q.2.category == 2)))) : lv_has ls nL (lcn ad 0 (lst1 L i b v)) := by
  refine lcn_sub h (fun n u hu => ?_)
  rcases lst_get hok hu with ⟨rfl, rfl⟩ | ⟨h1, h2, h3⟩
  · exact List.mem_cons_self
  · refine List.mem_cons_of_mem _ (List.mem_filter.mpr ⟨lcn_mem.mpr ⟨n, u, h2, by omega, rfl⟩, ?_⟩)
    simp only [Bool.and_eq_true, Bool.not_eq_true', beq_eq_false_iff_ne, ne_eq, Bool.and_eq_false_iff, cv_cat]
    refine ⟨h1, ?_⟩
    by_cases h4 : n + 1 = i
    · exact Or.inr (fun h5 => h3 ⟨h4, h5⟩)
    · exact Or.inl h4
theorem lcn_st2 {ad : Nat → Nat} {ls : Array Slot} {nL i b : Nat} {L : aLo} {v : Value} (hok : okS2 L i b = true) (h : lv_has ls nL ((i, cv ad v) :: (lcn ad 0 L).filter (fun q => !(q.1 == i) && (!(q.1 == i + 1) && !(q.1 + 1 == i && q.2.category == 2))))) : lv_has ls nL (lcn ad 0 (lst2 L i b v)) := by
  unfold okS2 at hok
  rw [Bool.and_eq_true] at hok
  refine lcn_sub h (fun n u hu => ?_)
  rw [lst2_eq, List.getElem?_set] at hu
  by_cases hn : i + 1 = n
  · rw [if_pos hn] at hu
    split at hu <;> cases hu
  · rw [if_neg hn] at hu
    rcases lst_get hok.2 hu with ⟨rfl, rfl⟩ | ⟨h1, h2, h3⟩
    · exact List.mem_cons_self
    · refine List.mem_cons_of_mem _ (List.mem_filter.mpr ⟨lcn_mem.mpr ⟨n, u, h2, by omega, rfl⟩, ?_⟩)
      simp only [Bool.and_eq_true, Bool.not_eq_true', beq_eq_false_iff_ne, ne_eq, Bool.and_eq_false_iff, cv_cat]
      refine ⟨h1, fun q => hn q.symm, ?_⟩
      by_cases h4 : n + 1 = i
      · exact Or.inr (fun h5 => h3 ⟨h4, h5⟩)
      · exact Or.inl h4
theorem wsm_cat (ad : Nat → Nat) : ∀ S : List Value, ((S.map (cv ad)).map fun v => v.category).sum = wsm S
  | [] => rfl
  | v :: S => by
    rw [List.map_cons, List.map_cons, List.sum_cons, wsm_cat ad S, cv_cat]
    rfl
theorem lenI_out {σ0 σ : aSt} (hF : aFix σ0 σ) {o : Nat} (ho : o ≠ SCR) : lenI σ o = nI (oln o) := by
  unfold lenI
  rw [beq_ne ho]
  rfl
theorem lenI_scr {σ0 σ : aSt} (hF : aFix σ0 σ) : lenI σ SCR = σ0.1 (SCR + 1) 0 := by
  unfold lenI
  rw [beq_self, cond_true, (hF (SCR + 1) (by decide)).1]
theorem inb_vp {i : Int32} {n : Nat} (hn : n < 2 ^ 31) (h0 : 0 ≤ i) (h1 : i < nI n) : vp_in i n := by
  rw [vp_in_iff]
  refine ⟨by simpa using Int32.le_iff_toInt_le.mp h0, ?_⟩
  have := Int32.lt_iff_toInt_lt.mp h1
  rwa [nI_toInt hn] at this
theorem oln_small (o : Nat) : oln o < 2 ^ 31 := by
  by_cases h : o < OT.length
  · have : (List.range OT.length).all (fun o => Nat.blt (oln o) (2 ^ 31)) = true := by decide +kernel
    have := List.all_eq_true.mp this o (List.mem_range.mpr h)
    simpa [Nat.blt_eq] using this
  · unfold oln
    rw [List.getElem?_eq_none (by omega)]
    exact Nat.le_of_ble_eq_true rfl
theorem oty_arr {o t : Nat} (h : oty o = t) (ht : t ≠ 9) : OT[o]? = some (.inl (t, oln o)) := by
  unfold oty at h
  unfold oln
  cases hO : OT[o]? with
  | none => rw [hO] at h; exact absurd h.symm ht
  | some d =>
    cases d with
    | inl q => rw [hO] at h; dsimp only at h ⊢; rw [← h]
    | inr q => rw [hO] at h; exact absurd h.symm ht
