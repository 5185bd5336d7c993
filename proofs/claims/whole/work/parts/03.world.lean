/-! THE WORLD: the abstract state as cells of the heap -/
def cv (ad : Nat → Nat) : Value → Value
  | .ref a => .ref (ad a)
  | .int x => .int x
  | .long x => .long x
  | .float x => .float x
  | .double x => .double x
  | .null => .null
  | .retAddr x => .retAddr x
theorem cv_cat (ad : Nat → Nat) (v : Value) : (cv ad v).category = v.category := by cases v <;> rfl
def lcn (ad : Nat → Nat) : Nat → aLo → List (Nat × Value)
  | _, [] => []
  | i, none :: L => lcn ad (i + 1) L
  | i, some v :: L => (i, cv ad v) :: lcn ad (i + 1) L
theorem lcn_mem {ad : Nat → Nat} {j : Nat} {w : Value} : ∀ {L : aLo} {i : Nat}, (j, w) ∈ lcn ad i L ↔ ∃ (n : Nat) (v : Value), L[n]? = some (some v) ∧ j = i + n ∧ w = cv ad v
  | [], i => by simp [lcn]
  | none :: L, i => by
    rw [lcn, lcn_mem]
    constructor
    · rintro ⟨n, v, h1, h2, h3⟩
      exact ⟨n + 1, v, by simpa using h1, by omega, h3⟩
    · rintro ⟨n, v, h1, h2, h3⟩
      cases n with
      | zero => simp at h1
      | succ n => exact ⟨n, v, by simpa using h1, by omega, h3⟩
  | some u :: L, i => by
    rw [lcn, List.mem_cons, lcn_mem]
    constructor
    · rintro (h | ⟨n, v, h1, h2, h3⟩)
      · cases h
        exact ⟨0, u, rfl, rfl, rfl⟩
      · exact ⟨n + 1, v, by simpa using h1, by omega, h3⟩
    · rintro ⟨n, v, h1, h2, h3⟩
      cases n with
      | zero =>
        have : u = v := by simpa using h1
        subst this
        exact Or.inl (by rw [h2, h3]; rfl)
      | succ n => exact Or.inr ⟨n, v, by simpa using h1, by omega, h3⟩
theorem lcn_at {ad : Nat → Nat} {ls : Array Slot} {nL : Nat} {L : aLo} (h : lv_has ls nL (lcn ad 0 L)) {i : Nat} {v : Value} (hi : L[i]? = some (some v)) : ls[i]? = some (.val (cv ad v)) :=
  h.2.2 (i, cv ad v) (lcn_mem.mpr ⟨i, v, hi, by omega, rfl⟩)
theorem lcn_sub {ad : Nat → Nat} {ls : Array Slot} {nL : Nat} {l : List (Nat × Value)} {L : aLo} (h : lv_has ls nL l) (hs : ∀ (n : Nat) (v : Value), L[n]? = some (some v) → (n, cv ad v) ∈ l) : lv_has ls nL (lcn ad 0 L) := by
  refine ⟨h.1, h.2.1, fun q hq => ?_⟩
  obtain ⟨j, w⟩ := q
  obtain ⟨n, v, h1, h2, h3⟩ := lcn_mem.mp hq
  subst h3
  have h2 : j = n := by omega
  subst h2
  exact h.2.2 _ (hs _ _ h1)
def tyc : Nat → FieldType
  | 0 => .int
  | 1 => .long
  | 2 => .byte
  | _ => .boolean
def aArr (t n : Nat) (σ : aSt) (o : Nat) : vp_A := match t with
  | 1 => (n, .inr (.inl (σ.2.1 o)))
  | 3 => (n, .inl (fun j => b2i (σ.2.2 o j)))
  | _ => (n, .inl (σ.1 o))
def aFv (ad : Nat → Nat) (σ : aSt) (o ci k : Nat) : Option Nat → Value
  | some t => .ref (ad t)
  | none => match fty ci k with
    | 1 => .long (σ.2.1 o k)
    | 3 => .int (b2i (σ.2.2 o k))
    | _ => .int (σ.1 o k)
def aFs (ad : Nat → Nat) (σ : aSt) (o ci : Nat) (rf : List (Option Nat)) : List Value := rf.mapIdx (fun k r => aFv ad σ o ci k r)
def aCell (ad : Nat → Nat) (cA : Nat → ClassId) (σ : aSt) (o : Nat) : OD → va_E
  | .inl q => .inl (cA q.1, aArr q.1 q.2 σ o)
  | .inr q => .inr (q.1, aFs ad σ o q.1 q.2)
def aWs (ad : Nat → Nat) (cA : Nat → ClassId) (σ : aSt) : va_W := (OT.take nW).mapIdx (fun o d => (ad o, aCell ad cA σ o d))
theorem aWs_get (ad : Nat → Nat) (cA : Nat → ClassId) (σ : aSt) (j : Nat) : (aWs ad cA σ)[j]? = if j < nW then (OT[j]?).map (fun d => (ad j, aCell ad cA σ j d)) else none := by
  rw [aWs, List.getElem?_mapIdx, List.getElem?_take]
  by_cases h : j < nW
  · rw [if_pos h, if_pos h]
  · rw [if_neg h, if_neg h]
    rfl
theorem aWs_at {ad : Nat → Nat} {cA : Nat → ClassId} {σ : aSt} {j : Nat} {d : OD} (h : j < nW) (hd : OT[j]? = some d) : (aWs ad cA σ)[j]? = some (ad j, aCell ad cA σ j d) := by
  rw [aWs_get, if_pos h, hd]
  rfl
theorem aWs_len (ad : Nat → Nat) (cA : Nat → ClassId) (σ : aSt) : (aWs ad cA σ).length = nW := by
  rw [aWs, List.length_mapIdx, List.length_take]
  decide +kernel
theorem aFv_congr {ad : Nat → Nat} {σ σ' : aSt} {o ci k : Nat} {r : Option Nat} (h1 : σ.1 o k = σ'.1 o k) (h2 : σ.2.1 o k = σ'.2.1 o k) (h3 : σ.2.2 o k = σ'.2.2 o k) : aFv ad σ o ci k r = aFv ad σ' o ci k r := by
  cases r with
  | some t => rfl
  | none => simp only [aFv, h1, h2, h3]
theorem aCell_congr {ad : Nat → Nat} {cA : Nat → ClassId} {σ σ' : aSt} {o : Nat} {d : OD} (h1 : σ.1 o = σ'.1 o) (h2 : σ.2.1 o = σ'.2.1 o) (h3 : σ.2.2 o = σ'.2.2 o) : aCell ad cA σ o d = aCell ad cA σ' o d := by
  cases d with
  | inl q => simp only [aCell, aArr, h1, h2, h3]
  | inr q =>
    have : aFs ad σ o q.1 q.2 = aFs ad σ' o q.1 q.2 := by
      unfold aFs
      congr 1
      funext k r
      exact aFv_congr (by rw [h1]) (by rw [h2]) (by rw [h3])
    simp only [aCell, this]
/-- one cell is another, the state with it -/
theorem aWs_set {ad : Nat → Nat} {cA : Nat → ClassId} {σ σ' : aSt} {o : Nat} {d : OD} {e : va_E} (ho : o < nW) (hd : OT[o]? = some d) (he : e = aCell ad cA σ' o d) (h1 : ∀ j, j ≠ o → σ.1 j = σ'.1 j) (h2 : ∀ j, j ≠ o → σ.2.1 j = σ'.2.1 j) (h3 : ∀ j, j ≠ o → σ.2.2 j = σ'.2.2 j) : (aWs ad cA σ).set o (ad o, e) = aWs ad cA σ' := by
  apply List.ext_getElem?
  intro j
  rw [List.getElem?_set, aWs_len]
  by_cases hj : o = j
  · subst hj
    rw [if_pos rfl, if_pos ho, aWs_at ho hd, he]
  · rw [if_neg hj, aWs_get, aWs_get]
    by_cases hn : j < nW
    · rw [if_pos hn, if_pos hn]
      cases OT[j]? with
      | none => rfl
      | some d' =>
        have hj' : j ≠ o := fun q => hj q.symm
        simp only [Option.map_some, aCell_congr (h1 j hj') (h2 j hj') (h3 j hj')]
    · rw [if_neg hn, if_neg hn]
theorem beq_ne {a b : Nat} (h : a ≠ b) : Nat.beq a b = false := by
  cases hb : Nat.beq a b with
  | false => rfl
  | true => exact absurd (Nat.eq_of_beq_eq_true hb) h
theorem beq_self (a : Nat) : Nat.beq a a = true := Nat.beq_refl a
theorem s_i_ne {σ : aSt} {o k j : Nat} {v : Int32} (h : j ≠ o) : (s_i σ o k v).1 j = σ.1 j := by
  funext b
  simp only [s_i, beq_ne h, cond_false]
theorem s_i_at (σ : aSt) (o k : Nat) (v : Int32) : (s_i σ o k v).1 o = upd (σ.1 o) k v := by
  funext b
  simp only [s_i, beq_self, cond_true, upd]
  by_cases h : b = k
  · rw [h, beq_self, if_pos rfl]; rfl
  · rw [beq_ne h, if_neg h]; rfl
theorem s_l_ne {σ : aSt} {o k j : Nat} {v : Int64} (h : j ≠ o) : (s_l σ o k v).2.1 j = σ.2.1 j := by
  funext b
  simp only [s_l, beq_ne h, cond_false]
theorem s_l_at (σ : aSt) (o k : Nat) (v : Int64) : (s_l σ o k v).2.1 o = vp_updL (σ.2.1 o) k v := by
  funext b
  simp only [s_l, beq_self, cond_true, vp_updL]
  by_cases h : b = k
  · rw [h, beq_self, if_pos rfl]; rfl
  · rw [beq_ne h, if_neg h]; rfl
theorem s_b_ne {σ : aSt} {o k j : Nat} {v : Bool} (h : j ≠ o) : (s_b σ o k v).2.2 j = σ.2.2 j := by
  funext b
  simp only [s_b, beq_ne h, cond_false]
theorem s_b_at (σ : aSt) (o k : Nat) (v : Bool) (b : Nat) : (s_b σ o k v).2.2 o b = if b = k then v else σ.2.2 o b := by
  simp only [s_b, beq_self, cond_true]
  by_cases h : b = k
  · rw [h, beq_self, if_pos rfl]; rfl
  · rw [beq_ne h, if_neg h]; rfl
theorem b2i_ne {x : Int32} (h : x = 0 ∨ x = 1) : b2i (x != 0) = x := by
  rcases h with rfl | rfl <;> decide
/-- what stays: the state beyond the world's objects -/
def aFix (σ0 σ : aSt) : Prop := ∀ o, nW ≤ o → σ.1 o = σ0.1 o ∧ σ.2.1 o = σ0.2.1 o
def aWd (ad : Nat → Nat) (D : va_G) (cA : Nat → ClassId) (σ0 : aSt) (A : Nat → Prop) (σ : aSt) (H : Heap) : Prop := va_P D vwCl (aWs ad cA σ) H ∧ va_D A (aWs ad cA σ) ∧ aFix σ0 σ
def aTys (cA : Nat → ClassId) : List (ClassId × FieldType) := [(cA 0, .int), (cA 1, .long), (cA 2, .byte), (cA 3, .boolean)]
theorem aFix_i {σ0 σ : aSt} {o k : Nat} {v : Int32} (h : aFix σ0 σ) (ho : o < nW) : aFix σ0 (s_i σ o k v) := fun j hj => ⟨(s_i_ne (by omega)).trans (h j hj).1, (h j hj).2⟩
theorem aFix_l {σ0 σ : aSt} {o k : Nat} {v : Int64} (h : aFix σ0 σ) (ho : o < nW) : aFix σ0 (s_l σ o k v) := fun j hj => ⟨(h j hj).1, (s_l_ne (by omega)).trans (h j hj).2⟩
theorem aFix_b {σ0 σ : aSt} {o k : Nat} {v : Bool} (h : aFix σ0 σ) : aFix σ0 (s_b σ o k v) := h
/-- outside the world: constant arrays, statics, texts, the script -/
def aVal (t : Nat) (σ0 : aSt) (o j : Nat) : Value := match t with
  | 1 => .long (σ0.2.1 o j)
  | _ => .int (σ0.1 o j)
def aOut (ad adV : Nat → Nat) (fm : Value) (σ0 : aSt) (A : Nat → Prop) (U : State) (H : Heap) : Prop :=
  (∀ o q, nW ≤ o → o ≠ SCR → OT[o]? = some (.inl q) → va_T (tyc q.1) (ad o) q.2 (aVal q.1 σ0 o) A U H) ∧
  (∃ n, n < 2 ^ 31 ∧ nI n = σ0.1 (SCR + 1) 0 ∧ va_T .int (ad SCR) n (fun j => .int (σ0.1 SCR j)) A U H) ∧
  (∀ q ∈ STT, va_Z q.1 q.2.1 q.2.2.1 (.ref (ad q.2.2.2)) A U H) ∧
  (∀ i bs, slx i = some bs → va_O "java/lang/String" (ad i) A U H ∧ va_OF "java/lang/String" "coder" "B" (.int 0) (ad i) A U H ∧ va_OF "java/lang/String" "value" "[B" (.ref (adV i)) (ad i) A U H ∧ va_T .byte (adV i) bs.length (fun j => .int (bs.getD j 0)) A U H) ∧
  va_Z "java/lang/String" "COMPACT_STRINGS" "Z" (.int 1) A U H ∧ va_Z "jdk/internal/util/Preconditions" "SIOOBE_FORMATTER" "Ljava/util/function/BiFunction;" fm A U H
theorem aOut.kept {ad adV : Nat → Nat} {fm : Value} {σ0 : aSt} {A : Nat → Prop} {U : State} {H H1 : Heap} (h : aOut ad adV fm σ0 A U H) (hq : ∀ a : Nat, a < H.size → ¬ A a → H1[a]? = H[a]?) : aOut ad adV fm σ0 A U H1 := by
  obtain ⟨h1, ⟨n, h2, h3, h4⟩, h5, h6, h7, h8⟩ := h
  exact ⟨fun o q a b c => (h1 o q a b c).kept hq, ⟨n, h2, h3, h4.kept hq⟩, fun q a => (h5 q a).kept hq, fun i bs a => ⟨(h6 i bs a).1.kept hq, (h6 i bs a).2.1.kept hq, (h6 i bs a).2.2.1.kept hq, (h6 i bs a).2.2.2.kept hq⟩, h7.kept hq, h8.kept hq⟩
theorem aOut.moved {ad adV : Nat → Nat} {fm : Value} {σ0 : aSt} {A : Nat → Prop} {u U : State} {H : Heap} (hvm : u.vm.Alike U.vm) (h : aOut ad adV fm σ0 A u H) : aOut ad adV fm σ0 A U H := by
  obtain ⟨h1, ⟨n, h2, h3, h4⟩, h5, h6, h7, h8⟩ := h
  exact ⟨fun o q a b c => va_T.moved hvm (h1 o q a b c), ⟨n, h2, h3, va_T.moved hvm h4⟩, fun q a => va_Z.moved hvm (h5 q a), fun i bs a => ⟨va_O.moved hvm (h6 i bs a).1, va_OF.moved hvm (h6 i bs a).2.1, va_OF.moved hvm (h6 i bs a).2.2.1, va_T.moved hvm (h6 i bs a).2.2.2⟩, va_Z.moved hvm h7, va_Z.moved hvm h8⟩
theorem aOut.narrow {ad adV : Nat → Nat} {fm : Value} {σ0 : aSt} {A B : Nat → Prop} {U : State} {H : Heap} (h : aOut ad adV fm σ0 A U H) (hAB : ∀ q, B q → A q) : aOut ad adV fm σ0 B U H := by
  obtain ⟨h1, ⟨n, h2, h3, h4⟩, h5, h6, h7, h8⟩ := h
  exact ⟨fun o q a b c => (h1 o q a b c).narrow hAB, ⟨n, h2, h3, h4.narrow hAB⟩, fun q a => (h5 q a).narrow hAB, fun i bs a => ⟨(h6 i bs a).1.narrow hAB, (h6 i bs a).2.1.narrow hAB, (h6 i bs a).2.2.1.narrow hAB, (h6 i bs a).2.2.2.narrow hAB⟩, h7.narrow hAB, h8.narrow hAB⟩
/-- the table of objects fits the classes -/
def okOD (o : Nat) : Bool := match OT[o]? with
  | some (.inl q) => Nat.ble q.1 3
  | some (.inr q) => (match vwCl[q.1]? with
    | some r => Nat.beq r.2.2 q.2.length && (List.range q.2.length).all (fun k => (match q.2[k]? with
      | some (some _) => Nat.beq (fty q.1 k) 9
      | some none => (Nat.beq (fty q.1 k) 0 && decide (parseFieldDescriptor (r.2.1 k).2.2.1 = some .int)) || (Nat.beq (fty q.1 k) 1 && decide (parseFieldDescriptor (r.2.1 k).2.2.1 = some .long)) || (Nat.beq (fty q.1 k) 3 && decide (parseFieldDescriptor (r.2.1 k).2.2.1 = some .boolean))
      | none => false))
    | none => false)
  | none => false
theorem okOD_all : (List.range nW).all okOD = true := by decide +kernel
def okOI (o : Nat) : Bool := match OT[o]? with
  | some (.inr _) => Nat.blt o nW
  | _ => true
theorem OT_obj {o ci : Nat} (h : ocl o = ci) (hc : ci < 99) : o < nW ∧ ∃ (rf : List (Option Nat)) (r : vw_C), OT[o]? = some (.inr (ci, rf)) ∧ vwCl[ci]? = some r ∧ r.2.2 = rf.length := by
  have key : ∀ o, okOI o = true := by
    intro o
    by_cases ho : o < OT.length
    · have : (List.range OT.length).all okOI = true := by decide +kernel
      exact List.all_eq_true.mp this o (List.mem_range.mpr ho)
    · unfold okOI
      rw [List.getElem?_eq_none (by omega)]
  unfold ocl at h
  have k1 := key o
  unfold okOI at k1
  cases hO : OT[o]? with
  | none => rw [hO] at h; dsimp only at h; omega
  | some d =>
    cases d with
    | inl q => rw [hO] at h; dsimp only at h; omega
    | inr q =>
      rw [hO] at h k1
      dsimp only at h k1
      have ho : o < nW := by simpa [Nat.blt_eq] using k1
      refine ⟨ho, ?_⟩
      have k2 := List.all_eq_true.mp okOD_all o (List.mem_range.mpr ho)
      unfold okOD at k2
      rw [hO] at k2
      dsimp only at k2
      subst h
      cases hv : vwCl[q.1]? with
      | none => rw [hv] at k2; cases k2
      | some r =>
        rw [hv] at k2
        dsimp only at k2
        rw [Bool.and_eq_true] at k2
        exact ⟨q.2, r, rfl, rfl, Nat.eq_of_beq_eq_true k2.1⟩
/-- a field of an object -/
theorem OT_fld {o ci k : Nat} {rf : List (Option Nat)} {r : vw_C} (ho : o < nW) (hO : OT[o]? = some (.inr (ci, rf))) (hr : vwCl[ci]? = some r) (hk : k < rf.length) :
    (fty ci k = 9 ∧ rf[k]? = some (some (orf o k))) ∨ (rf[k]? = some none ∧ ((fty ci k = 0 ∧ parseFieldDescriptor (r.2.1 k).2.2.1 = some .int) ∨ (fty ci k = 1 ∧ parseFieldDescriptor (r.2.1 k).2.2.1 = some .long) ∨ (fty ci k = 3 ∧ parseFieldDescriptor (r.2.1 k).2.2.1 = some .boolean))) := by
  have k2 := List.all_eq_true.mp okOD_all o (List.mem_range.mpr ho)
  unfold okOD at k2
  rw [hO] at k2
  dsimp only at k2
  rw [hr] at k2
  dsimp only at k2
  rw [Bool.and_eq_true] at k2
  have k3 := List.all_eq_true.mp k2.2 k (List.mem_range.mpr hk)
  have hg : ∃ x, rf[k]? = some x := ⟨rf[k], List.getElem?_eq_getElem hk⟩
  obtain ⟨x, hx⟩ := hg
  rw [hx] at k3
  cases x with
  | some t =>
    dsimp only at k3
    left
    refine ⟨Nat.eq_of_beq_eq_true k3, ?_⟩
    have : orf o k = t := by
      unfold orf
      rw [hO]
      dsimp only
      rw [hx]
    rw [hx, this]
  | none =>
    dsimp only at k3
    right
    refine ⟨hx, ?_⟩
    simp only [Bool.or_eq_true, Bool.and_eq_true, decide_eq_true_eq] at k3
    rcases k3 with (k3 | k3) | k3
    · exact Or.inl ⟨Nat.eq_of_beq_eq_true k3.1, k3.2⟩
    · exact Or.inr (Or.inl ⟨Nat.eq_of_beq_eq_true k3.1, k3.2⟩)
    · exact Or.inr (Or.inr ⟨Nat.eq_of_beq_eq_true k3.1, k3.2⟩)
