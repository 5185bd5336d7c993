section AS
variable {p : Program} {l : Launch} {e : Env} {R : Room} {s : State} {m : MethodId} {args : Array Value} {below : List Frame} {meth : Method} {c : Code} {cells slots : Nat} {Q : State → Prop}
variable {ad adV : Nat → Nat} {fm : Value} {D : va_G} {cA : Nat → ClassId} {σ0 : aSt} {A : Nat → Prop}
/-- what a call comes back with, whatever its kind -/
theorem va_callA {H H0 : Heap} {locs : List Loc} {pc : Nat} {ls : Array Slot} {st0 rest : List Value} {A0 A1 free : Nat → Prop} {Qa : State → Outcome → State → Prop} (hr : va_Run p l e R s m args below meth c H locs cells slots 0 0 (F0 m pc ls st0) rest Qa free) (hF : ∀ st oc t, Qa st oc t → va_F A1 st t) (hS : va_S A0 H0 H locs) (hA : ∀ q, q < H.size → A1 q → A0 q) (hf : ∀ q, free q → A0 q)
    (kk : ∀ (v : Option Value) (st t : State) (H1 : Heap) (locs1 : List Loc), t.heap = H1 → st.heap = H → Qa st (.returned v) t → va_S A0 H0 H1 locs1 → W p l e R s m args below meth c H1 locs1 cells slots Q (F0 m (pc + 3) ls (v.toList ++ rest))) : W p l e R s m args below meth c H locs cells slots Q (F0 m pc ls st0) := by
  intro T hT X
  obtain ⟨v, st₀, t, T', L, h0, X', hL, e1, e2, hq, st⟩ := hr T hT X
  obtain ⟨hz, hk⟩ := hF _ _ _ hq
  rw [h0] at hz hk
  obtain ⟨t2, a1, b1⟩ := kk v st₀ t T'.heap (locs ++ L) e1.symm h0 hq
    ⟨Nat.le_trans hS.1 (by rw [e1]; exact hz), fun q h1 h2 => by rw [e1, hk q (Nat.lt_of_lt_of_le h1 hS.1) (fun z => h2 (hA q (Nat.lt_of_lt_of_le h1 hS.1) z))]; exact hS.2.1 q h1 h2, fun q hq => by
      rcases List.mem_append.mp hq with h | h
      · exact hS.2.2 q h
      · exact hf _ (hL q h)⟩ T' rfl X'
  exact ⟨t2, st t2 a1, b1⟩
theorem aStr.warm {U : State} (hW : s.WarmedH U.vm) (h : aStr ad s) : aStr ad U := fun q hq => vk_R.warm hW (h q hq)
theorem aPre_blind {σ : aSt} {vs : List Value} : FrameBlind (va_Pc (vs.map (cv ad)) (aPre ad adV fm D cA σ0 σ)) := by
  intro a U g mk h
  obtain ⟨h0, h1, h2, h3, h4⟩ := h
  exact ⟨h0, h1, va_K.moved (u := U) (U := U.calling g mk a) (Vm.Alike.refl U.vm) h2, aOut.moved (u := U) (U := U.calling g mk a) (Vm.Alike.refl U.vm) h3, fun q hq => vk_R.same rfl (h4 q hq)⟩
theorem aAW_in {σ : aSt} (hD : va_D A (aWs ad cA σ)) : ∀ q, aAW ad q → A q := by
  rintro q ⟨o, ho, rfl⟩
  have : o < OT.length := Nat.lt_of_lt_of_le ho (by decide +kernel)
  exact hD.2 o _ (aWs_at ho (List.getElem?_eq_getElem this))
theorem aAW_D {σ : aSt} (hD : va_D A (aWs ad cA σ)) : va_D (aAW ad) (aWs ad cA σ) := by
  refine ⟨hD.1, fun k q hk => ?_⟩
  rw [aWs_get] at hk
  by_cases hn : k < nW
  · rw [if_pos hn] at hk
    cases hO : OT[k]? with
    | none => rw [hO] at hk; cases hk
    | some d => rw [hO] at hk; cases hk; exact ⟨k, hn, rfl⟩
  · rw [if_neg hn] at hk
    cases hk
/-- apart cells stay apart whatever they hold, and lie where they lay -/
theorem aWs_D {σ σ' : aSt} (hD : va_D A (aWs ad cA σ)) : va_D A (aWs ad cA σ') := by
  have key : ∀ (k : Nat) (q : Nat × va_E), (aWs ad cA σ')[k]? = some q → ∃ q0 : Nat × va_E, (aWs ad cA σ)[k]? = some q0 ∧ q0.1 = q.1 := by
    intro k q hk
    rw [aWs_get] at hk
    by_cases hn : k < nW
    · rw [if_pos hn] at hk
      cases hO : OT[k]? with
      | none => rw [hO] at hk; cases hk
      | some d =>
        rw [hO] at hk
        cases hk
        exact ⟨_, aWs_at hn hO, rfl⟩
    · rw [if_neg hn] at hk
      cases hk
  refine ⟨fun i j x y hi hj hxy => ?_, fun k q hk => ?_⟩
  · obtain ⟨x0, h1, h2⟩ := key i x hi
    obtain ⟨y0, h3, h4⟩ := key j y hj
    exact hD.1 i j x0 y0 h1 h3 (by rw [h2, h4, hxy])
  · obtain ⟨q0, h1, h2⟩ := key k q hk
    rw [← h2]
    exact hD.2 k q0 h1
variable {own : String} {bytes : ByteArray} {ret : Option FieldType} {nL : Nat} {mt : List aME} {code : List aMI} {C : Nat → List Value → aSt → (Option Value → aSt → Prop) → Prop} {Rr : Option Value → aSt → Prop} {K : Nat → aLo → List Value → aSt → Prop} {rm : Room}
/-- everything that holds while a method runs -/
def aCtx (p : Program) (l : Launch) (R : Room) (s : State) (m : MethodId) (args : Array Value) (c : Code) (cells slots : Nat) (ad adV : Nat → Nat) (fm : Value) (D : va_G) (cA : Nat → ClassId) (σ0 : aSt) (A : Nat → Prop) (own : String) (bytes : ByteArray) (nL : Nat) (mt : List aME) (C : Nat → List Value → aSt → (Option Value → aSt → Prop) → Prop) (rm : Room) : Prop :=
  p.tables.exec = Jvm.exec ∧ c.code = bytes ∧ c.maxLocals = nL ∧ s.vm.findClass own = some m.cls ∧ (∀ w ∈ lw_good, w.before args s = true) ∧ va_K D vwCl (aTys cA) s ∧ aOut ad adV fm σ0 A s s.heap ∧ aStr ad s ∧ (∀ (n : Nat) (me : aME), mt[n]? = some me → ckW me = true) ∧ aCalls l mt C ad adV fm D cA σ0 rm ∧ rm.cells = 0 ∧ rm.slots = 0 ∧ rm.frames + 1 ≤ R.frames ∧ 64 + rm.locals ≤ R.locals ∧ cells ≤ R.cells ∧ slots ≤ R.slots ∧ 7 ≤ R.frames ∧ 400 ≤ R.locals ∧ aLenMet l ∧ aChMet l fm
theorem a_nx (hK : ∀ k L S σ, K k L S σ → aWc p l e R s m args below meth c cells slots Q ad D cA σ0 A nL code k L S σ) {k p' : Nat} (hn : nxt code k p' = true) {L : aLo} {S : List Value} {σ : aSt} {H : Heap} {locs : List Loc} {ls : Array Slot} (h : K k L S σ) (hW : aWd ad D cA σ0 A σ H) (hS : va_S A s.heap H locs) (hL : L.length = nL) (hl : lv_has ls nL (lcn ad 0 L)) : W p l e R s m args below meth c H locs cells slots Q (F0 m p' ls (S.map (cv ad))) := by
  obtain ⟨q', h1, h2⟩ := nxt_of hn
  have := hK k L S σ h H locs ls q' h1 hW hS hL hl
  rw [h2] at this
  exact this
theorem a_jp (hK : ∀ k L S σ, K k L S σ → aWc p l e R s m args below meth c cells slots Q ad D cA σ0 A nL code k L S σ) {k pc : Nat} {off : Int} (hn : tgt code k pc off = true) {L : aLo} {S : List Value} {σ : aSt} {H : Heap} {locs : List Loc} {ls : Array Slot} (hW : aWd ad D cA σ0 A σ H) (hS : va_S A s.heap H locs) (hL : L.length = nL) (hl : lv_has ls nL (lcn ad 0 L)) : ∃ t : Nat, (pc : Int) + off = (t : Int) ∧ (K k L S σ → W p l e R s m args below meth c H locs cells slots Q (F0 m t ls (S.map (cv ad)))) := by
  obtain ⟨q', h1, h2⟩ := tgt_of hn
  exact ⟨q'.1, h2, fun h => hK k L S σ h H locs ls q' h1 hW hS hL hl⟩
theorem a_get (X : aCtx p l R s m args c cells slots ad adV fm D cA σ0 A own bytes nL mt C rm) {q : aMI} {i o : Nat} {L : aLo} {S : List Value} {σ : aSt} {H : Heap} {locs : List Loc} {ls : Array Slot} {k : Nat} (hK : ∀ k L S σ, K k L S σ → aWc p l e R s m args below meth c cells slots Q ad D cA σ0 A nL code k L S σ) (hd : decode bytes q.1 = .ok (.getfield i, 3)) (hca : ckA mt own ret code k (q.1, .getfield i, q.2.2) = true)
    (hs : Nat.beq (ocl o) q.2.2.2.1 = true ∧ (match fty q.2.2.2.1 q.2.2.1 with | 0 => K (k + 1) L (.int (σ.1 o q.2.2.1) :: S) σ | 1 => K (k + 1) L (.long (σ.2.1 o q.2.2.1) :: S) σ | 3 => K (k + 1) L (.int (b2i (σ.2.2 o q.2.2.1)) :: S) σ | 9 => K (k + 1) L (.ref (orf o q.2.2.1) :: S) σ | _ => False))
    (hW : aWd ad D cA σ0 A σ H) (hS : va_S A s.heap H locs) (hL : L.length = nL) (hl : lv_has ls nL (lcn ad 0 L)) : W p l e R s m args below meth c H locs cells slots Q (F0 m q.1 ls (.ref (ad o) :: S.map (cv ad))) := by
  obtain ⟨hx, hb, hml, hown, hts, hKK, -⟩ := X
  obtain ⟨pc, act, a, b, w, v, ts⟩ := q
  dsimp only at *
  obtain ⟨hoc, hs⟩ := hs
  have hoc := Nat.eq_of_beq_eq_true hoc
  dsimp only [ckA] at hca
  rw [Bool.and_eq_true] at hca
  obtain ⟨hca, hn⟩ := hca
  cases hv : vwCl[b]? with
  | none => rw [hv] at hca; cases hca
  | some r =>
    rw [hv] at hca
    dsimp only at hca
    simp only [Bool.and_eq_true, decide_eq_true_eq] at hca
    obtain ⟨⟨hk, h99⟩, hwd⟩ := hca
    obtain ⟨ho, rf, r', hO, hr, hlen⟩ := OT_obj hoc h99
    obtain rfl : r = r' := Option.some.inj (hv.symm.trans hr)
    obtain ⟨hin, -⟩ := aCf_all b r hr
    obtain ⟨C0, T, N⟩ := r
    dsimp only at *
    have he : (aWs ad cA σ)[o]? = some (ad o, .inr (b, aFs ad σ o b rf)) := aWs_at ho hO
    have hlk := hts _ (wd_good hwd)
    have go : ∀ v, (aFs ad σ o b rf)[a]? = some (cv ad v) → K (k + 1) L (v :: S) σ → W p l e R s m args below meth c H locs cells slots Q (F0 m pc ls (.ref (ad o) :: S.map (cv ad))) := by
      intro v hv9 hk9
      exact va_get (D := D) (ci := b) (C := C0) (T := T) (N := N) hx hb hts hin hown hKK hW.1 o he hr a hk hlk (fun _ h9 => h9) hv9 hd (a_nx hK hn hk9 hW hS hL hl)
    have hg : ∀ x, rf[a]? = some x → (aFs ad σ o b rf)[a]? = some (aFv ad σ o b a x) := by
      intro x hx9
      rw [aFs, List.getElem?_mapIdx, hx9]
      rfl
    rcases OT_fld ho hO hr (show a < rf.length by rw [← hlen]; exact hk) with ⟨h9, h8⟩ | ⟨h8, h9⟩
    · rw [h9] at hs
      exact go (.ref (orf o a)) (hg _ h8) hs
    · rcases h9 with ⟨h9, -⟩ | ⟨h9, -⟩ | ⟨h9, -⟩
      · rw [h9] at hs
        exact go _ (by rw [hg _ h8]; simp only [aFv, h9]; rfl) hs
      · rw [h9] at hs
        exact go _ (by rw [hg _ h8]; simp only [aFv, h9]; rfl) hs
      · rw [h9] at hs
        exact go _ (by rw [hg _ h8]; simp only [aFv, h9]; rfl) hs
theorem a_put (X : aCtx p l R s m args c cells slots ad adV fm D cA σ0 A own bytes nL mt C rm) {q : aMI} {i o t : Nat} {L : aLo} {S : List Value} {σ σ' : aSt} {x : Value} {H : Heap} {locs : List Loc} {ls : Array Slot} {k : Nat} {ty : FieldType} (hK : ∀ k L S σ, K k L S σ → aWc p l e R s m args below meth c cells slots Q ad D cA σ0 A nL code k L S σ) (hd : decode bytes q.1 = .ok (.putfield i, 3)) (hca : ckA mt own ret code k (q.1, .putfield i, q.2.2) = true) (hoc : ocl o = q.2.2.2.1) (hft : fty q.2.2.2.1 q.2.2.1 = t) (ht : t ≠ 9)
    (hty : t = 0 ∧ ty = .int ∨ t = 1 ∧ ty = .long ∨ t = 3 ∧ ty = .boolean) (hn1 : narrow ty x = x) (hn2 : fits ty x = true) (hcv : cv ad x = x)
    (hs : K (k + 1) L S σ') (hσ1 : ∀ j, j ≠ o → σ.1 j = σ'.1 j) (hσ2 : ∀ j, j ≠ o → σ.2.1 j = σ'.2.1 j) (hσ3 : ∀ j, j ≠ o → σ.2.2 j = σ'.2.2 j) (hσ4 : ∀ j, j ≠ q.2.2.1 → σ.1 o j = σ'.1 o j ∧ σ.2.1 o j = σ'.2.1 o j ∧ σ.2.2 o j = σ'.2.2 o j) (hσ5 : aFv ad σ' o q.2.2.2.1 q.2.2.1 none = x) (hFx : o < nW → aFix σ0 σ → aFix σ0 σ')
    (hW : aWd ad D cA σ0 A σ H) (hS : va_S A s.heap H locs) (hL : L.length = nL) (hl : lv_has ls nL (lcn ad 0 L)) : W p l e R s m args below meth c H locs cells slots Q (F0 m q.1 ls (x :: .ref (ad o) :: S.map (cv ad))) := by
  obtain ⟨hx, hb, hml, hown, hts, hKK, -⟩ := X
  obtain ⟨pc, act, a, b, w, v, ts⟩ := q
  dsimp only at *
  dsimp only [ckA] at hca
  rw [Bool.and_eq_true] at hca
  obtain ⟨hca, hn⟩ := hca
  cases hv : vwCl[b]? with
  | none => rw [hv] at hca; cases hca
  | some r =>
    rw [hv] at hca
    dsimp only at hca
    simp only [Bool.and_eq_true, decide_eq_true_eq] at hca
    obtain ⟨⟨⟨hk, h99⟩, hwd⟩, hfin⟩ := hca
    obtain ⟨ho, rf, r', hO, hr, hlen⟩ := OT_obj hoc h99
    obtain rfl : r = r' := Option.some.inj (hv.symm.trans hr)
    obtain ⟨hin, ⟨ty0, hty0⟩, hnm⟩ := aCf_all b r hr
    obtain ⟨C0, T, N⟩ := r
    dsimp only at *
    have he : (aWs ad cA σ)[o]? = some (ad o, .inr (b, aFs ad σ o b rf)) := aWs_at ho hO
    have hlk := hts _ (wd_good hwd)
    have h8 : rf[a]? = some none ∧ parseFieldDescriptor (T a).2.2.1 = some ty := by
      rcases OT_fld ho hO hr (show a < rf.length by rw [← hlen]; exact hk) with ⟨h9, -⟩ | ⟨h8, h9⟩
      · exact absurd (hft.symm.trans h9) ht
      · refine ⟨h8, ?_⟩
        rcases h9 with ⟨h9, h7⟩ | ⟨h9, h7⟩ | ⟨h9, h7⟩ <;> rcases hty with ⟨h5, h6⟩ | ⟨h5, h6⟩ | ⟨h5, h6⟩ <;> first | (rw [h6]; exact h7) | (exfalso; rw [hft, h5] at h9; cases h9)
    have hset : (aFs ad σ o b rf).set a x = aFs ad σ' o b rf := by
      apply List.ext_getElem?
      intro j
      rw [List.getElem?_set]
      by_cases hj : a = j
      · subst hj
        rw [if_pos rfl, if_pos (by rw [aFs, List.length_mapIdx, ← hlen]; exact hk), aFs, List.getElem?_mapIdx, h8.1]
        exact congrArg some hσ5.symm
      · rw [if_neg hj, aFs, aFs, List.getElem?_mapIdx, List.getElem?_mapIdx]
        obtain ⟨e1, e2, e3⟩ := hσ4 j (fun q => hj q.symm)
        cases rf[j]? with
        | none => rfl
        | some y => exact congrArg some (aFv_congr e1 e2 e3)
    refine va_put (D := D) (ci := b) (C := C0) (T := T) (N := N) (ty := ty) hx hb hts hin ty0 hty0 hnm hown hKK hW.1 hW.2.1 hS o he hr a hk hlk (fun _ h9 => h9) hfin h8.2 hn1 hn2 (by rw [aFs, List.length_mapIdx, ← hlen]; exact hk) hd (fun H1 locs1 hP1 hD1 hS1 => ?_)
    have hE : (Sum.inr (b, aFs ad σ' o b rf) : va_E) = aCell ad cA σ' o (.inr (b, rf)) := rfl
    rw [hset, aWs_set (σ' := σ') ho hO hE hσ1 hσ2 hσ3] at hP1 hD1
    exact a_nx hK hn hs ⟨hP1, hD1, hFx ho hW.2.2⟩ hS1 hL hl
theorem a_in {σ : aSt} {o t : Nat} {i : Int32} (hF : aFix σ0 σ) (h : inb t σ o i) (ho : o < nW) : vp_in i (oln o) := by
  obtain ⟨-, h1, h2⟩ := h
  rw [lenI_out hF (fun q => by subst q; exact absurd ho (by decide))] at h2
  exact inb_vp (oln_small o) h1 h2
theorem aTy_at (cA : Nat → ClassId) : ∀ t : Nat, t < 4 → (aTys cA)[t]? = some (cA t, tyc t)
  | 0, _ => rfl
  | 1, _ => rfl
  | 2, _ => rfl
  | 3, _ => rfl
  | n + 4, h => absurd h (by omega)
theorem OT_out : ∀ o, nW ≤ o → (oty o = 0 ∨ oty o = 1 ∨ oty o = 9) ∧ (oty o = 9 ∨ o ≤ SCR) := by
  intro o ho
  by_cases h : o < OT.length
  · have : (List.range OT.length).all (fun o => decide (nW ≤ o → (oty o = 0 ∨ oty o = 1 ∨ oty o = 9) ∧ (oty o = 9 ∨ o ≤ SCR))) = true := by decide +kernel
    have := List.all_eq_true.mp this o (List.mem_range.mpr h)
    exact of_decide_eq_true this ho
  · have : oty o = 9 := by
      unfold oty
      rw [List.getElem?_eq_none (by omega)]
    exact ⟨Or.inr (Or.inr this), Or.inl this⟩
theorem oty_scr : oty SCR = 0 := by decide +kernel
theorem a_iaload (X : aCtx p l R s m args c cells slots ad adV fm D cA σ0 A own bytes nL mt C rm) {pc o : Nat} {i : Int32} {L : aLo} {S : List Value} {σ : aSt} {H : Heap} {locs : List Loc} {ls : Array Slot} {k : Nat} (hK : ∀ k L S σ, K k L S σ → aWc p l e R s m args below meth c cells slots Q ad D cA σ0 A nL code k L S σ) (hd : decode bytes pc = .ok (.iaload, 1)) (hn : nxt code (k + 1) (pc + 1) = true) (hin : inb 0 σ o i) (hs : K (k + 1) L (.int (σ.1 o i.toNatClampNeg) :: S) σ)
    (hW : aWd ad D cA σ0 A σ H) (hS : va_S A s.heap H locs) (hL : L.length = nL) (hl : lv_has ls nL (lcn ad 0 L)) : W p l e R s m args below meth c H locs cells slots Q (F0 m pc ls (.int i :: .ref (ad o) :: S.map (cv ad))) := by
  obtain ⟨hx, hb, hml, hown, hts, hKK, hO, -⟩ := X
  have hOT := oty_arr hin.1 (by decide)
  by_cases ho : o < nW
  · exact va_iald hx hb hKK hW.1 o 0 (f := σ.1 o) (aWs_at ho hOT) (aTy_at cA 0 (by decide)) (a_in hW.2.2 hin ho) hd (a_nx hK hn hs hW hS hL hl)
  · have ho : nW ≤ o := by omega
    have hfix := (hW.2.2 o ho).1
    obtain ⟨-, h1, h2⟩ := hin
    by_cases hsc : o = SCR
    · subst hsc
      obtain ⟨-, ⟨n, hn1, hn2, hT⟩, -⟩ := hO
      rw [lenI_scr hW.2.2, ← hn2] at h2
      exact va_ti hx hb hT hS (inb_vp hn1 h1 h2) (by rw [← hfix]; rfl) hd (a_nx hK hn hs hW hS hL hl)
    · have hT := hO.1 o _ ho hsc hOT
      rw [lenI_out hW.2.2 hsc] at h2
      exact va_ti hx hb hT hS (inb_vp (oln_small o) h1 h2) (by dsimp only [aVal]; rw [← hfix]; rfl) hd (a_nx hK hn hs hW hS hL hl)
theorem a_laload (X : aCtx p l R s m args c cells slots ad adV fm D cA σ0 A own bytes nL mt C rm) {pc o : Nat} {i : Int32} {L : aLo} {S : List Value} {σ : aSt} {H : Heap} {locs : List Loc} {ls : Array Slot} {k : Nat} (hK : ∀ k L S σ, K k L S σ → aWc p l e R s m args below meth c cells slots Q ad D cA σ0 A nL code k L S σ) (hd : decode bytes pc = .ok (.laload, 1)) (hn : nxt code (k + 1) (pc + 1) = true) (hin : inb 1 σ o i) (hs : K (k + 1) L (.long (σ.2.1 o i.toNatClampNeg) :: S) σ)
    (hW : aWd ad D cA σ0 A σ H) (hS : va_S A s.heap H locs) (hL : L.length = nL) (hl : lv_has ls nL (lcn ad 0 L)) : W p l e R s m args below meth c H locs cells slots Q (F0 m pc ls (.int i :: .ref (ad o) :: S.map (cv ad))) := by
  obtain ⟨hx, hb, hml, hown, hts, hKK, hO, -⟩ := X
  have hOT := oty_arr hin.1 (by decide)
  by_cases ho : o < nW
  · exact va_lald hx hb hKK hW.1 o 1 (f := σ.2.1 o) (aWs_at ho hOT) (aTy_at cA 1 (by decide)) (a_in hW.2.2 hin ho) hd (a_nx hK hn hs hW hS hL hl)
  · have ho : nW ≤ o := by omega
    have hfix := (hW.2.2 o ho).2
    obtain ⟨-, h1, h2⟩ := hin
    have hsc : o ≠ SCR := by
      intro hsc
      rw [hsc] at hOT
      exact absurd hOT (by decide +kernel)
    have hT := hO.1 o _ ho hsc hOT
    rw [lenI_out hW.2.2 hsc] at h2
    exact va_tl hx hb hT hS (inb_vp (oln_small o) h1 h2) (by dsimp only [aVal]; rw [← hfix]; rfl) hd (a_nx hK hn hs hW hS hL hl)
theorem a_baload2 (X : aCtx p l R s m args c cells slots ad adV fm D cA σ0 A own bytes nL mt C rm) {pc o : Nat} {i : Int32} {L : aLo} {S : List Value} {σ : aSt} {H : Heap} {locs : List Loc} {ls : Array Slot} {k : Nat} (hK : ∀ k L S σ, K k L S σ → aWc p l e R s m args below meth c cells slots Q ad D cA σ0 A nL code k L S σ) (hd : decode bytes pc = .ok (.baload, 1)) (hn : nxt code (k + 1) (pc + 1) = true) (hin : inb 2 σ o i) (hs : K (k + 1) L (.int (σ.1 o i.toNatClampNeg) :: S) σ)
    (hW : aWd ad D cA σ0 A σ H) (hS : va_S A s.heap H locs) (hL : L.length = nL) (hl : lv_has ls nL (lcn ad 0 L)) : W p l e R s m args below meth c H locs cells slots Q (F0 m pc ls (.int i :: .ref (ad o) :: S.map (cv ad))) := by
  obtain ⟨hx, hb, hml, hown, hts, hKK, hO, -⟩ := X
  have hOT := oty_arr hin.1 (by decide)
  by_cases ho : o < nW
  · exact va_bald hx hb hKK hW.1 o 2 (f := σ.1 o) (aWs_at ho hOT) (aTy_at cA 2 (by decide)) (a_in hW.2.2 hin ho) hd (a_nx hK hn hs hW hS hL hl)
  · have := (OT_out o (by omega)).1
    rw [hin.1] at this
    exact absurd this (by decide)
theorem a_baload3 (X : aCtx p l R s m args c cells slots ad adV fm D cA σ0 A own bytes nL mt C rm) {pc o : Nat} {i : Int32} {L : aLo} {S : List Value} {σ : aSt} {H : Heap} {locs : List Loc} {ls : Array Slot} {k : Nat} (hK : ∀ k L S σ, K k L S σ → aWc p l e R s m args below meth c cells slots Q ad D cA σ0 A nL code k L S σ) (hd : decode bytes pc = .ok (.baload, 1)) (hn : nxt code (k + 1) (pc + 1) = true) (hin : inb 3 σ o i) (hs : K (k + 1) L (.int (b2i (σ.2.2 o i.toNatClampNeg)) :: S) σ)
    (hW : aWd ad D cA σ0 A σ H) (hS : va_S A s.heap H locs) (hL : L.length = nL) (hl : lv_has ls nL (lcn ad 0 L)) : W p l e R s m args below meth c H locs cells slots Q (F0 m pc ls (.int i :: .ref (ad o) :: S.map (cv ad))) := by
  obtain ⟨hx, hb, hml, hown, hts, hKK, hO, -⟩ := X
  have hOT := oty_arr hin.1 (by decide)
  by_cases ho : o < nW
  · exact va_zald hx hb hKK hW.1 o 3 (f := fun j => b2i (σ.2.2 o j)) (aWs_at ho hOT) (aTy_at cA 3 (by decide)) (a_in hW.2.2 hin ho) hd (a_nx hK hn hs hW hS hL hl)
  · have := (OT_out o (by omega)).1
    rw [hin.1] at this
    exact absurd this (by decide)
theorem a_iastore (X : aCtx p l R s m args c cells slots ad adV fm D cA σ0 A own bytes nL mt C rm) {pc o : Nat} {i : Int32} {x : Int32} {L : aLo} {S : List Value} {σ : aSt} {H : Heap} {locs : List Loc} {ls : Array Slot} {k : Nat} (hK : ∀ k L S σ, K k L S σ → aWc p l e R s m args below meth c cells slots Q ad D cA σ0 A nL code k L S σ) (hd : decode bytes pc = .ok (.iastore, 1)) (hn : nxt code (k + 1) (pc + 1) = true) (hin : inb 0 σ o i) (ho : o < nW) (hs : K (k + 1) L S (s_i σ o i.toNatClampNeg (x)))
    (hW : aWd ad D cA σ0 A σ H) (hS : va_S A s.heap H locs) (hL : L.length = nL) (hl : lv_has ls nL (lcn ad 0 L)) : W p l e R s m args below meth c H locs cells slots Q (F0 m pc ls (.int x :: .int i :: .ref (ad o) :: S.map (cv ad))) := by
  obtain ⟨hx, hb, hml, hown, hts, hKK, hO, -⟩ := X
  have hOT := oty_arr hin.1 (by decide)
  refine va_iast hx hb hKK hW.1 hW.2.1 hS o 0 (aWs_at ho hOT) (aTy_at cA 0 (by decide)) (a_in hW.2.2 hin ho) hd (fun H1 locs1 hP1 hD1 hS1 => ?_)
  have he : (Sum.inl (cA 0, oln o, .inl (upd (σ.1 o) i.toNatClampNeg x)) : va_E) = aCell ad cA (s_i σ o i.toNatClampNeg (x)) o (.inl (0, oln o)) := by simp only [aCell, aArr, s_i_at]
  dsimp only at hP1 hD1
  rw [aWs_set (σ := σ) (σ' := s_i σ o i.toNatClampNeg (x)) ho hOT he (fun j hj => (s_i_ne hj).symm) (fun _ _ => rfl) (fun _ _ => rfl)] at hP1 hD1
  exact a_nx hK hn hs ⟨hP1, hD1, aFix_i hW.2.2 ho⟩ hS1 hL hl
theorem a_lastore (X : aCtx p l R s m args c cells slots ad adV fm D cA σ0 A own bytes nL mt C rm) {pc o : Nat} {i : Int32} {x : Int64} {L : aLo} {S : List Value} {σ : aSt} {H : Heap} {locs : List Loc} {ls : Array Slot} {k : Nat} (hK : ∀ k L S σ, K k L S σ → aWc p l e R s m args below meth c cells slots Q ad D cA σ0 A nL code k L S σ) (hd : decode bytes pc = .ok (.lastore, 1)) (hn : nxt code (k + 1) (pc + 1) = true) (hin : inb 1 σ o i) (ho : o < nW) (hs : K (k + 1) L S (s_l σ o i.toNatClampNeg (x)))
    (hW : aWd ad D cA σ0 A σ H) (hS : va_S A s.heap H locs) (hL : L.length = nL) (hl : lv_has ls nL (lcn ad 0 L)) : W p l e R s m args below meth c H locs cells slots Q (F0 m pc ls (.long x :: .int i :: .ref (ad o) :: S.map (cv ad))) := by
  obtain ⟨hx, hb, hml, hown, hts, hKK, hO, -⟩ := X
  have hOT := oty_arr hin.1 (by decide)
  refine va_last hx hb hKK hW.1 hW.2.1 hS o 1 (aWs_at ho hOT) (aTy_at cA 1 (by decide)) (a_in hW.2.2 hin ho) hd (fun H1 locs1 hP1 hD1 hS1 => ?_)
  have he : (Sum.inl (cA 1, oln o, .inr (.inl (vp_updL (σ.2.1 o) i.toNatClampNeg x))) : va_E) = aCell ad cA (s_l σ o i.toNatClampNeg (x)) o (.inl (1, oln o)) := by simp only [aCell, aArr, s_l_at]
  dsimp only at hP1 hD1
  rw [aWs_set (σ := σ) (σ' := s_l σ o i.toNatClampNeg (x)) ho hOT he (fun _ _ => rfl) (fun j hj => (s_l_ne hj).symm) (fun _ _ => rfl)] at hP1 hD1
  exact a_nx hK hn hs ⟨hP1, hD1, aFix_l hW.2.2 ho⟩ hS1 hL hl
theorem a_bastore2 (X : aCtx p l R s m args c cells slots ad adV fm D cA σ0 A own bytes nL mt C rm) {pc o : Nat} {i : Int32} {x : Int32} {L : aLo} {S : List Value} {σ : aSt} {H : Heap} {locs : List Loc} {ls : Array Slot} {k : Nat} (hK : ∀ k L S σ, K k L S σ → aWc p l e R s m args below meth c cells slots Q ad D cA σ0 A nL code k L S σ) (hd : decode bytes pc = .ok (.bastore, 1)) (hn : nxt code (k + 1) (pc + 1) = true) (hin : inb 2 σ o i) (ho : o < nW) (hs : K (k + 1) L S (s_i σ o i.toNatClampNeg (x.toInt8.toInt32)))
    (hW : aWd ad D cA σ0 A σ H) (hS : va_S A s.heap H locs) (hL : L.length = nL) (hl : lv_has ls nL (lcn ad 0 L)) : W p l e R s m args below meth c H locs cells slots Q (F0 m pc ls (.int x :: .int i :: .ref (ad o) :: S.map (cv ad))) := by
  obtain ⟨hx, hb, hml, hown, hts, hKK, hO, -⟩ := X
  have hOT := oty_arr hin.1 (by decide)
  refine va_bast hx hb hKK hW.1 hW.2.1 hS o 2 (aWs_at ho hOT) (aTy_at cA 2 (by decide)) (a_in hW.2.2 hin ho) hd (fun H1 locs1 hP1 hD1 hS1 => ?_)
  have he : (Sum.inl (cA 2, oln o, .inl (upd (σ.1 o) i.toNatClampNeg (vp_nar .byte x))) : va_E) = aCell ad cA (s_i σ o i.toNatClampNeg (x.toInt8.toInt32)) o (.inl (2, oln o)) := by simp only [aCell, aArr, s_i_at, vp_nar_byte]
  dsimp only at hP1 hD1
  rw [aWs_set (σ := σ) (σ' := s_i σ o i.toNatClampNeg (x.toInt8.toInt32)) ho hOT he (fun j hj => (s_i_ne hj).symm) (fun _ _ => rfl) (fun _ _ => rfl)] at hP1 hD1
  exact a_nx hK hn hs ⟨hP1, hD1, aFix_i hW.2.2 ho⟩ hS1 hL hl
theorem a_bastore3 (X : aCtx p l R s m args c cells slots ad adV fm D cA σ0 A own bytes nL mt C rm) {pc o : Nat} {i : Int32} {x : Int32} {L : aLo} {S : List Value} {σ : aSt} {H : Heap} {locs : List Loc} {ls : Array Slot} {k : Nat} (hK : ∀ k L S σ, K k L S σ → aWc p l e R s m args below meth c cells slots Q ad D cA σ0 A nL code k L S σ) (hd : decode bytes pc = .ok (.bastore, 1)) (hn : nxt code (k + 1) (pc + 1) = true) (hin : inb 3 σ o i) (ho : o < nW) (hx1 : x = 0 ∨ x = 1) (hs : K (k + 1) L S (s_b σ o i.toNatClampNeg (x != 0)))
    (hW : aWd ad D cA σ0 A σ H) (hS : va_S A s.heap H locs) (hL : L.length = nL) (hl : lv_has ls nL (lcn ad 0 L)) : W p l e R s m args below meth c H locs cells slots Q (F0 m pc ls (.int x :: .int i :: .ref (ad o) :: S.map (cv ad))) := by
  obtain ⟨hx, hb, hml, hown, hts, hKK, hO, -⟩ := X
  have hOT := oty_arr hin.1 (by decide)
  refine va_zast hx hb hKK hW.1 hW.2.1 hS o 3 (aWs_at ho hOT) (aTy_at cA 3 (by decide)) (a_in hW.2.2 hin ho) hd (fun H1 locs1 hP1 hD1 hS1 => ?_)
  have he : (Sum.inl (cA 3, oln o, .inl (upd (fun j => b2i (σ.2.2 o j)) i.toNatClampNeg (vp_nar .boolean x))) : va_E) = aCell ad cA (s_b σ o i.toNatClampNeg (x != 0)) o (.inl (3, oln o)) := by
      have h7 : vp_nar .boolean x = x := by rcases hx1 with rfl | rfl <;> rfl
      rw [h7]
      simp only [aCell, aArr]
      congr 4
      funext j
      rw [s_b_at]
      simp only [upd]
      by_cases h6 : j = i.toNatClampNeg
      · rw [if_pos h6, if_pos h6, b2i_ne hx1]
      · rw [if_neg h6, if_neg h6]
  dsimp only at hP1 hD1
  rw [aWs_set (σ := σ) (σ' := s_b σ o i.toNatClampNeg (x != 0)) ho hOT he (fun _ _ => rfl) (fun _ _ => rfl) (fun j hj => (s_b_ne hj).symm)] at hP1 hD1
  exact a_nx hK hn hs ⟨hP1, hD1, aFix_b hW.2.2⟩ hS1 hL hl
end AS
