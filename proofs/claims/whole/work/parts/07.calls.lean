theorem w_len_i : Jvm.Cond.instanceMethod aYlen ∈ lw_good := wd_good (w := 536) (by decide +kernel)
theorem w_len_s : Jvm.Cond.selects "java/lang/String" aYlen aYlen ∈ lw_good := wd_good (w := 537) (by decide +kernel)
theorem w_ch_i : Jvm.Cond.instanceMethod aYch ∈ lw_good := wd_good (w := 546) (by decide +kernel)
theorem w_ch_s : Jvm.Cond.selects "java/lang/String" aYch aYch ∈ lw_good := wd_good (w := 547) (by decide +kernel)
theorem w_str : Jvm.Cond.initialized "java/lang/String" ∈ lw_good := wd_good (w := 119) (by decide +kernel)
theorem w_cp_n : Jvm.Cond.native arraycopyName ∈ lw_good := wd_good (w := 940) (by decide +kernel)
theorem w_cp_s : Jvm.Cond.static arraycopyName ∈ lw_good := wd_good (w := 939) (by decide +kernel)
theorem w_cp_i : Jvm.Cond.initialized "java/lang/System" ∈ lw_good := wd_good (w := 127) (by decide +kernel)
theorem w_math : Jvm.Cond.initialized "java/lang/Math" ∈ lw_good := wd_good (w := 118) (by decide +kernel)
theorem w_max_s : Jvm.Cond.static Lib.Math.max.name ∈ lw_good := wd_good (w := 596) (by decide +kernel)
theorem w_max_c : Jvm.Cond.code Lib.Math.max.name Lib.Math.max.code 2 (some .int) ∈ lw_good := wd_good (w := 597) (by decide +kernel)
theorem w_min_s : Jvm.Cond.static Lib.Math.min.name ∈ lw_good := wd_good (w := 524) (by decide +kernel)
theorem w_min_c : Jvm.Cond.code Lib.Math.min.name Lib.Math.min.code 2 (some .int) ∈ lw_good := wd_good (w := 525) (by decide +kernel)
theorem w_abs_s : Jvm.Cond.static Lib.Math.abs.name ∈ lw_good := wd_good (w := 653) (by decide +kernel)
theorem w_abs_c : Jvm.Cond.code Lib.Math.abs.name Lib.Math.abs.code 1 (some .int) ∈ lw_good := wd_good (w := 654) (by decide +kernel)
theorem w_max_long_s : Jvm.Cond.static Lib.MathLoose.max_long.x ∈ lw_good := wd_good (w := 1067) (by decide +kernel)
theorem w_max_long_c : Jvm.Cond.code Lib.MathLoose.max_long.x Lib.MathLoose.max_long.code 4 (some .long) ∈ lw_good := wd_good (w := 1068) (by decide +kernel)
theorem w_abs_long_s : Jvm.Cond.static Lib.MathLoose.abs_long.x ∈ lw_good := wd_good (w := 822) (by decide +kernel)
theorem w_abs_long_c : Jvm.Cond.code Lib.MathLoose.abs_long.x Lib.MathLoose.abs_long.code 2 (some .long) ∈ lw_good := wd_good (w := 823) (by decide +kernel)
section AS
variable {p : Program} {l : Launch} {e : Env} {R : Room} {s : State} {m : MethodId} {args : Array Value} {below : List Frame} {meth : Method} {c : Code} {cells slots : Nat} {Q : State → Prop}
variable {ad adV : Nat → Nat} {fm : Value} {D : va_G} {cA : Nat → ClassId} {σ0 : aSt} {A : Nat → Prop}
variable {own : String} {bytes : ByteArray} {ret : Option FieldType} {nL : Nat} {mt : List aME} {code : List aMI} {C : Nat → List Value → aSt → (Option Value → aSt → Prop) → Prop} {Rr : Option Value → aSt → Prop} {K : Nat → aLo → List Value → aSt → Prop} {rm : Room}
theorem a_ldcwS {H : Heap} {locs : List Loc} {pc : Nat} {ls : Array Slot} {rest : List Value} {cc : ByteArray} (hexec : p.tables.exec = Jvm.exec) (hb : c.code = cc) {tx : String} {index q : Nat} (hown : s.vm.findClass own = some m.cls) (hZ : vk_R own index tx q s) (hdg : decode cc pc = .ok (.ldc_w index, 3)) (k : W p l e R s m args below meth c H locs cells slots Q (F0 m (pc + 3) ls (.ref q :: rest))) : W p l e R s m args below meth c H locs cells slots Q (F0 m pc ls rest) := by
  intro T hT X
  obtain ⟨t, a1, b1⟩ := k T hT X
  refine ⟨t, ?_, b1⟩
  obtain ⟨kc, cf, i, a', hk, hcf, hcp, -, hr, hev'⟩ := Cond.stringRef_spec hown hZ.1
  cases hZ.2.symm.trans hev'
  obtain ⟨k', hk', he⟩ := X.warmed.alike.2.2 _ _ hk
  have hr' : k'.resolved[index]? = some (some (.string q)) := by
    rcases X.warmed.entry hk hk' index with h | ⟨h, -⟩
    · rw [h]; exact hr
    · rw [hr] at h; cases h
  jvm_step X.here [X.here.top, hexec, hb, hdg, ldc_w.wp_string (e := e) (s := T) (f := F0 m pc ls rest) X.here.top hk' (by rw [he]; exact hcf) hcp hr']
  exact a1
/-- the state of the world at a call -/
theorem a_pre (X : aCtx p l R s m args c cells slots ad adV fm D cA σ0 A own bytes nL mt C rm) {σ : aSt} {H : Heap} {locs : List Loc} (hW : aWd ad D cA σ0 A σ H) (hS : va_S A s.heap H locs) {U : State} (hU : U.heap = H) (hv : s.WarmedH U.vm) : aPre ad adV fm D cA σ0 σ U := by
  obtain ⟨-, -, -, -, -, hKK, hO, hSt, -⟩ := X
  refine ⟨?_, va_K.moved hv.alike hKK, ?_, aStr.warm hv hSt⟩
  · rw [hU]
    exact ⟨hW.1, aAW_D hW.2.1, hW.2.2⟩
  · rw [hU]
    exact ((hO.kept (fun q h1 h2 => hS.2.1 q h1 h2)).narrow (aAW_in hW.2.1)).moved hv.alike
theorem a_out (X : aCtx p l R s m args c cells slots ad adV fm D cA σ0 A own bytes nL mt C rm) {H : Heap} {locs : List Loc} (hS : va_S A s.heap H locs) {U : State} (hU : U.heap = H) (hv : s.WarmedH U.vm) : aOut ad adV fm σ0 A U U.heap := by
  obtain ⟨-, -, -, -, -, hKK, hO, hSt, -⟩ := X
  rw [hU]
  exact (hO.kept (fun q h1 h2 => hS.2.1 q h1 h2)).moved hv.alike
theorem a_words (X : aCtx p l R s m args c cells slots ad adV fm D cA σ0 A own bytes nL mt C rm) {ws : List Jvm.Cond} (h : ∀ w ∈ ws, w ∈ lw_good) : ∀ w ∈ ws, ∀ (a' : Array Value) (U : State), s.WarmedH U.vm → w.before a' U = true := by
  obtain ⟨-, -, -, -, hts, -⟩ := X
  exact pay_in (big := lw_good) hts (fun w hw => ⟨h w hw, (good_in (h w hw)).2⟩)
theorem a_call {w : Nat} (X : aCtx p l R s m args c cells slots ad adV fm D cA σ0 A own bytes nL mt C rm) {pc n mi i : Nat} {me : aME} {L : aLo} {S : List Value} {σ : aSt} {H : Heap} {locs : List Loc} {ls : Array Slot} {k : Nat} (hK : ∀ k L S σ, K k L S σ → aWc p l e R s m args below meth c cells slots Q ad D cA σ0 A nL code k L S σ) (stc : Bool) (hst : me.2.2.2.2.1 = stc) (hme : mt[mi]? = some me) (hna : me.2.2.2.2.2.2.1 = n) (hd : decode bytes pc = .ok ((if stc = true then .invokestatic i else .invokevirtual i), 3)) (hn : nxt code (k + 1) (pc + 3) = true) (hwl : wdI w (.methodLink own i me.1) = true)
    (hrc : stc = false → ∃ o As, (S.take (if stc = true then n else n + 1)).reverse = .ref o :: As ∧ ocl o = me.2.2.2.2.2.2.2.1)
    (hws : wsm (S.drop (if stc = true then n else n + 1)) ≤ 8) (hlen : (if stc = true then n else n + 1) ≤ S.length)
    (hs : C mi (S.take (if stc = true then n else n + 1)).reverse σ (fun r σ1 => K (k + 1) L (r.toList ++ S.drop (if stc = true then n else n + 1)) σ1)) (hW : aWd ad D cA σ0 A σ H) (hS : va_S A s.heap H locs) (hL : L.length = nL) (hl : lv_has ls nL (lcn ad 0 L)) : W p l e R s m args below meth c H locs cells slots Q (F0 m pc ls (S.map (cv ad))) := by
  have X' := X
  obtain ⟨hx, hb, hml, hown, hts, hKK, hO, hSt, hckw, hcalls, hrmc, hrms, hrf, hrl, hcc, hcs, h7, h400, -⟩ := X
  have hM := hcalls mi me _ σ _ hme hs
  have hw := hckw mi me hme
  unfold ckW at hw
  simp only [Bool.and_eq_true, decide_eq_true_eq] at hw
  obtain ⟨⟨⟨⟨⟨⟨⟨w1, w2⟩, w3⟩, w4⟩, w5⟩, w6⟩, w7⟩, w8⟩ := hw
  have w4 : me.2.2.1 ≤ 45 := Nat.le_of_ble_eq_true w4
  have hgood : ∀ w ∈ aWm me, w ∈ lw_good := by
    intro w hw
    rcases List.mem_cons.mp hw with rfl | hw
    · exact wd_good w5
    · exact hw
  have hB : CallB R s args own i me.1 me.2.1 me.2.2.1 me.2.2.2.1 (aWm me) rm 0 0 n := by
    refine ⟨hrmc, hrms, hrf, by omega, a_words X' hgood, List.mem_cons_self, hts _ (wd_good w5), hts _ (wd_good w7), ⟨w2, w3⟩, fun sig h => ?_, hts _ (wd_good hwl)⟩
    rw [h] at w8
    have := Option.some.inj w8
    dsimp only at this
    rw [this, hna]
  have hfit : cells + 0 ≤ R.cells ∧ slots + 0 ≤ R.slots := ⟨hcc, hcs⟩
  have hfin : ∀ (hr : va_Run p l e R s m args below meth c H locs cells slots 0 0 (F0 m pc ls (S.map (cv ad))) ((S.drop (if stc = true then n else n + 1)).map (cv ad)) (aQ ad D cA σ0 (fun r σ1 => K (k + 1) L (r.toList ++ S.drop (if stc = true then n else n + 1)) σ1) (((S.take (if stc = true then n else n + 1)).reverse).map (cv ad)).toArray) (aAW ad)), W p l e R s m args below meth c H locs cells slots Q (F0 m pc ls (S.map (cv ad))) := by
    intro hr
    refine va_callA (A1 := aAW ad) hr (fun st oc t h => h.2) hS (fun q _ h => aAW_in hW.2.1 q h) (fun q h => aAW_in hW.2.1 q h) ?_
    intro v st t H1 locs1 ht hst0 hq hS1
    obtain ⟨⟨r, σ', hr1, hr2, hr3⟩, -⟩ := hq
    obtain rfl := Outcome.returned.inj hr1
    rw [ht] at hr3
    have := a_nx hK hn hr2 ⟨hr3.1, ⟨hr3.2.1.1, fun k q hk => aAW_in hW.2.1 _ (hr3.2.1.2 k q hk)⟩, hr3.2.2⟩ hS1 hL hl
    rw [List.map_append] at this
    cases r with
    | none => exact this
    | some r => exact this
  have hsplit : S.map (cv ad) = (((S.take (if stc = true then n else n + 1)).reverse).map (cv ad)).reverse ++ (S.drop (if stc = true then n else n + 1)).map (cv ad) := by
    rw [List.map_reverse, List.reverse_reverse, ← List.map_append, List.take_append_drop]
  have hroom := lv_room (m := m) (pc := pc) (ls := ls) (rest := S.map (cv ad)) (st := (S.drop (if stc = true then n else n + 1)).map (cv ad)) (by rw [wsm_cat]; exact hws)
  cases stc with
  | true =>
    rw [hst] at w6
    dsimp only at w6
    refine hfin ?_
    refine va_runS (Ts := lw_good) (As := (((S.take n).reverse).map (cv ad))) ⟨hx, hb, hml, hown, hts⟩ hM ⟨hB, hts _ (wd_good w6)⟩ ⟨aPre_blind, fun U hU hv => ⟨rfl, a_pre X' hW hS hU hv⟩⟩ rfl (by rw [List.length_map, List.length_reverse, List.length_take, Nat.min_eq_left (by simpa using hlen)]) hl.1 hsplit hroom hd hfit
  | false =>
    rw [hst] at w6
    dsimp only at w6
    simp only [Bool.and_eq_true] at w6
    obtain ⟨⟨w61, w62⟩, w63⟩ := w6
    obtain ⟨o, As, hA1, hoc⟩ := hrc rfl
    refine hfin ?_
    cases hv : vwCl[me.2.2.2.2.2.2.2.1]? with
    | none => rw [hv] at w63; cases w63
    | some rr =>
      rw [hv] at w63
      dsimp only at w63
      rw [Bool.and_eq_true, decide_eq_true_eq] at w63
      have h99 : me.2.2.2.2.2.2.2.1 < 99 := by simpa [Nat.blt_eq] using w63.2
      obtain ⟨ho, rf, r', hOT, hr, -⟩ := OT_obj hoc h99
      obtain rfl : rr = r' := Option.some.inj (hv.symm.trans hr)
      have hrec := va_recv hKK hW.1 hr (q0 := o) (aWs_at ho hOT)
      rw [w63.1] at hrec
      simp only [Bool.false_eq_true, if_false] at hA1 hsplit hroom hM hlen ⊢
      rw [hA1] at hsplit hM ⊢
      have hal : As.length = n := by
        have := congrArg List.length hA1
        simp at this
        omega
      refine va_runV (Ts := lw_good) (C := me.1.cls) (b := ad o) (As := As.map (cv ad)) ⟨hx, hb, hml, hown, hts⟩ hM ⟨hB, hts _ (wd_good w61), hts _ (wd_good w62)⟩ ⟨aPre_blind, hrec, fun U hU hv => ⟨rfl, a_pre X' hW hS hU hv⟩⟩ rfl (by simpa using hal) hl.1 ?_ hroom hd hfit
      rw [hsplit]
      simp [cv]
theorem a_slen (X : aCtx p l R s m args c cells slots ad adV fm D cA σ0 A own bytes nL mt C rm) {w pc i o : Nat} {L : aLo} {S : List Value} {σ : aSt} {H : Heap} {locs : List Loc} {ls : Array Slot} {k : Nat} (hK : ∀ k L S σ, K k L S σ → aWc p l e R s m args below meth c cells slots Q ad D cA σ0 A nL code k L S σ) (hd : decode bytes pc = .ok (.invokevirtual i, 3)) (hn : nxt code (k + 1) (pc + 3) = true) (hwl : wdI w (.methodLink own i aYlen) = true) (ho : (slx o).isSome = true) (hws : wsm S ≤ 8) (hs : K (k + 1) L (.int (slen o) :: S) σ) (hW : aWd ad D cA σ0 A σ H) (hS : va_S A s.heap H locs) (hL : L.length = nL) (hl : lv_has ls nL (lcn ad 0 L)) : W p l e R s m args below meth c H locs cells slots Q (F0 m pc ls (.ref (ad o) :: S.map (cv ad))) := by
  have X' := X
  obtain ⟨hx, hb, hml, hown, hts, hKK, hO, hSt, hckw, hcalls, hrmc, hrms, hrf, hrl, hcc, hcs, h7, h400, hlm, hcm⟩ := X
  obtain ⟨bs, hbs⟩ := Option.isSome_iff_exists.mp ho
  obtain ⟨cc, n0, hn0, hcw, hM⟩ := hlm
  have hM := hM ad adV fm σ0 A o bs hbs
  have hgood : ∀ w ∈ (Jvm.Cond.code aYlen cc n0 (some .int) :: lw_good), w ∈ lw_good := by
    intro w hw
    rcases List.mem_cons.mp hw with rfl | hw
    · exact hcw
    · exact hw
  have hB : CallB R s args own i aYlen cc n0 (some .int) (.code aYlen cc n0 (some .int) :: lw_good) aSrm 0 0 0 := by
    refine ⟨rfl, rfl, by dsimp only [aSrm]; omega, by dsimp only [aSrm]; omega, a_words X' hgood, List.mem_cons_self, hts _ hcw, hts _ w_str, ⟨by decide, by decide⟩, fun sig h => ?_, hts _ (wd_good hwl)⟩
    have h9 : (parseMethodDescriptor aYlen.desc).map (fun d => d.parameters.length) = some 0 := by decide +kernel
    rw [h] at h9
    exact (Option.some.inj h9).symm
  have hO' := hO.kept (fun q h1 h2 => hS.2.1 q h1 h2)
  obtain ⟨cell, hc1, hc2, hc3, hc4⟩ := (hO'.2.2.2.1 o bs hbs).1
  refine va_callA (A1 := fun _ => False) (va_runV (Ts := lw_good) (C := "java/lang/String") (b := ad o) (As := []) (rest := S.map (cv ad)) ⟨hx, hb, hml, hown, hts⟩ hM ⟨hB, hts _ w_len_i, hts _ w_len_s⟩ ⟨?_, ⟨cell, hc1, hc2, hc3⟩, fun U hU hv => ⟨rfl, a_out X' hS hU hv⟩⟩ rfl rfl hl.1 rfl (lv_room (by rw [wsm_cat]; exact hws)) hd ⟨hcc, hcs⟩) (fun st oc t h => ⟨by rw [h.2]; exact Nat.le_refl _, fun q _ _ => by rw [h.2]⟩) hS (fun q _ h => h.elim) (fun q h => h.elim) ?_
  · intro a U g mk h
    exact ⟨h.1, aOut.moved (u := U) (U := U.calling g mk a) (Vm.Alike.refl U.vm) h.2⟩
  · intro v st t H1 locs1 ht hst hq hS1
    obtain ⟨h1, h2⟩ := hq
    obtain rfl := Outcome.returned.inj h1
    have hH : H1 = H := by rw [← ht, h2, hst]
    subst hH
    exact a_nx hK hn hs hW hS1 hL hl
theorem a_sch (X : aCtx p l R s m args c cells slots ad adV fm D cA σ0 A own bytes nL mt C rm) {w pc i o : Nat} {j : Int32} {L : aLo} {S : List Value} {σ : aSt} {H : Heap} {locs : List Loc} {ls : Array Slot} {k : Nat} (hK : ∀ k L S σ, K k L S σ → aWc p l e R s m args below meth c cells slots Q ad D cA σ0 A nL code k L S σ) (hd : decode bytes pc = .ok (.invokevirtual i, 3)) (hn : nxt code (k + 1) (pc + 3) = true) (hwl : wdI w (.methodLink own i aYch) = true) (ho : (slx o).isSome = true) (hj0 : 0 ≤ j) (hj1 : j < slen o) (hws : wsm S ≤ 8) (hs : K (k + 1) L (.int (sch o j) :: S) σ) (hW : aWd ad D cA σ0 A σ H) (hS : va_S A s.heap H locs) (hL : L.length = nL) (hl : lv_has ls nL (lcn ad 0 L)) : W p l e R s m args below meth c H locs cells slots Q (F0 m pc ls (.int j :: .ref (ad o) :: S.map (cv ad))) := by
  have X' := X
  obtain ⟨hx, hb, hml, hown, hts, hKK, hO, hSt, hckw, hcalls, hrmc, hrms, hrf, hrl, hcc, hcs, h7, h400, hlm, hcm⟩ := X
  obtain ⟨bs, hbs⟩ := Option.isSome_iff_exists.mp ho
  obtain ⟨cc, n0, hn0, hcw, hM⟩ := hcm
  have hM := hM ad adV σ0 A o bs j hbs hj0 hj1
  have hgood : ∀ w ∈ (Jvm.Cond.code aYch cc n0 (some .char) :: lw_good), w ∈ lw_good := by
    intro w hw
    rcases List.mem_cons.mp hw with rfl | hw
    · exact hcw
    · exact hw
  have hB : CallB R s args own i aYch cc n0 (some .char) (.code aYch cc n0 (some .char) :: lw_good) aSrm 0 0 1 := by
    refine ⟨rfl, rfl, by dsimp only [aSrm]; omega, by dsimp only [aSrm]; omega, a_words X' hgood, List.mem_cons_self, hts _ hcw, hts _ w_str, ⟨by decide, by decide⟩, fun sig h => ?_, hts _ (wd_good hwl)⟩
    have h9 : (parseMethodDescriptor aYch.desc).map (fun d => d.parameters.length) = some 1 := by decide +kernel
    rw [h] at h9
    exact (Option.some.inj h9).symm
  have hO' := hO.kept (fun q h1 h2 => hS.2.1 q h1 h2)
  obtain ⟨cell, hc1, hc2, hc3, hc4⟩ := (hO'.2.2.2.1 o bs hbs).1
  refine va_callA (A1 := fun _ => False) (va_runV (Ts := lw_good) (C := "java/lang/String") (b := ad o) (As := [.int j]) (rest := S.map (cv ad)) ⟨hx, hb, hml, hown, hts⟩ hM ⟨hB, hts _ w_ch_i, hts _ w_ch_s⟩ ⟨?_, ⟨cell, hc1, hc2, hc3⟩, fun U hU hv => ⟨rfl, a_out X' hS hU hv⟩⟩ rfl rfl hl.1 rfl (lv_room (by rw [wsm_cat]; exact hws)) hd ⟨hcc, hcs⟩) (fun st oc t h => ⟨by rw [h.2]; exact Nat.le_refl _, fun q _ _ => by rw [h.2]⟩) hS (fun q _ h => h.elim) (fun q h => h.elim) ?_
  · intro a U g mk h
    exact ⟨h.1, aOut.moved (u := U) (U := U.calling g mk a) (Vm.Alike.refl U.vm) h.2⟩
  · intro v st t H1 locs1 ht hst hq hS1
    obtain ⟨h1, h2⟩ := hq
    obtain rfl := Outcome.returned.inj h1
    have hH : H1 = H := by rw [← ht, h2, hst]
    subst hH
    exact a_nx hK hn hs hW hS1 hL hl
theorem a_copy (X : aCtx p l R s m args c cells slots ad adV fm D cA σ0 A own bytes nL mt C rm) {w pc i o : Nat} {sp dp n : Int32} {L : aLo} {S : List Value} {σ : aSt} {H : Heap} {locs : List Loc} {ls : Array Slot} {k : Nat} (hK : ∀ k L S σ, K k L S σ → aWc p l e R s m args below meth c cells slots Q ad D cA σ0 A nL code k L S σ) (hd : decode bytes pc = .ok (.invokestatic i, 3)) (hn : nxt code (k + 1) (pc + 3) = true) (hwl : wdI w (.methodLink own i arraycopyName) = true) (hs : wsm S ≤ 8 ∧ oty o = 0 ∧ o < nW ∧ 0 ≤ sp ∧ 0 ≤ dp ∧ 0 ≤ n ∧ sp.toNatClampNeg + n.toNatClampNeg ≤ oln o ∧ dp.toNatClampNeg + n.toNatClampNeg ≤ oln o ∧ K (k + 1) L S (cpI σ o sp.toNatClampNeg dp.toNatClampNeg n.toNatClampNeg)) (hW : aWd ad D cA σ0 A σ H) (hS : va_S A s.heap H locs) (hL : L.length = nL) (hl : lv_has ls nL (lcn ad 0 L)) : W p l e R s m args below meth c H locs cells slots Q (F0 m pc ls (.int n :: .int dp :: .ref (ad o) :: .int sp :: .ref (ad o) :: S.map (cv ad))) := by
  have X' := X
  obtain ⟨hx, hb, hml, hown, hts, hKK, hO, hSt, hckw, hcalls, hrmc, hrms, hrf, hrl, hcc, hcs, h7, h400, hlm, hcm⟩ := X
  obtain ⟨hws, h1, ho, h2, h3, h4, h5, h6, hs⟩ := hs
  have hOT := oty_arr h1 (by decide)
  refine va_copyi hx hb (hml.trans hl.1.symm) hown (hts _ (wd_good hwl)) (hts _ w_cp_n) (hts _ w_cp_s) (hts _ w_cp_i) hKK hW.1 hW.2.1 hS o o 0 0 (aWs_at ho hOT) (aWs_at ho hOT) (aTy_at cA 0 (by decide)) (aTy_at cA 0 (by decide)) rfl (Int32.not_lt.mpr h2) (Int32.not_lt.mpr h3) (Int32.not_lt.mpr h4) h5 h6 (fun _ _ => rfl) (by omega) ?_ hd (fun H1 locs1 hP1 hD1 hS1 => ?_)
  · rw [wsm_cat]
    have : nativeFrameWords "java/lang/System" "arraycopy" 5 + 11 ≤ 300 := by decide +kernel
    omega
  · have he : (Sum.inl (cA 0, oln o, .inl (va_cpy (σ.1 o) (σ.1 o) sp.toNatClampNeg dp.toNatClampNeg n.toNatClampNeg)) : va_E) = aCell ad cA (cpI σ o sp.toNatClampNeg dp.toNatClampNeg n.toNatClampNeg) o (.inl (0, oln o)) := by
      simp only [aCell, aArr, cpI, beq_self, cond_true]
    dsimp only at hP1 hD1
    rw [aWs_set (σ := σ) (σ' := cpI σ o sp.toNatClampNeg dp.toNatClampNeg n.toNatClampNeg) ho hOT he (fun j hj => by funext b; simp only [cpI, beq_ne hj, cond_false]) (fun _ _ => rfl) (fun _ _ => rfl)] at hP1 hD1
    refine a_nx hK hn hs ⟨hP1, hD1, fun j hj => ⟨?_, (hW.2.2 j hj).2⟩⟩ hS1 hL hl
    rw [← (hW.2.2 j hj).1]
    funext b
    simp only [cpI, beq_ne (show j ≠ o by omega), cond_false]
theorem aTsw_of {x : Int32} {Kt : Nat → Prop} {d : Nat} : ∀ (ts : List Nat) (c : Int32), 0 ≤ c.toInt → c.toInt + ts.length < 1000 → aTsw x Kt d c ts → (∃ (j t : Nat), ts[j]? = some t ∧ x.toInt = c.toInt + j ∧ Kt t) ∨ ((x.toInt < c.toInt ∨ c.toInt + ts.length ≤ x.toInt) ∧ Kt d)
  | [], c, _, _, h => Or.inr ⟨by rw [List.length_nil]; omega, h⟩
  | t :: ts, c, h0, h1, h => by
    unfold aTsw at h
    by_cases hx : x = c
    · rw [if_pos hx] at h
      exact Or.inl ⟨0, t, rfl, by simp [hx], h⟩
    · rw [if_neg hx] at h
      have hne : x.toInt ≠ c.toInt := fun q => hx (Int32.toInt_inj.mp q)
      have h1' : c.toInt + (ts.length + 1) < 1000 := by simpa using h1
      have hc1 : (c + 1).toInt = c.toInt + 1 := by
        rw [Int32.toInt_add, Int32.toInt_one, Int.bmod_eq_of_le] <;> omega
      rcases aTsw_of ts (c + 1) (by omega) (by omega) h with ⟨j, t', g1, g2, g3⟩ | ⟨g1, g2⟩
      · exact Or.inl ⟨j + 1, t', by simpa using g1, by omega, g3⟩
      · refine Or.inr ⟨?_, g2⟩
        rw [List.length_cons]
        omega
theorem ckT_of {pc : Nat} : ∀ (os : List Int) (ts : List Nat), ckT code pc os ts = true → os.length = ts.length ∧ ∀ (j t : Nat), ts[j]? = some t → ∃ o : Int, os[j]? = some o ∧ tgt code t pc o = true
  | [], [], _ => ⟨rfl, fun j t h => by simp at h⟩
  | o :: os, t :: ts, h => by
    unfold ckT at h
    rw [Bool.and_eq_true] at h
    obtain ⟨h1, h2⟩ := ckT_of os ts h.2
    refine ⟨by simp [h1], fun j t' hj => ?_⟩
    cases j with
    | zero =>
      have : t = t' := by simpa using hj
      subst this
      exact ⟨o, rfl, h.1⟩
    | succ j => exact h2 j t' (by simpa using hj)
  | [], t :: ts, h => by cases h
  | o :: os, [], h => by cases h
end AS
