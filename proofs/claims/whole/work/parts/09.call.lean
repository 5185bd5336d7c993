theorem lcn_none (ad : Nat → Nat) : ∀ (k i : Nat), lcn ad i (List.replicate k none) = []
  | 0, _ => rfl
  | k + 1, i => lcn_none ad k (i + 1)
theorem lcn_loA (ad : Nat → Nat) (k : Nat) : ∀ (vs : List Value) (i : Nat), lcn ad i (loA vs ++ List.replicate k none) = lv_args i (vs.map (cv ad))
  | [], i => lcn_none ad k i
  | v :: vs, i => by
    rw [loA, List.map_cons, lv_args, cv_cat]
    by_cases h : v.category = 2
    · rw [h, if_pos rfl]
      show (i, cv ad v) :: lcn ad (i + 1 + 1) (loA vs ++ List.replicate k none) = _
      rw [lcn_loA ad k vs (i + 1 + 1)]
    · rw [if_neg h, beq_ne h]
      show (i, cv ad v) :: lcn ad (i + 1) (loA vs ++ List.replicate k none) = _
      rw [lcn_loA ad k vs (i + 1)]
theorem lgsl_len (ad : Nat → Nat) : ∀ vs : List Value, (lg_sl (vs.map (cv ad))).length = (loA vs).length
  | [] => rfl
  | v :: vs => by
    have ih := lgsl_len ad vs
    unfold lg_sl at ih ⊢
    rw [List.map_cons, List.flatMap_cons, List.length_append, ih, loA, cv_cat]
    by_cases h : v.category = 2
    · rw [h, if_pos rfl]
      show 2 + (loA vs).length = (loA vs).length + 1 + 1
      omega
    · rw [if_neg h, beq_ne h]
      show 1 + (loA vs).length = (loA vs).length + 1
      omega
def rmD (d : Nat) : Room := { frames := d + 8, cells := 0, slots := 0, locals := 64 * d + 600 }
set_option maxHeartbeats 1000000 in
/-- every call within a depth does on the machine what it does here -/
theorem a_calls (l : Launch) (mt : List aME) (hck : ∀ (n : Nat) (me : aME), mt[n]? = some me → ckM mt me = true) (hlm : aLenMet l) (ad adV : Nat → Nat) (fm : Value) (hcm : aChMet l fm) (D : va_G) (cA : Nat → ClassId) (σ0 : aSt) : ∀ d : Nat, aCalls l mt (aCall mt d) ad adV fm D cA σ0 (rmD d)
  | 0 => fun _ _ _ _ _ _ h => h.elim
  | d + 1 => by
    intro m me vs σ Post hme h
    unfold aCall at h
    rw [hme] at h
    obtain ⟨hlo, n, hrun⟩ := h
    have hc := hck m me hme
    unfold ckM at hc
    rw [Bool.and_eq_true, Bool.and_eq_true] at hc
    obtain ⟨⟨hc0, hcw⟩, hcc⟩ := hc
    have hcw' := hcw
    unfold ckW at hcw'
    simp only [Bool.and_eq_true] at hcw'
    refine Met.ofW (cc := me.2.1) (maxL := me.2.2.1) (ret := me.2.2.2.1) hcw'.1.1.1.1.1.1.1 rfl ?_
    intro p e s mm args below meth c s₁ B hml hv
    obtain ⟨rfl, hpre⟩ := hv
    have hts := atoms_spec (ws := aWm me) B.pre
    have X : aCtx p l (headSpec (aWm me) (rmD (d + 1))).room s mm ((vs.map (cv ad)).toArray) c 0 0 ad adV fm D cA σ0 (aAW ad) me.1.cls me.2.1 me.2.2.1 mt (aCall mt d) (rmD d) := by
      refine ⟨B.exec, B.bytes, hml, findClass_of_methodNamed B.named, fun w hw => hts w (List.mem_cons_of_mem _ hw), hpre.2.1, hpre.2.2.1, hpre.2.2.2, fun n9 me9 h9 => ?_, a_calls l mt hck hlm ad adV fm hcm D cA σ0 d, rfl, rfl, ?_, ?_, Nat.zero_le _, Nat.zero_le _, ?_, ?_, hlm, hcm⟩
      · have h8 := hck n9 me9 h9
        unfold ckM at h8
        rw [Bool.and_eq_true, Bool.and_eq_true] at h8
        exact h8.1.2
      · show (d + 8) + 1 ≤ d + 1 + 8
        omega
      · show 64 + (64 * d + 600) ≤ 64 * (d + 1) + 600
        omega
      · show 7 ≤ d + 1 + 8
        omega
      · show 400 ≤ 64 * (d + 1) + 600
        omega
    have hlocks := B.notSynchronized
    have hr := B.returns
    have hx := B.exec
    have hb := B.bytes
    obtain ⟨q0, hq0, hq1⟩ := nxt_of hc0
    have hl := lv_entry (vs.map (cv ad)) (n := me.2.2.1) (by rw [lgsl_len]; exact Nat.le_of_ble_eq_true hlo)
    rw [lg_entry_eq]
    generalize (lg_sl (vs.map (cv ad)) ++ List.replicate (me.2.2.1 - (lg_sl (vs.map (cv ad))).length) Slot.unset).toArray = ls at hl ⊢
    rw [← lcn_loA ad (me.2.2.1 - (loA vs).length) vs 0] at hl
    have key := a_run (e := e) (below := below) (meth := meth) (ret := me.2.2.2.1) (code := me.2.2.2.2.2.2.2.2) (Rr := Post) (Q := MQ below (aQ ad D cA σ0 Post) ((vs.map (cv ad)).toArray) s 0 0 (aAW ad)) X ?_ (fun k q hk => by
      have := ckC_of 0 _ hcc k q hk
      rwa [Nat.zero_add] at this) n 0 (lo0 me.2.2.1 vs) [] σ hrun s.heap [] ls q0 hq0 hpre.1 va_S.rf ?_ hl
    · rw [hq1] at key
      exact key
    · intro r σ' H locs ls' pc hPost hret hWd hS
      have hq : ∀ t : State, t.heap = H → s.WarmedH t.vm → aQ ad D cA σ0 Post ((vs.map (cv ad)).toArray) s (.returned (r.map (cv ad))) t := fun t ht hW => ⟨⟨r, σ', rfl, hPost, by rw [ht]; exact hWd⟩, hS.F ht⟩
      match r, hret, hq with
      | some (.int x), hret, hq =>
        obtain ⟨h1, h2⟩ := hret
        rcases h1 with h1 | ⟨h1, h3⟩
        · exact W.iret hx hb (hr.trans h1) hq hS.2.2 h2
        · exact W.zret (ty := .boolean) hx hb (hr.trans h1) (by rcases h3 with rfl | rfl <;> rfl) hq hS.2.2 h2
      | some (.long x), hret, hq => exact W.lret hx hb (hr.trans hret.1) hq hS.2.2 hret.2
      | some (.ref x), hret, hq =>
        obtain ⟨⟨n9, h1⟩, h2⟩ := hret
        exact W.aret hx hb (hr.trans h1) (Or.inl ⟨n9, rfl⟩) (Or.inr ⟨_, rfl⟩) hq hS.2.2 h2
      | none, hret, hq => exact W.vret hx hb (hr.trans hret.1) hq hS.2.2 hret.2
    · unfold lo0
      rw [List.length_append, List.length_replicate]
      have := Nat.le_of_ble_eq_true hlo
      omega
