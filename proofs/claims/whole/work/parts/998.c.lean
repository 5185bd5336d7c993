/-! THE CLAIM (the rows ahead of whole_start and behind it: the kit's skeleton) -/
def R_law : String := "CurvePointsLaw"
def lw_P (b : Addr) (xs : List Int32) (args : Array Value) (s : State) : Prop := args = #[.ref b] ∧ s.IntsAt b xs ∧ xs.length ≤ 3072 ∧ (Jvm.Cond.and given_1 narrow_1).before args s = true
def lw_Q (_ : Array Value) (s : State) (o : Outcome) (t : State) : Prop := o = .returned (some (.int 1)) ∧ Framed s o t [] 600000 7302250
def lw_Z (below : List Frame) (a : Array Value) (s : State) : State → Prop := fun t => ∃ o, t.status = .running ∧ Ended t below o ∧ lw_Q a s o t
/-- the law's own end, with 1 on the stack, nothing written that was there before, its room as the claim has it -/
theorem lw_ret {p : Program} {l : Launch} {e : Env} {s : State} {m : MethodId} {below : List Frame} {meth : Method} {c : Code} {b : Nat} (hx : p.tables.exec = Jvm.exec) (hb : c.code = code) (hr : meth.sig.returnType = ret) (hlocks : meth.locks = false) {pc : Nat} {H : Heap} {ls : Array Slot} (hdg : decode code pc = .ok (.ireturn, 1)) : W p l e room_1 s m #[Value.ref b] below meth c H [] 600000 7302250 (lw_Z below #[Value.ref b] s) (F0 m pc ls [.int 1]) := by
  intro T hT X
  obtain ⟨fs, hret, hrun, hended, hW, hframe⟩ := X.leave (v := some (.int 1)) (hlocks := hlocks) (fun h => by rw [hr] at h; cases h)
  have hmeth' : T.vm.method? m = some meth := X.method'
  refine ⟨T.setFrames fs, ?_, .returned (some (.int 1)), hrun, hended, rfl, ⟨_, rfl⟩, hW, hframe⟩
  jvm_step X.here [X.here.top, hx, hb, hdg, hmeth', hr, ret, narrow_b1]
  (try refine ⟨rfl, ?_⟩); (try refine ⟨rfl, ?_⟩)
  first | (intro acts; rw [hret _ acts rfl rfl rfl]) | rw [hret _ _ rfl rfl rfl]
  exact Steps.refl _
/-- what holds at the law's entry: the machine, the code, the tables' words (any of lw_tbl by 'hts w (by decide +kernel)'), the script of L ints xs at the cell b, what the Statement gives of the start (any of its parts by flat_of_before) -/
def lw_At (p : Program) (s : State) (m : MethodId) (meth : Method) (c : Code) (b L : Nat) (xs : Nat → Int32) : Prop :=
  p.tables.exec = Jvm.exec ∧ c.code = code ∧ meth.sig.returnType = ret ∧ c.maxLocals = 4 ∧ s.vm.findClass R_law = some m.cls ∧ (∀ w ∈ lw_tbl, w.before #[Value.ref b] s = true) ∧ va_X b L xs s s.heap ∧ b < s.heap.size ∧ meth.locks = false ∧ (Jvm.Cond.and given_1 narrow_1).before #[Value.ref b] s = true
theorem law_tail {p : Program} {e : Env} {s : State} {m : MethodId} {below : List Frame} {meth : Method} {c : Code} (l : Launch) {b L : Nat} {xs : Nat → Int32} (hL : L ≤ 3072) (C0 : lw_At p s m meth c b L xs) {dC : Nat → ClassId} {dI : Nat → Nat → Nat} {cA : Nat → ClassId} {ad adV : Nat → Nat} {fm : Value} (hfm : fm.category = 1) (hKA : va_K (dC, dI) vwCl (aTys cA) s) (hO : aOut ad adV fm (st0 xs L) (fun q => s.heap.size ≤ q) s s.heap) (hStr : aStr ad s) {H3 : Heap} {locs2 : List Loc} {ls : Array Slot} (hP : va_P (dC, dI) vwCl (aWs ad cA (st0 xs L)) H3) (hD : va_D (fun q : Nat => s.heap.size ≤ q) (aWs ad cA (st0 xs L))) (hS : va_S (fun q : Nat => s.heap.size ≤ q) s.heap H3 locs2) (hl : lv_has ls 4 (lcn ad 0 [some (.ref 91), some (.ref 0), some (.ref 66), none])) : W p l e room_1 s m #[Value.ref b] below meth c H3 locs2 87 10056 (lw_Z below #[Value.ref b] s) (F0 m 16 ls []) := by
  obtain ⟨hx, hb, hr, hml, hown, htt, hX, hbl, hlocks, hgv⟩ := id C0
  have hts : ∀ w ∈ lw_good, w.before #[Value.ref b] s = true := fun w hw => htt w (good_in hw).1
  obtain ⟨n, hn⟩ := law_go (xs := xs) hL
  have X : aCtx p l room_1 s m #[Value.ref b] c 87 10056 ad adV fm (dC, dI) cA (st0 xs L) (fun q : Nat => s.heap.size ≤ q) "CurvePointsLaw" code 4 MT (aCall MT 140) (rmD 140) :=
    ⟨hx, hb, hml, hown, hts, hKA, hO, hStr, fun n9 me9 h9 => by
      have h8 := MT_ok n9 me9 h9
      unfold ckM at h8
      rw [Bool.and_eq_true, Bool.and_eq_true] at h8
      exact h8.1.2, a_calls l MT MT_ok (aLenMet_ok l) ad adV fm (aChMet_ok l hfm) (dC, dI) cA (st0 xs L) 140, rfl, rfl, Nat.le_of_ble_eq_true rfl, Nat.le_of_ble_eq_true rfl, Nat.le_of_ble_eq_true rfl, Nat.le_of_ble_eq_true rfl, Nat.le_of_ble_eq_true rfl, Nat.le_of_ble_eq_true rfl, aLenMet_ok l, aChMet_ok l hfm⟩
  have key := a_run (e := e) (below := below) (meth := meth) (ret := some .boolean) (code := mc_law) (Rr := fun r _ => r = some (.int 1)) (Q := lw_Z below #[Value.ref b] s) X (fun r σ H locs ls' pc hr1 hret hWd hS1 => by
    have hr1 : r = some (.int 1) := hr1
    subst hr1
    refine va_forget (fun q hq => hS1.2.2 q hq) ?_
    refine W.widen (k := 600000) (n := 7302250) (Nat.le_of_ble_eq_true rfl) (Nat.le_of_ble_eq_true rfl) ?_
    exact lw_ret hx hb hr hlocks hret.2) law_ck n 0 _ [] (st0 xs L) hn H3 locs2 ls
  exact key (16, .iconst (0), 0, 0, 0, .int (0), []) law_first ⟨hP, hD, fun o ho => ⟨rfl, rfl⟩⟩ hS rfl hl
