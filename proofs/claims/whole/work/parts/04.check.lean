/-! THE CHECK of a resolved copy against the bytes and the words -/
def lw_good : List Jvm.Cond := lw_tbl.filter goodWord
def nxt (code : List aMI) (k p : Nat) : Bool := match code[k]? with
  | some q => Nat.beq q.1 p
  | none => false
def tgt (code : List aMI) (a pc : Nat) (off : Int) : Bool := match code[a]? with
  | some q => decide ((pc : Int) + off = (q.1 : Int))
  | none => false
def wdI (w : Nat) (x : Jvm.Cond) : Bool := decide (lw_tbl[w]? = some x) && goodWord x
def SRT : List (String × Nat × Nat × String) := [("CurvePoints$Reader", 110, 200, "curve"), ("CurvePoints$Reader", 101, 201, "within"), ("CurvePoints", 173, 202, "zero"), ("CurvePoints", 189, 203, "p"), ("CurvePoints", 217, 204, ", "), ("CurvePoints", 226, 205, "yy=xxx"), ("CurvePoints", 228, 206, "xx"), ("CurvePoints", 234, 207, "x"), ("CurvePointsModel", 200, 200, "curve"), ("CurvePointsModel", 213, 201, "within"), ("CurvePointsModel", 303, 202, "zero"), ("CurvePointsModel", 308, 203, "p")]
def ilen : Instr → Nat
  | .bipush _ => 2
  | .ldc _ => 2
  | .iload _ => 2
  | .lload _ => 2
  | .aload _ => 2
  | .istore _ => 2
  | .lstore _ => 2
  | .astore _ => 2
  | .sipush _ => 3
  | .ldc_w _ => 3
  | .ldc2_w _ => 3
  | .iinc _ _ => 3
  | .ifCond _ _ => 3
  | .if_icmp _ _ => 3
  | .goto _ => 3
  | .getfield _ => 3
  | .putfield _ => 3
  | .getstatic _ => 3
  | .invokestatic _ => 3
  | .invokevirtual _ => 3
  | _ => 1
def ckD (bytes : ByteArray) (q : aMI) : Bool := match decode bytes q.1 with
  | .ok r => decide (r.1 = q.2.1) && (match q.2.1 with
    | .tableswitch _ _ _ _ => true
    | i => Nat.beq r.2 (ilen i))
  | .error _ => false
def ckT (code : List aMI) (pc : Nat) : List Int → List Nat → Bool
  | [], [] => true
  | o :: os, t :: ts => tgt code t pc o && ckT code pc os ts
  | _, _ => false
def aStc (a : Nat) : Option (String × String × String × Nat) := STT.find? (fun s => Nat.beq s.2.2.2 a)
def ckA (mt : List aME) (own : String) (ret : Option FieldType) (code : List aMI) (k : Nat) (q : aMI) : Bool := match q.2.1 with
  | .iconst n => decide (q.2.2.2.2.2.1 = .int (Int32.ofInt n)) && nxt code (k + 1) (q.1 + 1)
  | .bipush n => decide (q.2.2.2.2.2.1 = .int (Int8.ofInt n).toInt32) && nxt code (k + 1) (q.1 + 2)
  | .sipush n => decide (q.2.2.2.2.2.1 = .int (Int16.ofInt n).toInt32) && nxt code (k + 1) (q.1 + 3)
  | .lconst n => decide (q.2.2.2.2.2.1 = .long (Int64.ofNat (n : Nat))) && nxt code (k + 1) (q.1 + 1)
  | .ldc i => (match q.2.2.2.2.2.1 with | .int x => wdI q.2.2.2.2.1 (.constant own i x) | .ref j => SRT.any (fun s => decide (s.1 = own) && Nat.beq s.2.1 i && Nat.beq s.2.2.1 j) | _ => false) && nxt code (k + 1) (q.1 + 2)
  | .ldc_w i => (match q.2.2.2.2.2.1 with | .int x => wdI q.2.2.2.2.1 (.constant own i x) | .ref j => SRT.any (fun s => decide (s.1 = own) && Nat.beq s.2.1 i && Nat.beq s.2.2.1 j) | _ => false) && nxt code (k + 1) (q.1 + 3)
  | .ldc2_w i => (match q.2.2.2.2.2.1 with | .long x => wdI q.2.2.2.2.1 (.constantLong own i x) | _ => false) && nxt code (k + 1) (q.1 + 3)
  | .iinc _ n => decide (q.2.2.2.2.2.1 = .int (Int32.ofInt n)) && nxt code (k + 1) (q.1 + 3)
  | .iload _ => nxt code (k + 1) (q.1 + 2)
  | .iload_n _ => nxt code (k + 1) (q.1 + 1)
  | .istore _ => nxt code (k + 1) (q.1 + 2)
  | .istore_n _ => nxt code (k + 1) (q.1 + 1)
  | .lload _ => nxt code (k + 1) (q.1 + 2)
  | .lload_n _ => nxt code (k + 1) (q.1 + 1)
  | .lstore _ => nxt code (k + 1) (q.1 + 2)
  | .lstore_n _ => nxt code (k + 1) (q.1 + 1)
  | .aload _ => nxt code (k + 1) (q.1 + 2)
  | .aload_n _ => nxt code (k + 1) (q.1 + 1)
  | .astore _ => nxt code (k + 1) (q.1 + 2)
  | .astore_n _ => nxt code (k + 1) (q.1 + 1)
  | .iadd => nxt code (k + 1) (q.1 + 1)
  | .isub => nxt code (k + 1) (q.1 + 1)
  | .imul => nxt code (k + 1) (q.1 + 1)
  | .iand => nxt code (k + 1) (q.1 + 1)
  | .ior => nxt code (k + 1) (q.1 + 1)
  | .ixor => nxt code (k + 1) (q.1 + 1)
  | .ishl => nxt code (k + 1) (q.1 + 1)
  | .ishr => nxt code (k + 1) (q.1 + 1)
  | .iushr => nxt code (k + 1) (q.1 + 1)
  | .ladd => nxt code (k + 1) (q.1 + 1)
  | .lsub => nxt code (k + 1) (q.1 + 1)
  | .lmul => nxt code (k + 1) (q.1 + 1)
  | .land => nxt code (k + 1) (q.1 + 1)
  | .lor => nxt code (k + 1) (q.1 + 1)
  | .lshl => nxt code (k + 1) (q.1 + 1)
  | .lshr => nxt code (k + 1) (q.1 + 1)
  | .lushr => nxt code (k + 1) (q.1 + 1)
  | .idiv => nxt code (k + 1) (q.1 + 1)
  | .irem => nxt code (k + 1) (q.1 + 1)
  | .ldiv => nxt code (k + 1) (q.1 + 1)
  | .lrem => nxt code (k + 1) (q.1 + 1)
  | .ineg => nxt code (k + 1) (q.1 + 1)
  | .lneg => nxt code (k + 1) (q.1 + 1)
  | .i2l => nxt code (k + 1) (q.1 + 1)
  | .l2i => nxt code (k + 1) (q.1 + 1)
  | .i2b => nxt code (k + 1) (q.1 + 1)
  | .lcmp => nxt code (k + 1) (q.1 + 1)
  | .dup => nxt code (k + 1) (q.1 + 1)
  | .pop => nxt code (k + 1) (q.1 + 1)
  | .arraylength => nxt code (k + 1) (q.1 + 1)
  | .iaload => nxt code (k + 1) (q.1 + 1)
  | .laload => nxt code (k + 1) (q.1 + 1)
  | .baload => nxt code (k + 1) (q.1 + 1)
  | .iastore => nxt code (k + 1) (q.1 + 1)
  | .lastore => nxt code (k + 1) (q.1 + 1)
  | .bastore => nxt code (k + 1) (q.1 + 1)
  | .ifCond _ o => tgt code q.2.2.1 q.1 o && nxt code (k + 1) (q.1 + 3)
  | .if_icmp _ o => tgt code q.2.2.1 q.1 o && nxt code (k + 1) (q.1 + 3)
  | .goto o => tgt code q.2.2.1 q.1 o
  | .tableswitch d lo hi os => (match q.2.2.2.2.2.1 with | .int c => decide (c.toInt = lo) | _ => false) && decide (hi = lo + os.size - 1) && decide (lo + os.size < 1000) && decide (0 ≤ lo) && tgt code q.2.2.1 q.1 d && ckT code q.1 os.toList q.2.2.2.2.2.2
  | .getfield i => (match vwCl[q.2.2.2.1]? with | some r => decide (q.2.2.1 < r.2.2) && decide (q.2.2.2.1 < 99) && wdI q.2.2.2.2.1 (.fieldLink own i (r.2.1 q.2.2.1).1 (r.2.1 q.2.2.1).2.1 (r.2.1 q.2.2.1).2.2.1) | none => false) && nxt code (k + 1) (q.1 + 3)
  | .putfield i => (match vwCl[q.2.2.2.1]? with | some r => decide (q.2.2.1 < r.2.2) && decide (q.2.2.2.1 < 99) && wdI q.2.2.2.2.1 (.fieldLink own i (r.2.1 q.2.2.1).1 (r.2.1 q.2.2.1).2.1 (r.2.1 q.2.2.1).2.2.1) && decide ((r.2.1 q.2.2.1).2.2.2 = false) | none => false) && nxt code (k + 1) (q.1 + 3)
  | .getstatic i => (match aStc q.2.2.1 with | some s => wdI q.2.2.2.2.1 (.fieldLink own i s.1 s.2.1 s.2.2.1) | none => false) && nxt code (k + 1) (q.1 + 3)
  | .invokestatic i => (match q.2.2.2.1 with | 0 => (match q.2.2.1 with | 0 => wdI q.2.2.2.2.1 (.methodLink own i Lib.Math.max.name) | _ + 1 => wdI q.2.2.2.2.1 (.methodLink own i Lib.Math.min.name)) | 1 => (match q.2.2.1 with | 0 => wdI q.2.2.2.2.1 (.methodLink own i Lib.Math.abs.name) | _ + 1 => wdI q.2.2.2.2.1 (.methodLink own i Lib.MathLoose.abs_long.x)) | 3 => wdI q.2.2.2.2.1 (.methodLink own i Lib.MathLoose.max_long.x) | 2 => wdI q.2.2.2.2.1 (.methodLink own i arraycopyName) | n + 4 => (match mt[q.2.2.1]? with | some me => me.2.2.2.2.1 && Nat.beq me.2.2.2.2.2.2.1 n && wdI q.2.2.2.2.1 (.methodLink own i me.1) | none => false)) && nxt code (k + 1) (q.1 + 3)
  | .invokevirtual i => (match q.2.2.2.1 with | 0 => wdI q.2.2.2.2.1 (.methodLink own i ⟨"java/lang/String", "length", "()I"⟩) | 1 => wdI q.2.2.2.2.1 (.methodLink own i ⟨"java/lang/String", "charAt", "(I)C"⟩) | n + 4 => (match mt[q.2.2.1]? with | some me => !me.2.2.2.2.1 && Nat.beq me.2.2.2.2.2.2.1 n && decide (q.2.2.2.2.2.2 = [me.2.2.2.2.2.2.2.1]) && wdI q.2.2.2.2.1 (.methodLink own i me.1) | none => false) | _ => false) && nxt code (k + 1) (q.1 + 3)
  | .ireturn => (match q.2.2.2.1 with | 0 => decide (ret = some .int) | _ => decide (ret = some .boolean))
  | .lreturn => decide (ret = some .long)
  | .areturn => (match ret with | some (.object _) => true | _ => false)
  | .return_ => decide (ret = none)
  | _ => false
def ckC (mt : List aME) (own : String) (bytes : ByteArray) (ret : Option FieldType) (code : List aMI) : Nat → List aMI → Bool
  | _, [] => true
  | k, q :: qs => ckD bytes q && ckA mt own ret code k q && ckC mt own bytes ret code (k + 1) qs
/-- a method's own words -/
def ckW (me : aME) : Bool := plainName me.1.cls && decide (me.1.cls ≠ "java/lang/invoke/MethodHandle") && decide (me.1.cls ≠ "java/lang/invoke/VarHandle") && Nat.ble me.2.2.1 45 &&
  wdI me.2.2.2.2.2.1.1 (.code me.1 me.2.1 me.2.2.1 me.2.2.2.1) && (match me.2.2.2.2.1 with
  | true => wdI me.2.2.2.2.2.1.2.1 (.static me.1)
  | false => wdI me.2.2.2.2.2.1.2.1 (.instanceMethod me.1) && wdI me.2.2.2.2.2.1.2.2.1 (.selects me.1.cls me.1 me.1) && (match vwCl[me.2.2.2.2.2.2.2.1]? with
    | some r => decide (r.1 = me.1.cls) && Nat.blt me.2.2.2.2.2.2.2.1 99
    | none => false)) && wdI me.2.2.2.2.2.1.2.2.2 (.initialized me.1.cls) && decide ((parseMethodDescriptor me.1.desc).map (fun d => d.parameters.length) = some me.2.2.2.2.2.2.1)
def ckM (mt : List aME) (me : aME) : Bool := nxt me.2.2.2.2.2.2.2.2 0 0 && ckW me && ckC mt me.1.cls me.2.1 me.2.2.2.1 me.2.2.2.2.2.2.2.2 0 me.2.2.2.2.2.2.2.2
/-- a call: within a depth -/
def aCall (mt : List aME) : Nat → Nat → List Value → aSt → (Option Value → aSt → Prop) → Prop
  | 0, _, _, _, _ => False
  | d + 1, m, vs, σ, R => match mt[m]? with
    | some me => Nat.ble (loA vs).length me.2.2.1 = true ∧ ∃ n, aRun (aCall mt d) R me.2.2.2.2.2.2.2.2 n 0 (lo0 me.2.2.1 vs) [] σ
    | none => False
theorem wd_good {w : Nat} {x : Jvm.Cond} (h : wdI w x = true) : x ∈ lw_good := by
  unfold wdI at h
  rw [Bool.and_eq_true, decide_eq_true_eq] at h
  exact List.mem_filter.mpr ⟨List.mem_of_getElem? h.1, h.2⟩
theorem good_in {w : Jvm.Cond} (h : w ∈ lw_good) : w ∈ lw_tbl ∧ ((w.onTables && w.keeps) = true ∨ ∃ ty, w = .arrayClass ty) := by
  have h1 := List.mem_filter.mp h
  exact ⟨h1.1, good_of_word h1.2⟩
theorem nxt_of {code : List aMI} {k p : Nat} (h : nxt code k p = true) : ∃ q, code[k]? = some q ∧ q.1 = p := by
  unfold nxt at h
  cases hc : code[k]? with
  | none => rw [hc] at h; cases h
  | some q => rw [hc] at h; exact ⟨q, rfl, Nat.eq_of_beq_eq_true h⟩
theorem tgt_of {code : List aMI} {a pc : Nat} {off : Int} (h : tgt code a pc off = true) : ∃ q, code[a]? = some q ∧ (pc : Int) + off = (q.1 : Int) := by
  unfold tgt at h
  cases hc : code[a]? with
  | none => rw [hc] at h; cases h
  | some q => rw [hc] at h; exact ⟨q, rfl, of_decide_eq_true h⟩
theorem ckD_of {bytes : ByteArray} {q : aMI} (h : ckD bytes q = true) (hn : (match q.2.1 with | .tableswitch _ _ _ _ => true | i => false) = false) : decode bytes q.1 = .ok (q.2.1, ilen q.2.1) := by
  unfold ckD at h
  cases hc : decode bytes q.1 with
  | error e => rw [hc] at h; cases h
  | ok r =>
    rw [hc] at h
    dsimp only at h
    rw [Bool.and_eq_true, decide_eq_true_eq] at h
    obtain ⟨h1, h2⟩ := h
    obtain ⟨r1, r2⟩ := r
    dsimp only at h1 h2
    subst h1
    obtain ⟨pc, act, rest⟩ := q
    dsimp only at *
    cases act <;> first | (cases hn; done) | (have := Nat.eq_of_beq_eq_true h2; rw [← this])
theorem ckD_sw {bytes : ByteArray} {q : aMI} {d lo hi : Int} {os : Array Int} (h : ckD bytes q = true) (hn : q.2.1 = .tableswitch d lo hi os) : ∃ n, decode bytes q.1 = .ok (.tableswitch d lo hi os, n) := by
  unfold ckD at h
  cases hc : decode bytes q.1 with
  | error e => rw [hc] at h; cases h
  | ok r =>
    rw [hc] at h
    dsimp only at h
    rw [Bool.and_eq_true, decide_eq_true_eq] at h
    exact ⟨r.2, by rw [← hn, ← h.1]⟩
theorem ckC_of {mt : List aME} {own : String} {bytes : ByteArray} {ret : Option FieldType} {code : List aMI} : ∀ (k : Nat) (qs : List aMI), ckC mt own bytes ret code k qs = true → ∀ (j : Nat) (q : aMI), qs[j]? = some q → ckD bytes q = true ∧ ckA mt own ret code (k + j) q = true
  | _, [], _, j, q, hq => by simp at hq
  | k, q0 :: qs, h, 0, q, hq => by
    have : q0 = q := by simpa using hq
    subst this
    unfold ckC at h
    rw [Bool.and_eq_true, Bool.and_eq_true] at h
    exact ⟨h.1.1, h.1.2⟩
  | k, q0 :: qs, h, j + 1, q, hq => by
    unfold ckC at h
    rw [Bool.and_eq_true] at h
    have := ckC_of (k + 1) qs h.2 j q (by simpa using hq)
    rw [show k + 1 + j = k + (j + 1) by omega] at this
    exact this
theorem pI_of {S : List Value} {f : Int32 → List Value → Prop} (h : pI S f) : ∃ x S1, S = Value.int x :: S1 ∧ f x S1 := by
  unfold pI at h
  split at h
  · exact ⟨_, _, rfl, h⟩
  · exact h.elim
theorem pL_of {S : List Value} {f : Int64 → List Value → Prop} (h : pL S f) : ∃ x S1, S = Value.long x :: S1 ∧ f x S1 := by
  unfold pL at h
  split at h
  · exact ⟨_, _, rfl, h⟩
  · exact h.elim
theorem pR_of {S : List Value} {f : Nat → List Value → Prop} (h : pR S f) : ∃ x S1, S = Value.ref x :: S1 ∧ f x S1 := by
  unfold pR at h
  split at h
  · exact ⟨_, _, rfl, h⟩
  · exact h.elim
theorem pII_of {S : List Value} {f : Int32 → Int32 → List Value → Prop} (h : pII S f) : ∃ x y S1, S = Value.int y :: Value.int x :: S1 ∧ f x y S1 := by
  unfold pII at h
  split at h
  · exact ⟨_, _, _, rfl, h⟩
  · exact h.elim
theorem pLL_of {S : List Value} {f : Int64 → Int64 → List Value → Prop} (h : pLL S f) : ∃ x y S1, S = Value.long y :: Value.long x :: S1 ∧ f x y S1 := by
  unfold pLL at h
  split at h
  · exact ⟨_, _, _, rfl, h⟩
  · exact h.elim
theorem pLI_of {S : List Value} {f : Int64 → Int32 → List Value → Prop} (h : pLI S f) : ∃ x y S1, S = Value.int y :: Value.long x :: S1 ∧ f x y S1 := by
  unfold pLI at h
  split at h
  · exact ⟨_, _, _, rfl, h⟩
  · exact h.elim
theorem pRi_of {S : List Value} {f : Nat → Int32 → List Value → Prop} (h : pRi S f) : ∃ x y S1, S = Value.int y :: Value.ref x :: S1 ∧ f x y S1 := by
  unfold pRi at h
  split at h
  · exact ⟨_, _, _, rfl, h⟩
  · exact h.elim
theorem pRl_of {S : List Value} {f : Nat → Int64 → List Value → Prop} (h : pRl S f) : ∃ x y S1, S = Value.long y :: Value.ref x :: S1 ∧ f x y S1 := by
  unfold pRl at h
  split at h
  · exact ⟨_, _, _, rfl, h⟩
  · exact h.elim
theorem pRii_of {S : List Value} {f : Nat → Int32 → Int32 → List Value → Prop} (h : pRii S f) : ∃ x y z S1, S = Value.int z :: Value.int y :: Value.ref x :: S1 ∧ f x y z S1 := by
  unfold pRii at h
  split at h
  · exact ⟨_, _, _, _, rfl, h⟩
  · exact h.elim
theorem pRil_of {S : List Value} {f : Nat → Int32 → Int64 → List Value → Prop} (h : pRil S f) : ∃ x y z S1, S = Value.long z :: Value.int y :: Value.ref x :: S1 ∧ f x y z S1 := by
  unfold pRil at h
  split at h
  · exact ⟨_, _, _, _, rfl, h⟩
  · exact h.elim
theorem p1_of {S : List Value} {f : Value → List Value → Prop} (h : p1 S f) : ∃ v S1, S = v :: S1 ∧ v.category = 1 ∧ f v S1 := by
  unfold p1 at h
  split at h
  · exact ⟨_, _, rfl, rfl, h⟩
  · exact ⟨_, _, rfl, rfl, h⟩
  · exact h.elim
theorem pCp_of {S : List Value} {f : Nat → Int32 → Int32 → Int32 → List Value → Prop} (h : pCp S f) : ∃ x sp dp n S1, S = Value.int n :: Value.int dp :: Value.ref x :: Value.int sp :: Value.ref x :: S1 ∧ f x sp dp n S1 := by
  unfold pCp at h
  split at h
  · obtain ⟨rfl, h⟩ := h
    exact ⟨_, _, _, _, _, rfl, h⟩
  · exact h.elim
theorem gI_of {L : aLo} {i : Nat} {f : Int32 → Prop} (h : gI L i f) : ∃ x, L[i]? = some (some (.int x)) ∧ f x := by
  unfold gI at h
  split at h
  · rename_i x hx
    exact ⟨x, hx, h⟩
  · exact h.elim
theorem gL_of {L : aLo} {i : Nat} {f : Int64 → Prop} (h : gL L i f) : ∃ x, L[i]? = some (some (.long x)) ∧ f x := by
  unfold gL at h
  split at h
  · rename_i x hx
    exact ⟨x, hx, h⟩
  · exact h.elim
theorem gR_of {L : aLo} {i : Nat} {f : Nat → Prop} (h : gR L i f) : ∃ x, L[i]? = some (some (.ref x)) ∧ f x := by
  unfold gR at h
  split at h
  · rename_i x hx
    exact ⟨x, hx, h⟩
  · exact h.elim
