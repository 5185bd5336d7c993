/-! three methods that take any array -/
def f_pick (σ : aSt) (row : Nat) (i : Int32) : Int32 := if i < 0 then 0 else if lenI σ row ≤ i then 0 else σ.1 row i.toNatClampNeg
def f_store (σ : aSt) (row : Nat) (i v : Int32) : aSt := if i < 0 then σ else if lenI σ row ≤ i then σ else s_i σ row i.toNatClampNeg v
def f_fill (σ : aSt) (row : Nat) (v : Int32) : aSt := (fun a b => cond (Nat.beq a row) (if b < oln row then v else σ.1 a b) (σ.1 a b), σ.2)
theorem alen_ok {row t : Nat} {Q : Prop} (h : oty row = t) (ht : t ≠ 9) (q : Q) : cond (Nat.beq (oty row) 9) False Q := by
  rw [h, beq_ne ht]
  exact q
theorem blt_ok {row : Nat} {Q : Prop} (h : row < nW) (q : Q) : cond (Nat.blt row nW) Q False := by
  have : Nat.blt row nW = true := by simpa [Nat.blt_eq] using h
  rw [this]
  exact q
theorem c_pick (d : Nat) (σ : aSt) (row : Nat) (hr : oty row = 0) (i : Int32) {P : Option Value → aSt → Prop} (h : P (some (.int (f_pick σ row i))) σ) : aCall MT (d + 1) 9 [.ref row, .int i] σ P := by
  unfold f_pick at h
  refine call_of (code := mc_Whole_pick) (L := [some (.ref row), some (.int i)]) rfl rfl rfl rfl ?_
  refine go_if (c := i < 0) (k1 := 10) (L1 := [some (.ref row), some (.int i)]) (S1 := []) (σ1 := σ) (k2 := 2) (L2 := [some (.ref row), some (.int i)]) (S2 := []) (σ2 := σ) 2 (fun n h => h) (fun hc => ?_) (fun hc => ?_)
  · rw [if_pos hc] at h
    exact go_ret 2 (fun _ => h)
  · rw [if_neg hc] at h
    refine go_if (c := lenI σ row ≤ i) (k1 := 10) (L1 := [some (.ref row), some (.int i)]) (S1 := []) (σ1 := σ) (k2 := 6) (L2 := [some (.ref row), some (.int i)]) (S2 := []) (σ2 := σ) 4 (fun n h => alen_ok hr (by decide) h) (fun hc2 => ?_) (fun hc2 => ?_)
    · rw [if_pos hc2] at h
      exact go_ret 2 (fun _ => h)
    · rw [if_neg hc2] at h
      refine go_q (Q := inb 0 σ row i) (k' := 9) (L' := [some (.ref row), some (.int i)]) (S' := [.int (σ.1 row i.toNatClampNeg)]) (σ' := σ) 3 (inb_mk hr (Int32.not_lt.mp hc) (Int32.not_le.mp hc2)) (fun n h => h) ?_
      exact go_ret 2 (fun _ => h)
theorem c_store (d : Nat) (σ : aSt) (row : Nat) (hr : oty row = 0) (hw : Nat.blt row nW = true) (i v : Int32) {P : Option Value → aSt → Prop} (h : P none (f_store σ row i v)) : aCall MT (d + 1) 1 [.ref row, .int i, .int v] σ P := by
  unfold f_store at h
  have hw : row < nW := by simpa [Nat.blt_eq] using hw
  refine call_of (code := mc_Whole_store) (L := [some (.ref row), some (.int i), some (.int v)]) rfl rfl rfl rfl ?_
  refine go_if (c := i < 0) (k1 := 10) (L1 := [some (.ref row), some (.int i), some (.int v)]) (S1 := []) (σ1 := σ) (k2 := 2) (L2 := [some (.ref row), some (.int i), some (.int v)]) (S2 := []) (σ2 := σ) 2 (fun n h => h) (fun hc => ?_) (fun hc => ?_)
  · rw [if_pos hc] at h
    exact go_ret 1 (fun _ => h)
  · rw [if_neg hc] at h
    refine go_if (c := lenI σ row ≤ i) (k1 := 10) (L1 := [some (.ref row), some (.int i), some (.int v)]) (S1 := []) (σ1 := σ) (k2 := 6) (L2 := [some (.ref row), some (.int i), some (.int v)]) (S2 := []) (σ2 := σ) 4 (fun n h => alen_ok hr (by decide) h) (fun hc2 => ?_) (fun hc2 => ?_)
    · rw [if_pos hc2] at h
      exact go_ret 1 (fun _ => h)
    · rw [if_neg hc2] at h
      refine go_q (Q := inb 0 σ row i) (k' := 10) (L' := [some (.ref row), some (.int i), some (.int v)]) (S' := []) (σ' := s_i σ row i.toNatClampNeg v) 4 (inb_mk hr (Int32.not_lt.mp hc) (Int32.not_le.mp hc2)) (fun n h => ⟨h.1, blt_ok hw h.2⟩) ?_
      exact go_ret 1 (fun _ => h)
def fillTo (σ : aSt) (row : Nat) (v : Int32) (j : Nat) : aSt := (fun a b => cond (Nat.beq a row) (if b < j then v else σ.1 a b) (σ.1 a b), σ.2)
theorem fillTo_0 (σ : aSt) (row : Nat) (v : Int32) : fillTo σ row v 0 = σ := by
  refine Prod.ext ?_ rfl
  funext a b
  show cond (Nat.beq a row) (if b < 0 then v else σ.1 a b) (σ.1 a b) = σ.1 a b
  rw [if_neg (Nat.not_lt_zero b)]
  cases Nat.beq a row <;> rfl
theorem fillTo_s (σ : aSt) (row : Nat) (v : Int32) (j : Nat) : s_i (fillTo σ row v j) row j v = fillTo σ row v (j + 1) := by
  refine Prod.ext ?_ rfl
  funext a b
  show cond (Nat.beq a row) (cond (Nat.beq b j) v (cond (Nat.beq a row) (if b < j then v else σ.1 a b) (σ.1 a b))) (cond (Nat.beq a row) (if b < j then v else σ.1 a b) (σ.1 a b)) = cond (Nat.beq a row) (if b < j + 1 then v else σ.1 a b) (σ.1 a b)
  cases Nat.beq a row with
  | false => rfl
  | true =>
    show cond (Nat.beq b j) v (if b < j then v else σ.1 a b) = if b < j + 1 then v else σ.1 a b
    by_cases h : b = j
    · rw [h, beq_self, if_pos (Nat.lt_succ_self j)]; rfl
    · rw [beq_ne h]
      show (if b < j then v else σ.1 a b) = _
      by_cases h2 : b < j
      · rw [if_pos h2, if_pos (by omega)]
      · rw [if_neg h2, if_neg (by omega)]
theorem t_fill (d : Nat) (σ : aSt) (row : Nat) (hr : oty row = 0) (hw : row < nW) (v : Int32) {P : Option Value → aSt → Prop} (h : P none (f_fill σ row v)) : ∀ (n j : Nat), j + n = oln row → aGo (aCall MT d) P mc_Arrays_fill 5 [some (.ref row), some (.int v), some (.int (nI j)), some (.int (nI (oln row)))] [] (fillTo σ row v j) := by
  intro n
  have hs := oln_small row
  induction n with
  | zero =>
    intro j hj
    have hj : j = oln row := by omega
    subst hj
    refine go_if (c := nI (oln row) ≤ nI (oln row)) (k1 := 14) (L1 := [some (.ref row), some (.int v), some (.int (nI (oln row))), some (.int (nI (oln row)))]) (S1 := []) (σ1 := fillTo σ row v (oln row)) (k2 := 8) (L2 := [some (.ref row), some (.int v), some (.int (nI (oln row))), some (.int (nI (oln row)))]) (S2 := []) (σ2 := fillTo σ row v (oln row)) 3 (fun n h => h) (fun hc => ?_) (fun hc => absurd (Int32.le_refl _) hc)
    exact go_ret 1 (fun _ => h)
  | succ n ih =>
    intro j hj
    refine go_if (c := nI (oln row) ≤ nI j) (k1 := 14) (L1 := [some (.ref row), some (.int v), some (.int (nI j)), some (.int (nI (oln row)))]) (S1 := []) (σ1 := fillTo σ row v j) (k2 := 8) (L2 := [some (.ref row), some (.int v), some (.int (nI j)), some (.int (nI (oln row)))]) (S2 := []) (σ2 := fillTo σ row v j) 3 (fun n h => h) (fun hc => absurd hc (nI_ge (by omega) hs)) (fun hc => ?_)
    refine go_q (Q := inb 0 (fillTo σ row v j) row (nI j)) (k' := 12) (L' := [some (.ref row), some (.int v), some (.int (nI j)), some (.int (nI (oln row)))]) (S' := []) (σ' := s_i (fillTo σ row v j) row (nI j).toNatClampNeg v) 4 (inb_mk hr (nI_pos' (by omega)) ?_) (fun n h => ⟨h.1, blt_ok hw h.2⟩) ?_
    · unfold lenI
      rw [beq_ne (fun q => by subst q; exact absurd hw (by decide))]
      exact nI_lt (by omega) hs
    · rw [nI_clamp (by omega), fillTo_s]
      refine go_st (k' := 5) (L' := [some (.ref row), some (.int v), some (.int (nI (j + 1))), some (.int (nI (oln row)))]) (S' := []) (σ' := fillTo σ row v (j + 1)) 2 (fun n h => ?_) (ih (j + 1) (by omega))
      rw [← nI_1] at h
      exact h
theorem c_fill (d : Nat) (σ : aSt) (row : Nat) (hr : oty row = 0) (hw : Nat.blt row nW = true) (v : Int32) {P : Option Value → aSt → Prop} (h : P none (f_fill σ row v)) : aCall MT (d + 1) 28 [.ref row, .int v] σ P := by
  have hw : row < nW := by simpa [Nat.blt_eq] using hw
  refine call_of (code := mc_Arrays_fill) (L := [some (.ref row), some (.int v), none, none]) rfl rfl rfl rfl ?_
  have key := t_fill d σ row hr hw v h (oln row) 0 (by omega)
  rw [fillTo_0] at key
  refine go_st (k' := 5) (L' := [some (.ref row), some (.int v), some (.int (nI 0)), some (.int (nI (oln row)))]) (S' := []) (σ' := σ) 5 (fun n h => ?_) key
  have hl : lenI σ row = nI (oln row) := by
    unfold lenI
    rw [beq_ne (fun q => by subst q; exact absurd hw (by decide))]
    rfl
  rw [← hl] at h
  exact alen_ok hr (by decide) h
