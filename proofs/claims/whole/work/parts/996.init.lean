/-! THE START: the state as the constructors leave it -/
def cArr0 : List Int32 := [2, 3, 5, 7, 11, 13, 17, 19, 23, 29, 31, 37, 41, 43, 47, 53, 59, 61, 67, 71, 73, 79, 83, 89, 97]
def cArr1 : List Int32 := [16, 9, 25, 49, 11, 13]
def cArr2 : List Int32 := [2, 3, 5, 7, 11, 13]
def cArr3 : List Int64 := [531, 147, 19483219, 97518889569047, 571, 5659]
def sI0 (xs : Nat → Int32) (L : Nat) : Nat → Nat → Int32 := fun o k => cond (Nat.beq o 1) (cond (Nat.beq k 8) (-1) 0) (cond (Nat.beq o 66) (cond (Nat.beq k 4) 200 (cond (Nat.beq k 5) 4 (cond (Nat.beq k 19) (-1) 0))) (cond (Nat.beq o 87) (cArr0.getD k 0) (cond (Nat.beq o 88) (cArr1.getD k 0) (cond (Nat.beq o 89) (cArr2.getD k 0) (cond (Nat.beq o 91) (xs k) (cond (Nat.beq o 92) (nI L) 0))))))
def sL0 : Nat → Nat → Int64 := fun o k => cond (Nat.beq o 90) (cArr3.getD k 0) 0
def st0 (xs : Nat → Int32) (L : Nat) : aSt := (sI0 xs L, sL0, fun _ _ => false)
theorem cp0 : ∀ k, k < 25 → cArr0.getD k 0 = iZ ((apr.getD k 0 : Nat) : Int) := by decide +kernel
theorem cm0 : ∀ k, k < 6 → cArr1.getD k 0 = iZ ((mdQ.getD k 0 : Nat) : Int) ∧ cArr2.getD k 0 = iZ ((mdP.getD k 0 : Nat) : Int) ∧ cArr3.getD k 0 = mdS.getD k 0 := by decide +kernel
theorem IV_0 (xs : Nat → Int32) (L : Nat) : IV xs L (st0 xs L) := by
  refine Or.inl ⟨fun _ => 0, 0, 0, fun i hi => by omega, ⟨rfl, rfl, rfl, rfl⟩, ⟨rfl, by omega, fun i hi => by omega⟩, ⟨rfl, fun i hi => by omega⟩, fun k hk => rfl, Or.inl rfl, Or.inl rfl, Or.inl rfl, fun k hk => cp0 k hk, fun k hk => cm0 k hk, ⟨rfl, rfl, by omega, fun i hi => by omega⟩, ⟨rfl, rfl⟩, fun j hj => rfl, nI_iZ L⟩
set_option maxRecDepth 100000 in
theorem law_go {xs : Nat → Int32} {L : Nat} (hL : L ≤ 3072) : aGo (aCall MT 140) (fun r _ => r = some (.int 1)) mc_law 0 [some (.ref 91), some (.ref 0), some (.ref 66), none] [] (st0 xs L) :=
  go_st (k' := 2) (L' := LO 0) (S' := []) (σ' := st0 xs L) 2 (fun K h => h) (law_loop hL (L + 6) 0 (st0 xs L) (by omega) (by omega) (IV_0 xs L))
