/-! THE LAW'S BODY, case by case (printed by g991.py) -/
abbrev LO (i : Nat) : aLo := [some (.ref 91), some (.ref 0), some (.ref 66), some (.int (iZ (i : Int)))]
theorem rdS {xs : Nat → Int32} {Ls : Nat} {σ : aSt} (h : SC xs Ls σ) {i j : Nat} (hij : i + j < Ls) (hl : Ls ≤ 3072) {c : Int32} (hc : c = iZ (j : Int)) : inb 0 σ 91 (iZ (i : Int) + c) ∧ σ.1 91 (iZ (i : Int) + c).toNatClampNeg = xs (i + j) := by
  have e : iZ (i : Int) + c = iZ ((i + j : Nat) : Int) := by rw [hc, iZ_add]; congr 1
  have hlen : lenI σ 91 = iZ (Ls : Int) := h.2
  rw [e]
  refine ⟨inb_mk rfl (by rw [show (0 : Int32) = iZ 0 from rfl, iZ_le (bd_lit _ rfl) ⟨by omega, by omega⟩]; omega) (by rw [hlen, iZ_lt ⟨by omega, by omega⟩ ⟨by omega, by omega⟩]; omega), ?_⟩
  rw [iZ_idx (by omega) (by omega), Int.toNat_natCast]
  exact h.1 _ hij
section LAW
variable {C : Nat → List Value → aSt → (Option Value → aSt → Prop) → Prop} {P : Option Value → aSt → Prop} {code : List aMI} {k k' : Nat} {L : aLo} {S S' : List Value} {σ : aSt}
theorem go_rd {xs : Nat → Int32} {Ls : Nat} (hs : SC xs Ls σ) {i : Nat} (hl : Ls ≤ 3072) (j : Nat) (c : Int32) (hc : c = iZ (j : Int)) (hij : i + j < Ls) (m : Nat) (h : ∀ K : Nat → aLo → List Value → aSt → Prop, (inb 0 σ 91 (iZ (i : Int) + c) ∧ K k' L (.int (σ.1 91 (iZ (i : Int) + c).toNatClampNeg) :: S') σ) → aRk C P code K m k L S σ) (g : aGo C P code k' L (.int (xs (i + j)) :: S') σ) : aGo C P code k L S σ := by
  obtain ⟨h1, h2⟩ := rdS hs hij hl hc
  rw [← h2] at g
  exact go_q m h1 h g
end LAW
