/-! CLASSES: moduli, what is common to the three tables (printed by g978.py) -/
def mdQ : List Nat := [16, 9, 25, 49, 11, 13]
def mdP : List Nat := [2, 3, 5, 7, 11, 13]
def mdS : List Int64 := [531, 147, 19483219, 97518889569047, 571, 5659]
/-- the class's three rows of moduli -/
def CM (σ : aSt) : Prop := ∀ k, k < 6 → σ.1 88 k = iZ ((mdQ.getD k 0 : Nat) : Int) ∧ σ.1 89 k = iZ ((mdP.getD k 0 : Nat) : Int) ∧ σ.2.1 90 k = mdS.getD k 0
theorem CM_fr {S : Nat → Nat → Bool} {σ σ' : aSt} (hf : fr S σ σ') (h1 : ∀ k, S 88 k = false) (h2 : ∀ k, S 89 k = false) (h3 : ∀ k, S 90 k = false) (h : CM σ) : CM σ' := fun k hk => ⟨by rw [(hf 88 k (h1 k)).1]; exact (h k hk).1, by rw [(hf 89 k (h2 k)).1]; exact (h k hk).2.1, by rw [(hf 90 k (h3 k)).2.1]; exact (h k hk).2.2⟩
theorem md_ok : ∀ k, k < 6 → okQ (mdQ.getD k 0) (mdP.getD k 0)
  | 0, _ => okQ_16
  | 1, _ => okQ_9
  | 2, _ => okQ_25
  | 3, _ => okQ_49
  | 4, _ => okQ_11
  | 5, _ => okQ_13
  | n + 6, h => absurd h (by omega)
theorem md_bit0 : ∀ k, k < 6 → ∀ r, r < 49 → r < mdQ.getD k 0 → decide (((lushr (mdS.getD k 0) (iZ ((r : Nat) : Int))) &&& (1 : Int64)) = (0 : Int64)) = !(sqQ (mdQ.getD k 0) r) := by decide +kernel
theorem md_bit {k r : Nat} (hk : k < 6) (hr : r < mdQ.getD k 0) : (((lushr (mdS.getD k 0) (iZ ((r : Nat) : Int))) &&& (1 : Int64)) = (0 : Int64)) = ¬ (sqQ (mdQ.getD k 0) r = true) := by
  have h49 := (md_ok k hk).2.1
  have h := md_bit0 k hk r (by omega) hr
  apply propext
  constructor
  · intro z
    rw [decide_eq_true z] at h
    intro q
    rw [q] at h
    exact absurd h (by decide)
  · intro z
    rw [ft_tt z] at h
    exact of_decide_eq_true h
theorem ixor : ∀ a, a < 64 → ∀ b, b < 64 → iZ ((a : Nat) : Int) ^^^ iZ ((b : Nat) : Int) = iZ ((a ^^^ b : Nat) : Int) := by decide +kernel
def VC (A B : Int) : Prop := bd 120 A ∧ bd 4400 B ∧ B ≠ 0 ∧ A * A - 4 * B ≠ 0
theorem ct_cd {A B : Int} (h : VC A B) {L : List (Nat × Nat)} (hc : CT B.natAbs L) : L.map Prod.fst = cdN B.natAbs := by
  obtain ⟨_, h2, h3, _⟩ := h
  have := h2.1; have := h2.2
  obtain ⟨ps, hG, _⟩ := hc
  exact GL_cd hG (by omega) (by omega)
/-- of a CLASS -/
theorem dv_ok {A B : Int} (h : VC A B) {k : Nat} (hk : k < 2 * (cdN B.natAbs).length) : dvK (cdN B.natAbs) k ≠ 0 ∧ bd 4400 (dvK (cdN B.natAbs) k) ∧ dvK (cdN B.natAbs) k ∣ B ∧ B.tdiv (dvK (cdN B.natAbs) k) ≠ 0 := by
  obtain ⟨h1, h2, h3, h4⟩ := h
  have := h2.1; have := h2.2
  have q := dvK_bd (okL_cd (b := B.natAbs) (by omega)) hk
  have d : dvK (cdN B.natAbs) k ∣ B := by
    rw [← Int.natAbs_dvd_natAbs, dvK_sg, sg_abs]
    have m := getD_mem (L := cdN B.natAbs) (i := k / 2) (by omega)
    exact Nat.dvd_of_mod_eq_zero ((cdF_mem _ _ _).mp m).2.2.1
  refine ⟨q.1, q.2, d, fun z => ?_⟩
  have e := Int.mul_tdiv_cancel' d
  rw [z, Int.mul_zero] at e
  exact h3 e.symm
theorem found_no {A B : Int} (h : VC A B) {k : Nat} (hk : k < 2 * (cdN B.natAbs).length) (hp : psB A B (dvK (cdN B.natAbs) k) = false) : sqF A B (dvK (cdN B.natAbs) k) = none := by
  obtain ⟨d1, d2, d3, d4⟩ := dv_ok h hk
  cases hs : sqF A B (dvK (cdN B.natAbs) k) with
  | none => rfl
  | some me =>
    obtain ⟨m, e⟩ := me
    have := found_ps h.2.2.1 h.2.2.2 d1 d3 hs
    rw [hp] at this
    exact absurd this ff_tt
def psK (A B : Int) (L : List Nat) (k : Nat) : Bool := psB A B (dvK L k)
theorem rtA_neg {z : Int} : rtA z < 0 ↔ ¬ isq z = true := by
  unfold rtA
  by_cases c : isq z = true
  · rw [if_pos c]; exact ⟨fun q => by omega, fun q => absurd c q⟩
  · rw [if_neg c]; exact ⟨fun _ => c, fun _ => by omega⟩
theorem isq_nn {z : Int} (h : isq z = true) : 0 ≤ z := by
  unfold isq at h
  rw [Bool.and_eq_true, decide_eq_true_eq] at h
  exact h.1
theorem mm20 {m : Nat} (h : m ≤ 49) : bd 2147483647 ((m : Int) * m) := by
  have := Nat.mul_le_mul h h
  have e : ((m * m : Nat) : Int) = (m : Int) * m := Int.natCast_mul m m
  exact ⟨by omega, by omega⟩
def CjS (S : Nat → Bool) (m j k : Nat) : Bool := S k || (S (k ^^^ m) && Nat.blt (k ^^^ m) j)
