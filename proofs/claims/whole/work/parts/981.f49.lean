/-! CLASSES: what the prepared table 49 tells (printed by g981.py) -/
theorem KT_49_fr {S : Nat → Nat → Bool} {σ σ' : aSt} (hf : fr S σ σ') (q1 : S 49 7 = false) (q2 : S 49 8 = false) (q3 : S 49 9 = false) (q4 : ∀ k, S 50 k = false) (q5 : ∀ k, S 51 k = false) (q6 : ∀ k, S 52 k = false) (q7 : ∀ k, S 53 k = false) (q8 : ∀ k, S 54 k = false) (q9 : ∀ k, S 55 k = false) (q10 : ∀ k, S 56 k = false) (h : KT_49 σ) : KT_49 σ' := by
  rcases h with h | ⟨A, B, h⟩
  · exact Or.inl (by rw [(hf 49 9 q3).1]; exact h)
  · exact Or.inr ⟨A, B, XTb_49_fr hf q1 q2 q3 q4 q5 q6 q7 q8 q9 q10 h⟩
section FT
variable {A B : Int} {σ : aSt}
theorem fc_49 (h : XTb_49 A B σ) : ∃ L S, L.map Prod.fst = cdN B.natAbs ∧ L.length = (cdN B.natAbs).length ∧ L.length ≤ 32 ∧ CT B.natAbs L ∧ VC A B ∧ (σ.1 49 7 = iZ (L.length : Int) ∧ σ.1 49 8 = iZ A ∧ σ.1 49 9 = iZ B ∧ XA_49 L σ) ∧ (∀ i, i < 2 * L.length → JD_49 A B (cdN B.natAbs) i σ) ∧ MS_49 S σ ∧ SI L (fdK A B (cdN B.natAbs)) (2 * L.length) S ∧ (σ.1 56 0 = iZ ((2 * L.length : Nat) : Int) ∧ σ.1 56 1 = iZ ((cnB (fdK A B (cdN B.natAbs)) (2 * L.length) : Nat) : Int) ∧ σ.1 56 2 = iZ ((cnB (psK A B (cdN B.natAbs)) (2 * L.length) : Nat) : Int) ∧ σ.1 56 3 = iZ ((cnB S 64 : Nat) : Int)) := by
  obtain ⟨L, S, h1, h2, h3, h4, h5, h6, h7⟩ := h
  have e := ct_cd h2 h1
  have el : L.length = (cdN B.natAbs).length := by rw [← e, List.length_map]
  rw [e] at h4 h6 h7
  exact ⟨L, S, e, el, ct_len h1, h1, h2, h3, h4, h5, h6, h7⟩
theorem sz_49 (h : XTb_49 A B σ) : f_ClassTable_size_49 σ = iZ ((2 * (cdN B.natAbs).length : Nat) : Int) := by
  obtain ⟨L, S, e, el, hl, hc, hv, h3, h4, h5, h6, h7⟩ := fc_49 h
  unfold f_ClassTable_size_49
  rw [h3.1, show (2 : Int32) = iZ 2 from rfl, iZ_mul, el]; congr 1
theorem dvs_49 (h : XTb_49 A B σ) {k : Nat} (hk : k < 2 * (cdN B.natAbs).length) : f_ClassTable_divisor_49 (iZ (k : Int)) σ = iZ (dvK (cdN B.natAbs) k) := by
  obtain ⟨L, S, e, el, hl, hc, hv, h3, h4, h5, h6, h7⟩ := fc_49 h
  rw [dv_49 h3.2.2.2 hl (by omega), e]
theorem tly_49 (h : XTb_49 A B σ) {w : Nat} (hw : w < 4) : f_ClassTable_tally_49 (iZ (w : Int)) σ = iZ ((kdC A B w : Nat) : Int) := by
  obtain ⟨L, S, e, el, hl, hc, hv, h3, h4, h5, h6, h7⟩ := fc_49 h
  unfold f_ClassTable_tally_49
  rw [pkN (n := 4) (by decide) rfl (by omega) hw]
  have b1 := hv.2.1.1; have b2 := hv.2.1.2; have b0 := hv.2.2.1
  match w, hw with
  | 0, _ => rw [h7.1, kdC_0, el]
  | 1, _ => rw [h7.2.1, el]; rfl
  | 2, _ => rw [h7.2.2.1, el]; rfl
  | 3, _ =>
    rw [h7.2.2.2, SI_cnt hc (by omega) (by omega) h6, el]
    have : cnB (fun i => S (mskK L i)) (2 * (cdN B.natAbs).length) = kdC A B 3 := cnB_cong _ (fun k hk => by
      refine bool_eq ?_
      show S (mskK L k) = true ↔ mdB A B k = true
      rw [mdB_iff]
      have := SI_end hc (by omega) (by omega) (fd := fdK A B (cdN B.natAbs)) (S := S) h6 (i := k) (by omega)
      rw [e] at this
      exact this)
    rw [this]
  | n + 4, h => exact absurd h (by omega)
theorem ifd_49 (h : XTb_49 A B σ) {k : Nat} (hk : k < 2 * (cdN B.natAbs).length) : f_ClassTable_isFound_49 (iZ (k : Int)) σ = fdK A B (cdN B.natAbs) k := by
  obtain ⟨L, S, e, el, hl, hc, hv, h3, h4, h5, h6, h7⟩ := fc_49 h
  obtain ⟨j1, j2, j3⟩ := h4 k (by omega)
  unfold f_ClassTable_isFound_49 fdK
  rw [pkN (n := 64) (by decide) rfl (by omega) (by omega)]
  cases hq : sqF A B (dvK (cdN B.natAbs) k) with
  | none => rw [j2 hq, if_pos (by decide)]; rfl
  | some me =>
    obtain ⟨m, e⟩ := me
    have hin := sqF_in hq
    rw [(j3 m e hq).1, if_neg (by rw [show (0 : Int32) = iZ 0 from rfl, iZ_lt ⟨by omega, by omega⟩ (bd_lit _ rfl)]; omega)]; rfl
theorem fst_49 (h : XTb_49 A B σ) {k : Nat} (hk : k < 2 * (cdN B.natAbs).length) {m e : Nat} (hq : sqF A B (dvK (cdN B.natAbs) k) = some (m, e)) : f_ClassTable_firstM_49 (iZ (k : Int)) σ = iZ (m : Int) ∧ f_ClassTable_firstE_49 (iZ (k : Int)) σ = iZ (e : Int) := by
  obtain ⟨L, S, e', el, hl, hc, hv, h3, h4, h5, h6, h7⟩ := fc_49 h
  obtain ⟨j1, j2, j3⟩ := h4 k (by omega)
  unfold f_ClassTable_firstM_49 f_ClassTable_firstE_49
  rw [pkN (n := 64) (by decide) rfl (by omega) (by omega), pkN (n := 64) (by decide) rfl (by omega) (by omega)]
  exact j3 m e hq
theorem ips_49 (h : XTb_49 A B σ) {k : Nat} (hk : k < 2 * (cdN B.natAbs).length) : f_ClassTable_isPossible_49 (iZ (k : Int)) σ = psK A B (cdN B.natAbs) k := by
  obtain ⟨L, S, e, el, hl, hc, hv, h3, h4, h5, h6, h7⟩ := fc_49 h
  obtain ⟨j1, j2, j3⟩ := h4 k (by omega)
  unfold f_ClassTable_isPossible_49
  rw [pkN (n := 64) (by decide) rfl (by omega) (by omega), j1]
  cases psK A B (cdN B.natAbs) k
  · rfl
  · rfl
theorem imd_49 (h : XTb_49 A B σ) {k : Nat} (hk : k < 2 * (cdN B.natAbs).length) : f_ClassTable_isMade_49 (iZ (k : Int)) σ = mdB A B k := by
  obtain ⟨L, S, e, el, hl, hc, hv, h3, h4, h5, h6, h7⟩ := fc_49 h
  have b1 := hv.2.1.1; have b2 := hv.2.1.2; have b0 := hv.2.2.1
  unfold f_ClassTable_isMade_49
  rw [mk_49 h3.2.2.2 hl (by omega)]
  simp only [MS_49_pk h5 (msk_lt hc (k := k) (by omega))]
  have := SI_end hc (by omega) (by omega) (fd := fdK A B (cdN B.natAbs)) (S := S) h6 (i := k) (by omega)
  rw [e] at this
  by_cases c : S (mskK L k) = true
  · rw [if_neg (fun z => z c), mdB_iff.mpr (this.mp c)]
  · rw [if_pos c]
    exact (ft_tt (fun z => c (this.mpr (mdB_iff.mp z)))).symm
theorem hlv_49 (h : XTb_49 A B σ) {w : Nat} (hw : w < 4) : f_ClassTable_halvings_49 (iZ (w : Int)) σ = iZ ((hlv (kdC A B w) : Nat) : Int) := by
  have hl : (cdN B.natAbs).length ≤ 32 := by
    obtain ⟨L, S, e, el, hl, _⟩ := fc_49 h
    omega
  have hk := kdC_le A B w
  unfold f_ClassTable_halvings_49 hlv
  have bb := bln_le (h := kdC A B w) (by omega)
  rw [tly_49 h hw, i2j ⟨by omega, by omega⟩, digits_Z (by omega), show (1 : Int32) = iZ 1 from rfl, show (0 : Int32) = iZ 0 from rfl, iZ_sub, imax_Z (bd_lit _ rfl) ⟨by omega, by omega⟩]
  congr 1
  omega
end FT
