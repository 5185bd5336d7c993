/-! undo -/
section CHG
variable {a b : Int} {M E : Nat}
theorem undo_eq {N : Nat} (hc : CVc a b M E) (hN : 10000 ≤ N) {σ τ : aSt} (hx : RX a b M E σ) (hz : Z9 σ) (hm : RM a b M E τ) {H : Nat → Int} {d : Nat} (hH : XH H d σ) (hK : MH H d τ) (hV : HV H d) : ∃ r σ' τ', f_X_undo N σ = some (r, σ') ∧ f_M_undo N τ = some (r, τ') ∧ ((σ' = σ ∧ τ' = τ) ∨ Out a b σ τ σ' τ') := by
  obtain ⟨h1, h2, h3⟩ := id hH
  obtain ⟨k1, k2, k3⟩ := id hK
  unfold f_X_undo f_M_undo
  rw [hx.1, hm.1, if_pos (c := true = true) rfl, if_pos (c := true = true) rfl]
  have ed : f_History_depth σ = iZ d := h1
  rw [ed, k1]
  by_cases c0 : d = 0
  · subst c0
    have cc : ¬ (iZ ((0 : Nat) : Int) ≠ 0) := fun h => h rfl
    rw [if_neg cc, if_neg cc]
    exact ⟨_, σ, τ, rfl, rfl, Or.inl ⟨rfl, rfl⟩⟩
  · have cc : iZ (d : Int) ≠ 0 := by rw [ne_eq, iZ_lit, iZ_eq ⟨by omega, by omega⟩ (bd_lit _ rfl)]; omega
    rw [if_pos cc, if_pos cc, lt_eq]
    obtain ⟨e, rfl⟩ : ∃ e, d = e + 1 := ⟨d - 1, by omega⟩
    have es : iZ ((e + 1 : Nat) : Int) - (1 : Int32) = iZ (e : Int) := by rw [iZ_lit, iZ_sub]; congr 1; omega
    have hpop : f_History_pop σ = s_i σ 6 1 (iZ (e : Int)) := by
      unfold f_History_pop
      rw [h1, if_neg (by rw [iZ_lit, iZ_le ⟨by omega, by omega⟩ (bd_lit _ rfl)]; omega), es]
    obtain ⟨σ1, hσ1⟩ : ∃ σ1, σ1 = s_i σ 6 1 (iZ (e : Int)) := ⟨_, rfl⟩
    have p1 : fr frH σ σ1 := by rw [hσ1]; exact fr_si rfl
    have hH1 : XH H e σ1 := ⟨by rw [hσ1]; rfl, by omega, fun i hi => by rw [hσ1, si_ne (Or.inl (by decide))]; exact h3 i (by omega)⟩
    have z1 : Z9 σ1 := fun k hk => by rw [(p1 9 k rfl).1]; exact hz k hk
    have lat : ∀ j : Nat, j < 4 → f_History_latest (iZ j) σ1 = iZ (H (4 * e + j)) := fun j hj => by
      unfold f_History_latest
      rw [hH1.1, show iZ (e : Int) * (4 : Int32) + iZ (j : Int) = iZ ((e : Int) * 4 + j) from by rw [iZ_lit, iZ_mul, iZ_add], pick_in (by decide) (by decide) (by omega) (by show (e : Int) * 4 + j < ((40 : Nat) : Int); omega), show ((e : Int) * 4 + (j : Int)).toNat = 4 * e + j from by omega, hσ1, si_ne (Or.inl (by decide))]
      exact h3 (4 * e + j) (by omega)
    obtain ⟨a', b', M', E', hc', v0, v1, v2, v3⟩ := hV e (by omega)
    obtain ⟨σ', g1, g2, g3, g4⟩ := become_ok hc' hN z1
    obtain ⟨τ1, hτ1⟩ : ∃ τ1, τ1 = s_i τ 66 22 (iZ (e : Int)) := ⟨_, rfl⟩
    have t1 : fr frK τ τ1 := by rw [hτ1]; exact fr_si rfl
    have hK1 : MH H e τ1 := ⟨by rw [hτ1]; rfl, by omega, fun i hi => by rw [hτ1, si_ne (Or.inl (by decide))]; exact k3 i (by omega)⟩
    obtain ⟨τ', s1, s2, s3⟩ := becomes_ok hc' hN τ1
    have l0 := lat 0 (by omega)
    have l1 := lat 1 (by omega)
    have l2 := lat 2 (by omega)
    have l3 := lat 3 (by omega)
    rw [Nat.add_zero, v0] at l0
    rw [v1] at l1; rw [v2] at l2; rw [v3] at l3
    rw [hpop, ← hσ1, show f_History_latest (0 : Int32) σ1 = iZ a' from l0, show f_History_latest (1 : Int32) σ1 = iZ b' from l1, show f_History_latest (2 : Int32) σ1 = iZ (M' : Int) from l2, show f_History_latest (3 : Int32) σ1 = iZ (E' : Int) from l3, g1, Option.bind_some]
    have inr : ∀ z : Int, 0 ≤ z → z < 40 → (0 ≤ iZ z ∧ iZ z < (40 : Int32)) := fun z z0 z1 => by
      rw [iZ_lit, iZ_lit, iZ_le (bd_lit _ rfl) ⟨by omega, by omega⟩, iZ_lt ⟨by omega, by omega⟩ (bd_lit _ rfl)]; omega
    rw [es, ← hτ1, show (4 : Int32) * iZ (e : Int) = iZ (4 * (e : Int)) from by rw [iZ_lit, iZ_mul], show iZ (4 * (e : Int)) + (1 : Int32) = iZ (4 * (e : Int) + 1) from by rw [iZ_lit, iZ_add], show iZ (4 * (e : Int)) + (2 : Int32) = iZ (4 * (e : Int) + 2) from by rw [iZ_lit, iZ_add], show iZ (4 * (e : Int)) + (3 : Int32) = iZ (4 * (e : Int) + 3) from by rw [iZ_lit, iZ_add]]
    rw [if_pos (inr _ (by omega) (by omega)), if_pos (inr _ (by omega) (by omega)), if_pos (inr _ (by omega) (by omega)), if_pos (inr _ (by omega) (by omega)), iZ_idx (by omega) (by omega), iZ_idx (by omega) (by omega), iZ_idx (by omega) (by omega), iZ_idx (by omega) (by omega), show (4 * (e : Int)).toNat = 4 * e from by omega, show (4 * (e : Int) + 1).toNat = 4 * e + 1 from by omega, show (4 * (e : Int) + 2).toNat = 4 * e + 2 from by omega, show (4 * (e : Int) + 3).toNat = 4 * e + 3 from by omega, k3 (4 * e) (by omega), k3 (4 * e + 1) (by omega), k3 (4 * e + 2) (by omega), k3 (4 * e + 3) (by omega), v0, v1, v2, v3, s1, Option.bind_some]
    have hH2 := XH_E g3 hH1
    have hK2 := MH_N s3 hK1
    have ed2 : f_History_depth σ' = iZ (e : Int) := hH2.1
    simp only
    rw [ed2, hK2.1]
    refine ⟨_, σ', τ', rfl, rfl, Or.inr ⟨a', b', M', E', H, e, hc', g2, ?_, s2, hH2, hK2, fun r hr => hV r (by omega), fr_trans (frH_EH p1) (frE_EH g3), fr_trans (frK_NK t1) (frN_NK s3)⟩⟩
    rcases g4 with q | ⟨q1, q2, q3, q4⟩
    · exact Or.inl q
    · refine Or.inr ⟨?_, ?_, fr_trans (frH_EH0 p1) (frE_EH0 q4)⟩
      · rw [(p1 11 6 rfl).1, hx.2.2.1] at q2
        have h1 := (CVc_CV hc).1.1; have h2 := (CVc_CV hc').1.1
        rw [iZ_eq (bd_mono h1 (by decide)) (bd_mono h2 (by decide))] at q2
        exact q2.symm
      · rw [(p1 11 7 rfl).1, hx.2.2.2.1] at q3
        have h1 := (CVc_CV hc).1.2; have h2 := (CVc_CV hc').1.2
        rw [iZ_eq (bd_mono h1 (by decide)) (bd_mono h2 (by decide))] at q3
        exact q3.symm
end CHG
