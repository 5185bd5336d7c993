/-! advance, in the reference -/
def frN6 : Nat → Nat → Bool := fun o k => Nat.beq o 66 && (Nat.beq k 14 || Nat.beq k 15 || Nat.beq k 16 || Nat.beq k 17)
theorem frA67_N {σ σ' : aSt} (h : fr frA67 σ σ') : fr frN6 σ σ' := fun o k q => h o k (by
  revert q; unfold frN6 frA67
  cases Nat.beq o 66 <;> cases Nat.beq k 14 <;> cases Nat.beq k 15 <;> cases Nat.beq k 16 <;> cases Nat.beq k 17 <;> decide)
theorem frA14_N {σ σ' : aSt} (h : fr frA14 σ σ') : fr frN6 σ σ' := fun o k q => h o k (by
  revert q; unfold frN6 frA14
  cases Nat.beq o 66 <;> cases Nat.beq k 14 <;> cases Nat.beq k 15 <;> cases Nat.beq k 16 <;> cases Nat.beq k 17 <;> decide)
theorem kdT_0 (t : Int) : kdT t = 0 ↔ t < 0 := by
  unfold kdT
  split
  · omega
  · split
    · omega
    · split <;> omega
theorem next_m {N : Nat} (hN : 1000 ≤ N) {T : Nat → Int} {n i : Nat} (ho : okT T n) (hi : i ≤ n) {τ : aSt} (h : MS T n τ) (h5 : τ.1 66 14 = iZ i) : ∃ τ', f_M_advance N τ = some τ' ∧ τ'.1 66 15 = iZ (tkS T n i) ∧ τ'.1 66 14 = iZ (tkP T n i) ∧ τ'.1 66 16 = iZ (tkK T n i) ∧ (tkK T n i = 2 → τ'.1 66 17 = iZ (tkV T 2 99999 (n - tkS T n i) (tkS T n i) 0)) ∧ (tkK T n i = 3 → τ'.1 66 17 = iZ (T (tkS T n i))) ∧ fr frN6 τ τ' := by
  have hn := h.2.1
  rw [adv_is]
  obtain ⟨τ1, g1, g2, g3⟩ := skip_m (N := N) ho (n - i) i (N + 1) τ (by omega) (by omega) h h5
  have hb := skE_bd (T := T) (n := n) (n - i) i (by omega)
  obtain ⟨s, hs⟩ : ∃ s, s = tkS T n i := ⟨_, rfl⟩
  have hs' : skE T n (n - i) i = s := by rw [hs]; rfl
  rw [hs'] at g2 hb
  have f1 := frA14_N g3
  have x1 := MS_fr f1 rfl (fun _ => rfl) h
  rw [g1]
  unfold advT
  rw [g2]
  obtain ⟨τ2, hτ2⟩ : ∃ τ2, τ2 = s_i τ1 66 15 (iZ (s : Int)) := ⟨_, rfl⟩
  rw [← hτ2]
  have f2 : fr frN6 τ1 τ2 := by rw [hτ2]; exact fr_si rfl
  have f3 := fr_trans f1 f2
  have x2 := MS_fr f2 rfl (fun _ => rfl) x1
  have a5 : τ2.1 66 15 = iZ (s : Int) := by rw [hτ2]; rfl
  have a4 : τ2.1 66 14 = iZ (s : Int) := by rw [hτ2]; exact g2
  have tb := tpb_bd ho s
  obtain ⟨k, hk⟩ : ∃ k, k = tkK T n i := ⟨_, rfl⟩
  have hk' : kdT (tpb T n s) = k := by rw [hk, hs]; rfl
  have kb := kdT_bd (tpb T n s)
  rw [hk'] at kb
  have k0 := kdT_0 (tpb T n s)
  have k1 := kdT_1 (tpb T n s)
  have k2 := kdT_2 (tpb T n s)
  rw [hk'] at k0 k1 k2
  have e1 : iZ (s : Int) + (1 : Int32) = iZ ((s + 1 : Nat) : Int) := by rw [iZ_lit, iZ_add]; congr 1
  have c0 : (iZ (tpb T n s) ≠ (-1 : Int32)) = (tpb T n s ≠ -1) := by rw [ne_eq, show (-1 : Int32) = iZ (-1) from rfl, iZ_eq ⟨by omega, by omega⟩ (bd_lit _ rfl)]
  rw [see_ok ho x2 (by omega), Option.bind_some, e1, jZ_lit, jZ_lit, jZ_lit, jZ_lit, in_iZ ⟨by omega, by omega⟩ (bd_lit _ rfl) (bd_lit _ rfl), in_iZ ⟨by omega, by omega⟩ (bd_lit _ rfl) (bd_lit _ rfl), ite_dec, ite_dec]
  simp only [c0]
  unfold tkP
  rw [← hs, ← hk]
  by_cases d0 : k = 0
  · rw [if_neg (show ¬ tpb T n s ≠ -1 by omega), if_pos d0]
    exact ⟨_, rfl, a5, a4, by rw [d0]; rfl, fun h => by omega, fun h => by omega, fr_trans f3 (fr_si rfl)⟩
  · rw [if_pos (show tpb T n s ≠ -1 by omega), if_neg d0]
    by_cases d1 : k = 1
    · rw [if_pos (k1.mp d1), if_neg (show ¬ k = 3 by omega), d1]
      obtain ⟨τ3, w1, w2, w3, w4⟩ := word_m (N := N) ho (n - s) s N τ2 (by omega) (by omega) x2 a4
      exact ⟨τ3, w1, by rw [(w4 66 15 rfl).1]; exact a5, w2, w3, fun h => by omega, fun h => by omega, fr_trans f3 (frA67_N w4)⟩
    · rw [if_neg (fun h => d1 (k1.mpr h))]
      by_cases d2 : k = 2
      · rw [if_pos (k2.mp d2), if_neg (show ¬ k = 3 by omega), d2]
        have f4 : fr frN6 τ2 (s_i τ2 66 17 (0 : Int32)) := fr_si rfl
        obtain ⟨τ3, w1, w2, w3, w5, w4⟩ := numb_m (N := N) ho (n - s) s N 0 (s_i τ2 66 17 (0 : Int32)) (by omega) (by omega) (MS_fr f4 rfl (fun _ => rfl) x2) a4 rfl (by omega) (by omega)
        exact ⟨τ3, w1, by rw [(w4 66 15 rfl).1]; exact a5, w2, w3, fun _ => w5, fun h => by omega, fr_trans f3 (fr_trans f4 (frA67_N w4))⟩
      · rw [if_neg (fun h => d2 (k2.mpr h)), if_pos (show k = 3 by omega)]
        have hsn : s < n := by
          apply Classical.byContradiction
          intro hc
          rw [tpb_out (by omega)] at k0
          exact d0 (k0.mpr (by omega))
        refine ⟨_, rfl, a5, si_eq _ _ _ _, ?_, fun h => by omega, fun _ => ?_, fr_trans f3 (fr_trans (fr_trans (fr_si rfl) (fr_si rfl)) (fr_si rfl))⟩
        · rw [show k = 3 by omega]; rfl
        · rw [← tpb_in (T := T) hsn]; rfl
