/-! one token, in the reference -/
theorem in_iZ {x lo hi : Int} (hx : bd 2147483647 x) (h1 : bd 9223372036854775807 lo) (h2 : bd 9223372036854775807 hi) : f_M_in (iZ x).toInt64 (jZ lo) (jZ hi) = decide (lo ≤ x ∧ x ≤ hi) := by
  rw [in_p h1 h2, iZ_int hx]
theorem kdT_1 (t : Int) : kdT t = 1 ↔ 97 ≤ t ∧ t ≤ 122 := by
  unfold kdT
  split
  · omega
  · split
    · omega
    · split <;> omega
theorem kdT_2 (t : Int) : kdT t = 2 ↔ 48 ≤ t ∧ t ≤ 57 := by
  unfold kdT
  split
  · omega
  · split
    · omega
    · split <;> omega
def frA67 : Nat → Nat → Bool := fun o k => Nat.beq o 66 && (Nat.beq k 14 || Nat.beq k 16 || Nat.beq k 17)
theorem word_m {N : Nat} {T : Nat → Int} {n : Nat} (ho : okT T n) : ∀ (j e m : Nat) (σ : aSt), e + j = n → j + 1 ≤ m → MS T n σ → σ.1 66 14 = iZ e → ∃ σ', f_M_advance_l41 N m σ = some σ' ∧ σ'.1 66 14 = iZ (tkE T 1 j e) ∧ σ'.1 66 16 = iZ 1 ∧ fr frA67 σ σ' := by
  intro j
  induction j with
  | zero =>
    intro e m σ he hm h h5
    obtain ⟨m, rfl, _⟩ := fuel hm
    have hn := h.2.1
    rw [f_M_advance_l41, h5, see_ok ho h (by omega), Option.bind_some, tpb_out (by omega), if_neg (by decide)]
    exact ⟨_, rfl, by rw [si_ne (Or.inr (by decide))]; exact h5, si_eq _ _ _ _, fr_si rfl⟩
  | succ j ih =>
    intro e m σ he hm h h5
    obtain ⟨m, rfl, hm'⟩ := fuel hm
    have hn := h.2.1
    have hT := ho e (by omega)
    rw [f_M_advance_l41, h5, see_ok ho h (by omega), Option.bind_some, tpb_in (by omega), jZ_lit, jZ_lit, in_iZ ⟨by omega, by omega⟩ (bd_lit _ rfl) (bd_lit _ rfl), ite_dec]
    unfold tkE
    have e3 : iZ (e : Int) + (1 : Int32) = iZ ((e + 1 : Nat) : Int) := by rw [iZ_lit, iZ_add]; congr 1
    by_cases c : kdT (T e) = 1
    · rw [if_pos ((kdT_1 _).mp c), if_pos c, e3]
      have f1 : fr frA67 σ (s_i σ 66 14 (iZ ((e + 1 : Nat) : Int))) := fr_si rfl
      obtain ⟨σ', g1, g2, g3, g4⟩ := ih (e + 1) m _ (by omega) hm' (MS_fr f1 rfl (fun _ => rfl) h) (si_eq _ _ _ _)
      exact ⟨σ', g1, g2, g3, fr_trans f1 g4⟩
    · rw [if_neg (fun h => c ((kdT_1 _).mpr h)), if_neg c]
      exact ⟨_, rfl, by rw [si_ne (Or.inr (by decide))]; exact h5, si_eq _ _ _ _, fr_si rfl⟩
theorem numb_m {N : Nat} {T : Nat → Int} {n : Nat} (ho : okT T n) : ∀ (j e m : Nat) (v : Int) (σ : aSt), e + j = n → j + 1 ≤ m → MS T n σ → σ.1 66 14 = iZ e → σ.1 66 17 = iZ v → 0 ≤ v → v ≤ 99999 → ∃ σ', f_M_advance_l70 N m σ = some σ' ∧ σ'.1 66 14 = iZ (tkE T 2 j e) ∧ σ'.1 66 16 = iZ 2 ∧ σ'.1 66 17 = iZ (tkV T 2 99999 j e v) ∧ fr frA67 σ σ' := by
  intro j
  induction j with
  | zero =>
    intro e m v σ he hm h h5 h7 v0 v1
    obtain ⟨m, rfl, _⟩ := fuel hm
    have hn := h.2.1
    rw [f_M_advance_l70, h5, see_ok ho h (by omega), Option.bind_some, tpb_out (by omega), if_neg (by decide)]
    exact ⟨_, rfl, by rw [si_ne (Or.inr (by decide))]; exact h5, si_eq _ _ _ _, by rw [si_ne (Or.inr (by decide))]; exact h7, fr_si rfl⟩
  | succ j ih =>
    intro e m v σ he hm h h5 h7 v0 v1
    obtain ⟨m, rfl, hm'⟩ := fuel hm
    have hn := h.2.1
    have hT := ho e (by omega)
    rw [f_M_advance_l70, h5, see_ok ho h (by omega), Option.bind_some, Option.bind_some, tpb_in (by omega), jZ_lit, jZ_lit, in_iZ ⟨by omega, by omega⟩ (bd_lit _ rfl) (bd_lit _ rfl), ite_dec, h7]
    unfold tkE tkV
    have e3 : iZ (e : Int) + (1 : Int32) = iZ ((e + 1 : Nat) : Int) := by rw [iZ_lit, iZ_add]; congr 1
    by_cases c : kdT (T e) = 2
    · have c' := (kdT_2 _).mp c
      have e1 : (10 : Int32) * iZ v + iZ (T e) - (48 : Int32) = iZ (v * 10 + T e - 48) := by
        rw [show (10 : Int32) = iZ 10 from rfl, show (48 : Int32) = iZ 48 from rfl, iZ_mul, iZ_add, iZ_sub, Int.mul_comm]
      have e2 : imin (99999 : Int32) (iZ (v * 10 + T e - 48)) = iZ (min 99999 (v * 10 + T e - 48)) := by
        rw [show (99999 : Int32) = iZ 99999 from rfl, imin_Z (bd_lit _ rfl) ⟨by omega, by omega⟩]
      rw [if_pos c', if_pos c, if_pos c, e1, e2, e3]
      obtain ⟨σ1, hσ1⟩ : ∃ σ1, σ1 = s_i (s_i σ 66 17 (iZ (min 99999 (v * 10 + T e - 48)))) 66 14 (iZ ((e + 1 : Nat) : Int)) := ⟨_, rfl⟩
      have f1 : fr frA67 σ σ1 := by rw [hσ1]; exact fr_trans (fr_si rfl) (fr_si rfl)
      rw [← hσ1]
      obtain ⟨σ', g1, g2, g3, g4, g5⟩ := ih (e + 1) m (min 99999 (v * 10 + T e - 48)) σ1 (by omega) hm' (MS_fr f1 rfl (fun _ => rfl) h) (by rw [hσ1]; rfl) (by rw [hσ1]; rfl) (by omega) (by omega)
      exact ⟨σ', g1, g2, g3, g4, fr_trans f1 g5⟩
    · rw [if_neg (fun h => c ((kdT_2 _).mpr h)), if_neg c, if_neg c]
      exact ⟨_, rfl, by rw [si_ne (Or.inr (by decide))]; exact h5, si_eq _ _ _ _, by rw [si_ne (Or.inr (by decide))]; exact h7, fr_si rfl⟩
