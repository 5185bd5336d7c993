/-! the blanks before a token, in the reference -/
theorem and255 : ∀ t : Nat, t < 256 → (iZ (sb8 (t : Int)) &&& (255 : Int32)) = iZ (t : Int) := by decide +kernel
/-- the reference while it reads: the text's length is kept at (66, 13) -/
def MS (T : Nat → Int) (n : Nat) (τ : aSt) : Prop := τ.1 66 13 = iZ n ∧ n ≤ 200 ∧ ∀ i, i < n → τ.1 70 i = iZ (sb8 (T i))
theorem MS_fr {S : Nat → Nat → Bool} {T : Nat → Int} {n : Nat} {σ σ' : aSt} (hf : fr S σ σ') (h0 : S 66 13 = false) (h1 : ∀ k, S 70 k = false) (h : MS T n σ) : MS T n σ' := ⟨by rw [(hf 66 13 h0).1]; exact h.1, h.2.1, fun i hi => by rw [(hf 70 i (h1 i)).1]; exact h.2.2 i hi⟩
theorem see_ok {N : Nat} {T : Nat → Int} {n : Nat} (ho : okT T n) {τ : aSt} (h : MS T n τ) {i : Nat} (hi : i ≤ 1000) : f_M_see N (iZ i) τ = some (iZ (tpb T n i)) := by
  obtain ⟨h1, h2, h3⟩ := h
  unfold f_M_see
  rw [h1]
  by_cases c : i < n
  · have hT := ho i c
    obtain ⟨t, ht⟩ : ∃ t : Nat, T i = t := ⟨(T i).toNat, by omega⟩
    rw [if_neg (by rw [iZ_le ⟨by omega, by omega⟩ ⟨by omega, by omega⟩]; omega), if_pos (by
      rw [show (0 : Int32) = iZ 0 from rfl, show (200 : Int32) = iZ 200 from rfl, iZ_le (bd_lit _ rfl) ⟨by omega, by omega⟩, iZ_lt ⟨by omega, by omega⟩ (bd_lit _ rfl)]; omega), iZ_idx (by omega) (by omega), Int.toNat_natCast, h3 i c, tpb_in c, ht, and255 t (by omega)]
  · rw [if_pos (by rw [iZ_le ⟨by omega, by omega⟩ ⟨by omega, by omega⟩]; omega), tpb_out (by omega)]
    rfl
/-- what advance does behind the blanks -/
def advT (N : Nat) (σ : aSt) : Option aSt := ((f_M_see N (σ.1 66 14) (s_i σ 66 15 (σ.1 66 14))).bind fun x7 => (if x7 ≠ (-1 : Int32) then (if (f_M_in x7.toInt64 (97 : Int64) (122 : Int64)) = true then f_M_advance_l41 N N (s_i σ 66 15 (σ.1 66 14)) else (if (f_M_in x7.toInt64 (48 : Int64) (57 : Int64)) = true then f_M_advance_l70 N N (s_i (s_i σ 66 15 (σ.1 66 14)) 66 17 (0 : Int32)) else some (s_i (s_i (s_i (s_i σ 66 15 (σ.1 66 14)) 66 17 x7) 66 16 (3 : Int32)) 66 14 ((σ.1 66 14) + (1 : Int32))))) else some (s_i (s_i σ 66 15 (σ.1 66 14)) 66 16 (0 : Int32))))
theorem adv_l0 (N m : Nat) (σ : aSt) : f_M_advance_l0 N (m + 1) σ = ((f_M_see N (σ.1 66 14) σ).bind fun x3 => (if x3 = (32 : Int32) then f_M_advance_l0 N m (s_i σ 66 14 ((σ.1 66 14) + (1 : Int32))) else ((f_M_see N (σ.1 66 14) σ).bind fun x5 => (if x5 ≠ (10 : Int32) then advT N σ else f_M_advance_l0 N m (s_i σ 66 14 ((σ.1 66 14) + (1 : Int32))))))) := by
  rw [f_M_advance_l0]; rfl
theorem adv_is (N : Nat) (σ : aSt) : f_M_advance N σ = f_M_advance_l0 N (N + 1) σ := by
  rw [adv_l0]; rfl
def frA14 : Nat → Nat → Bool := fun o k => Nat.beq o 66 && Nat.beq k 14
theorem skip_m {N : Nat} {T : Nat → Int} {n : Nat} (ho : okT T n) : ∀ (j i m : Nat) (σ : aSt), i + j = n → j + 1 ≤ m → MS T n σ → σ.1 66 14 = iZ i → ∃ σ', f_M_advance_l0 N m σ = advT N σ' ∧ σ'.1 66 14 = iZ (skE T n j i) ∧ fr frA14 σ σ' := by
  intro j
  induction j with
  | zero =>
    intro i m σ hi hm h h4
    obtain ⟨m, rfl, _⟩ := fuel hm
    have hn := h.2.1
    rw [adv_l0, h4, see_ok ho h (by omega), Option.bind_some, Option.bind_some, tpb_out (by omega), if_neg (by decide), if_pos (by decide)]
    exact ⟨σ, rfl, h4, fr_refl _ _⟩
  | succ j ih =>
    intro i m σ hi hm h h4
    obtain ⟨m, rfl, hm'⟩ := fuel hm
    have hn := h.2.1
    have hT := ho i (by omega)
    have e5 : iZ (i : Int) + (1 : Int32) = iZ ((i + 1 : Nat) : Int) := by rw [iZ_lit, iZ_add]; congr 1
    rw [adv_l0, h4, see_ok ho h (by omega), Option.bind_some, Option.bind_some, tpb_in (by omega), e5]
    have c1 : (iZ (T i) = (32 : Int32)) = (T i = 32) := by rw [show (32 : Int32) = iZ 32 from rfl, iZ_eq ⟨by omega, by omega⟩ (bd_lit _ rfl)]
    have c2 : (iZ (T i) ≠ (10 : Int32)) = (T i ≠ 10) := by rw [ne_eq, show (10 : Int32) = iZ 10 from rfl, iZ_eq ⟨by omega, by omega⟩ (bd_lit _ rfl)]
    simp only [c1, c2]
    unfold skE
    have go : ∃ σ', f_M_advance_l0 N m (s_i σ 66 14 (iZ ((i + 1 : Nat) : Int))) = advT N σ' ∧ σ'.1 66 14 = iZ (skE T n j (i + 1)) ∧ fr frA14 σ σ' := by
      obtain ⟨σ', g1, g2, g3⟩ := ih (i + 1) m (s_i σ 66 14 (iZ ((i + 1 : Nat) : Int))) (by omega) hm' (MS_fr (S := frA14) (fr_si rfl) rfl (fun _ => rfl) h) (si_eq _ _ _ _)
      exact ⟨σ', g1, g2, fr_trans (fr_si rfl) g3⟩
    by_cases d : (T i = 32 ∨ T i = 10)
    · rw [if_pos (c := i < n ∧ (T i = 32 ∨ T i = 10)) ⟨by omega, d⟩]
      rcases d with d | d
      · rw [if_pos d]; exact go
      · rw [if_neg (show ¬ T i = 32 by omega), if_neg (fun h => h d)]; exact go
    · rw [if_neg (c := i < n ∧ (T i = 32 ∨ T i = 10)) (fun h => d h.2), if_neg (fun h => d (Or.inl h)), if_pos (fun h => d (Or.inr h))]
      exact ⟨σ, rfl, h4, fr_refl _ _⟩
