/-! TOKENS, in step: the blanks before a token -/
theorem XT_fr {S : Nat → Nat → Bool} {T : Nat → Int} {n : Nat} {σ σ' : aSt} (hf : fr S σ σ') (h0 : S 1 2 = false) (h1 : ∀ k, S 2 k = false) (h : XT T n σ) : XT T n σ' := ⟨by rw [(hf 1 2 h0).1]; exact h.1, h.2.1, fun i hi => by rw [(hf 2 i (h1 i)).1]; exact h.2.2 i hi⟩
/-- the byte that the class looks at; -1 behind the text -/
def tpb (T : Nat → Int) (n i : Nat) : Int := if i < n then T i else -1
theorem tpb_in {T : Nat → Int} {n i : Nat} (h : i < n) : tpb T n i = T i := if_pos h
theorem tpb_out {T : Nat → Int} {n i : Nat} (h : n ≤ i) : tpb T n i = -1 := if_neg (by omega)
theorem tpb_bd {T : Nat → Int} {n : Nat} (ho : okT T n) (i : Nat) : -1 ≤ tpb T n i ∧ tpb T n i < 256 := by
  unfold tpb
  split
  · rename_i h; have := ho i h; omega
  · omega
theorem byteAt_ok {T : Nat → Int} {n : Nat} {σ : aSt} (h : XT T n σ) {i : Nat} (hi : i ≤ 1000) : f_Reader_byteAt (iZ i) σ = iZ (tpb T n i) := by
  obtain ⟨h1, h2, h3⟩ := h
  unfold f_Reader_byteAt
  rw [h1]
  by_cases c : i < n
  · rw [if_neg (by rw [iZ_le ⟨by omega, by omega⟩ ⟨by omega, by omega⟩]; omega), pick_in (by decide) (by decide) (by omega) (by show (i : Int) < ((200 : Nat) : Int); omega), tpb_in c]
    exact h3 i c
  · rw [if_pos (by rw [iZ_le ⟨by omega, by omega⟩ ⟨by omega, by omega⟩]; omega), tpb_out (by omega)]
    rfl
/-- where the blanks from i on end -/
def skE (T : Nat → Int) (n : Nat) : Nat → Nat → Nat
  | 0, i => i
  | j + 1, i => if i < n ∧ (T i = 32 ∨ T i = 10) then skE T n j (i + 1) else i
def fr14 : Nat → Nat → Bool := fun o k => Nat.beq o 1 && Nat.beq k 4
theorem skip_x {N : Nat} {T : Nat → Int} {n : Nat} (ho : okT T n) : ∀ (j i m : Nat) (σ : aSt), i + j = n → j + 1 ≤ m → XT T n σ → σ.1 1 4 = iZ i → ∃ σ', f_Reader_next_l4 N m σ = f_Reader_next_b28 N σ' ∧ σ'.1 1 4 = iZ (skE T n j i) ∧ fr fr14 σ σ' := by
  intro j
  induction j with
  | zero =>
    intro i m σ hi hm h h4
    obtain ⟨m, rfl, _⟩ := fuel hm
    have hn := h.2.1
    rw [f_Reader_next_l4, h.1, h4, if_pos (by rw [iZ_le ⟨by omega, by omega⟩ ⟨by omega, by omega⟩]; omega)]
    exact ⟨σ, rfl, h4, fr_refl _ _⟩
  | succ j ih =>
    intro i m σ hi hm h h4
    obtain ⟨m, rfl, hm'⟩ := fuel hm
    have hn := h.2.1
    have hT := ho i (by omega)
    have e5 : iZ (i : Int) + (1 : Int32) = iZ ((i + 1 : Nat) : Int) := by rw [iZ_lit, iZ_add]; congr 1
    rw [f_Reader_next_l4, h.1, h4, if_neg (by rw [iZ_le ⟨by omega, by omega⟩ ⟨by omega, by omega⟩]; omega), byteAt_ok h (by omega), tpb_in (by omega), e5]
    have c1 : (iZ (T i) = (32 : Int32)) = (T i = 32) := by rw [show (32 : Int32) = iZ 32 from rfl, iZ_eq ⟨by omega, by omega⟩ (bd_lit _ rfl)]
    have c2 : (iZ (T i) ≠ (10 : Int32)) = (T i ≠ 10) := by rw [ne_eq, show (10 : Int32) = iZ 10 from rfl, iZ_eq ⟨by omega, by omega⟩ (bd_lit _ rfl)]
    simp only [c1, c2]
    unfold skE
    have go : ∃ σ', f_Reader_next_l4 N m (s_i σ 1 4 (iZ ((i + 1 : Nat) : Int))) = f_Reader_next_b28 N σ' ∧ σ'.1 1 4 = iZ (skE T n j (i + 1)) ∧ fr fr14 σ σ' := by
      obtain ⟨σ', g1, g2, g3⟩ := ih (i + 1) m (s_i σ 1 4 (iZ ((i + 1 : Nat) : Int))) (by omega) hm' (XT_fr (S := fr14) (fr_si rfl) rfl (fun _ => rfl) h) (si_eq _ _ _ _)
      exact ⟨σ', g1, g2, fr_trans (fr_si rfl) g3⟩
    by_cases d : (T i = 32 ∨ T i = 10)
    · rw [if_pos (c := i < n ∧ (T i = 32 ∨ T i = 10)) ⟨by omega, d⟩]
      rcases d with d | d
      · rw [if_pos d]; exact go
      · rw [if_neg (show ¬ T i = 32 by omega), if_neg (fun h => h d)]; exact go
    · rw [if_neg (c := i < n ∧ (T i = 32 ∨ T i = 10)) (fun h => d h.2), if_neg (fun h => d (Or.inl h)), if_pos (fun h => d (Or.inr h))]
      exact ⟨σ, rfl, h4, fr_refl _ _⟩
