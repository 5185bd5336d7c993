/-! next, in the class -/
theorem skE_bd {T : Nat → Int} {n : Nat} : ∀ (j i : Nat), i + j = n → i ≤ skE T n j i ∧ skE T n j i ≤ n := by
  intro j
  induction j with
  | zero => intro i hi; exact ⟨Nat.le_refl _, by show i ≤ n; omega⟩
  | succ j ih =>
    intro i hi
    unfold skE
    split
    · have := ih (i + 1) (by omega); omega
    · omega
theorem tkE_bd {T : Nat → Int} {n : Nat} {k : Int} : ∀ (j i : Nat), i + j = n → i ≤ tkE T k j i ∧ tkE T k j i ≤ n := by
  intro j
  induction j with
  | zero => intro i hi; exact ⟨Nat.le_refl _, by show i ≤ n; omega⟩
  | succ j ih =>
    intro i hi
    unfold tkE
    split
    · have := ih (i + 1) (by omega); omega
    · omega
/-- start, stop and kind of the token from i on -/
def tkS (T : Nat → Int) (n i : Nat) : Nat := skE T n (n - i) i
def tkK (T : Nat → Int) (n i : Nat) : Int := kdT (tpb T n (tkS T n i))
def tkP (T : Nat → Int) (n i : Nat) : Nat := if tkK T n i = 0 then tkS T n i else if tkK T n i = 3 then tkS T n i + 1 else tkE T (tkK T n i) (n - tkS T n i) (tkS T n i)
def frN1 : Nat → Nat → Bool := fun o k => Nat.beq o 1 && (Nat.beq k 3 || Nat.beq k 4 || Nat.beq k 5 || Nat.beq k 6)
theorem fr156_N {σ σ' : aSt} (h : fr fr156 σ σ') : fr frN1 σ σ' := fun o k q => h o k (by
  revert q; unfold frN1 fr156
  cases Nat.beq o 1 <;> cases Nat.beq k 3 <;> cases Nat.beq k 4 <;> cases Nat.beq k 5 <;> cases Nat.beq k 6 <;> decide)
theorem fr14_N {σ σ' : aSt} (h : fr fr14 σ σ') : fr frN1 σ σ' := fun o k q => h o k (by
  revert q; unfold frN1 fr14
  cases Nat.beq o 1 <;> cases Nat.beq k 3 <;> cases Nat.beq k 4 <;> cases Nat.beq k 5 <;> cases Nat.beq k 6 <;> decide)
theorem next_x {N : Nat} (hN : 1000 ≤ N) {T : Nat → Int} {n i : Nat} (ho : okT T n) (hi : i ≤ n) {σ : aSt} (h : XT T n σ) (h5 : σ.1 1 5 = iZ i) : ∃ σ', f_Reader_next N σ = some σ' ∧ σ'.1 1 4 = iZ (tkS T n i) ∧ σ'.1 1 5 = iZ (tkP T n i) ∧ σ'.1 1 3 = iZ (tkK T n i) ∧ (tkK T n i = 2 → σ'.1 1 6 = iZ (tkV T 2 1000000 (n - tkS T n i) (tkS T n i) 0)) ∧ fr frN1 σ σ' := by
  have hn := h.2.1
  unfold f_Reader_next
  rw [h5]
  have f0 : fr frN1 σ (s_i σ 1 4 (iZ (i : Int))) := fr_si rfl
  obtain ⟨σ1, g1, g2, g3⟩ := skip_x (N := N) ho (n - i) i N (s_i σ 1 4 (iZ (i : Int))) (by omega) (by omega) (XT_fr f0 rfl (fun _ => rfl) h) (si_eq _ _ _ _)
  have hb := skE_bd (T := T) (n := n) (n - i) i (by omega)
  obtain ⟨s, hs⟩ : ∃ s, s = tkS T n i := ⟨_, rfl⟩
  have hs' : skE T n (n - i) i = s := by rw [hs]; rfl
  rw [hs'] at g2 hb
  have f1 := fr_trans f0 (fr14_N g3)
  have x1 := XT_fr f1 rfl (fun _ => rfl) h
  rw [g1]
  unfold f_Reader_next_b28
  rw [g2]
  obtain ⟨σ2, hσ2⟩ : ∃ σ2, σ2 = s_i (s_i σ1 1 5 (iZ (s : Int))) 1 6 (0 : Int32) := ⟨_, rfl⟩
  rw [← hσ2]
  have f2 : fr frN1 σ1 σ2 := by rw [hσ2]; exact fr_trans (fr_si rfl) (fr_si rfl)
  have x2 := XT_fr f2 rfl (fun _ => rfl) x1
  have tb := tpb_bd ho s
  obtain ⟨k, hk⟩ : ∃ k, k = tkK T n i := ⟨_, rfl⟩
  have hk' : kdT (tpb T n s) = k := by rw [hk, hs]; rfl
  have kb := kdT_bd (tpb T n s)
  rw [hk'] at kb
  rw [byteAt_ok x2 (by omega), kind_ok tb, hk']
  unfold tkP
  rw [← hs, ← hk]
  have c3 : (iZ k ≠ (3 : Int32)) = (k ≠ 3) := by rw [ne_eq, show (3 : Int32) = iZ 3 from rfl, iZ_eq ⟨by omega, by omega⟩ (bd_lit _ rfl)]
  have c0 : (iZ k = 0) = (k = 0) := by rw [show (0 : Int32) = iZ 0 from rfl, iZ_eq ⟨by omega, by omega⟩ (bd_lit _ rfl)]
  obtain ⟨σ3, hσ3⟩ : ∃ σ3, σ3 = s_i σ2 1 3 (iZ k) := ⟨_, rfl⟩
  rw [← hσ3]
  have f3 : fr frN1 σ σ3 := fr_trans f1 (fr_trans f2 (by rw [hσ3]; exact fr_si rfl))
  have a4 : σ3.1 1 4 = iZ (s : Int) := by rw [hσ3, hσ2]; exact g2
  have a5 : σ3.1 1 5 = iZ (s : Int) := by rw [hσ3, hσ2]; rfl
  have a3 : σ3.1 1 3 = iZ k := by rw [hσ3]; rfl
  have a6 : σ3.1 1 6 = iZ 0 := by rw [hσ3, hσ2]; rfl
  have e1 : iZ (s : Int) + (1 : Int32) = iZ ((s + 1 : Nat) : Int) := by rw [iZ_lit, iZ_add]; congr 1
  rw [e1]
  unfold f_Reader_next_b52
  simp only [c3]
  by_cases d3 : k = 3
  · rw [if_neg (fun h => h d3), if_neg (show ¬ k = 0 by omega), if_pos d3]
    have b3 : (s_i σ3 1 5 (iZ ((s + 1 : Nat) : Int))).1 1 3 = iZ k := a3
    rw [b3]
    simp only [c0, c3]
    rw [if_neg (show ¬ k = 0 by omega), if_neg (fun h => h d3)]
    exact ⟨_, rfl, a4, si_eq _ _ _ _, b3, fun h => by omega, fr_trans f3 (fr_si rfl)⟩
  · rw [if_pos d3, a3]
    simp only [c0, c3]
    by_cases d0 : k = 0
    · rw [if_pos d0, if_pos d0]
      exact ⟨σ3, rfl, a4, a5, a3, fun h => by omega, f3⟩
    · rw [if_neg d0, if_neg d0, if_pos d3, if_neg d3]
      obtain ⟨σ4, w1, w2, w3, w4⟩ := word_x (N := N) ho (k := k) (by omega) (n - s) s N 0 σ3 (by omega) (by omega) (XT_fr f3 rfl (fun _ => rfl) h) a5 a3 a6 (by omega) (by omega)
      exact ⟨σ4, w1, by rw [(w4 1 4 rfl).1]; exact a4, w2, by rw [(w4 1 3 rfl).1]; exact a3, fun h => by rw [h] at w3; exact w3, fr_trans f3 (fr156_N w4)⟩
