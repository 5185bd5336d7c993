/-! THE CURVE BECOMES ANOTHER -/
section BEC
variable {a b : Int} {M E : Nat}
def frE0 : Nat → Nat → Bool := fun o k => frF11 o k || frC26 o k || Nat.beq o 23 || (Nat.beq o 21 && Nat.beq k 5) || (Nat.beq o 0 && (Nat.beq k 13 || Nat.beq k 14))
def frE : Nat → Nat → Bool := fun o k => frE0 o k || Nat.beq o 40 || (Nat.beq o 34 && (Nat.beq k 6 || Nat.beq k 7 || Nat.beq k 10)) || (Nat.beq o 0 && Nat.beq k 15)
theorem frE0_E {σ σ' : aSt} (h : fr frE0 σ σ') : fr frE σ σ' := fr_mono h (fun o k q => by
  unfold frE at q
  rw [Bool.or_eq_false_iff, Bool.or_eq_false_iff, Bool.or_eq_false_iff] at q
  exact q.1.1.1)
/-- what stands behind it -/
def newX (a b : Int) (M E : Nat) (σ : aSt) : Prop := RX a b M E σ ∧ OR a b M E σ ∧ LN a b M E σ ∧ MKc a b M E σ ∧ σ.2.2 0 14 = false ∧ Z9 σ
theorem bec27 (hc : CVc a b M E) {N : Nat} (hN : 10000 ≤ N) {σ : aSt} (hz : Z9 σ) : ∃ σ', f_X_become_b27 N (iZ a) (iZ b) (iZ M) (iZ E) σ = some (iZ ((hL a b M E).length : Int), σ') ∧ newX a b M E σ' ∧ fr frE0 σ σ' := by
  obtain ⟨hab, hb0, hM1, hM, hE1, hE⟩ := CVc_CV hc
  have hl := hL_le (a := a) (b := b) (M := M) (E := E)
  obtain ⟨σ1, g1, g2, g3, g4, g5, g6, g7, g8⟩ := fill_11 hN hab hb0 hM hE hz
  unfold f_X_become_b27
  rw [g1, Option.bind_some, lt_eq, lt_eq]
  obtain ⟨σ2, hσ2⟩ : ∃ σ2, σ2 = f_Sums_renew σ1 := ⟨_, rfl⟩
  rw [← hσ2]
  have h23 : ∀ k, frE0 23 k = true := fun k => rfl
  have f1 : fr frE0 σ σ1 := fr_mono g8 (fun o k q => by
    unfold frE0 at q
    rw [Bool.or_eq_false_iff, Bool.or_eq_false_iff, Bool.or_eq_false_iff, Bool.or_eq_false_iff] at q
    exact q.1.1.1.1)
  have f2 : fr frE0 σ1 σ2 := by rw [hσ2]; exact fr_trans (fr_si rfl) (fr_fill h23)
  have f2b : fr (fun o k => Nat.beq o 23 || (Nat.beq o 21 && Nat.beq k 5)) σ1 σ2 := by
    rw [hσ2]; exact fr_trans (fr_si rfl) (fr_fill (fun k => rfl))
  have l21 : σ2.1 21 5 = (-1 : Int32) := by rw [hσ2]; rfl
  have l23 : ∀ i, i < 120 → σ2.1 23 i = (-1 : Int32) := fun i hi => by rw [hσ2]; exact fill_get (row := 23) (by show i < 120; exact hi)
  obtain ⟨k1, k2, k3⟩ := forget26 (a := a) (b := b) (M := M) (E := E) (σ := σ2)
  obtain ⟨σ3, hσ3⟩ : ∃ σ3, σ3 = f_Closure_forget_26 σ2 := ⟨_, rfl⟩
  rw [← hσ3] at k1 k2 k3 ⊢
  have f3 : fr frE0 σ2 σ3 := fr_mono k2 (fun o k q => by
    unfold frE0 at q
    rw [Bool.or_eq_false_iff, Bool.or_eq_false_iff, Bool.or_eq_false_iff, Bool.or_eq_false_iff] at q
    exact q.1.1.1.2)
  have x1 : XC a b M E σ1 := ⟨g2, g3, g4, g5, g6⟩
  have x2 : XC a b M E σ2 := XC_fr f2b (fun _ => ⟨rfl, rfl, rfl, rfl, rfl⟩) x1
  have x3 : XC a b M E σ3 := XC_C26 k2 x2
  obtain ⟨σ4, hσ4⟩ : ∃ σ4, σ4 = s_b (s_b σ3 0 14 false) 0 13 true := ⟨_, rfl⟩
  rw [← hσ4]
  have x4 : XC a b M E σ4 := by rw [hσ4]; exact x3
  have f4 : fr frE0 σ3 σ4 := by rw [hσ4]; exact fr_trans (fr_sb rfl) (fr_sb rfl)
  refine ⟨σ4, by rw [shownZ x4], ⟨⟨by rw [hσ4]; exact sb_eq _ _ _ _, x4⟩, fun i hi => Or.inl ?_, Or.inl ?_, Or.inr ⟨by rw [hσ4]; exact k3, by rw [hσ4]; exact k1⟩, by rw [hσ4]; rfl, fun k hk => ?_⟩, fr_trans (fr_trans (fr_trans f1 f2) f3) f4⟩
  · rw [hσ4]
    show σ3.1 23 i = _
    rw [(k2 23 i rfl).1]; exact l23 i (by omega)
  · rw [hσ4]
    show σ3.1 21 5 = _
    rw [(k2 21 5 rfl).1]; exact l21
  · rw [hσ4]
    show σ3.1 9 k = 0
    rw [(k2 9 k rfl).1, (f2b 9 k rfl).1]; exact g7 k hk
/-- the groups by primes are begun anew -/
def newG (a b : Int) (σ : aSt) : Prop := σ.1 34 6 = iZ a ∧ σ.1 34 7 = iZ b ∧ σ.1 34 10 = 0 ∧ (∀ k, k < 98 → σ.1 40 k = 0) ∧ σ.2.2 0 15 = false
theorem bec15 (hc : CVc a b M E) {N : Nat} (hN : 10000 ≤ N) {σ : aSt} (hz : Z9 σ) : ∃ σ', f_X_become_b15 N (iZ a) (iZ b) (iZ M) (iZ E) σ = some (iZ ((hL a b M E).length : Int), σ') ∧ newX a b M E σ' ∧ fr frE σ σ' ∧ newG a b σ' := by
  unfold f_X_become_b15 f_X_become_b16
  rw [if_neg (fun h => h rfl), lt_eq]
  unfold f_PrimeGroup_renew
  rw [lt_eq]
  obtain ⟨σ1, hσ1⟩ : ∃ σ1, σ1 = f_fill (s_i (s_i (s_i (s_b σ 0 15 false) 34 6 (iZ a)) 34 7 (iZ b)) 34 10 (0 : Int32)) 40 (0 : Int32) := ⟨_, rfl⟩
  rw [← hσ1]
  have h40 : ∀ k, frE 40 k = true := fun k => rfl
  have f1 : fr frE σ σ1 := by
    rw [hσ1]
    exact fr_trans (fr_trans (fr_trans (fr_trans (fr_sb rfl) (fr_si rfl)) (fr_si rfl)) (fr_si rfl)) (fr_fill h40)
  have z1 : Z9 σ1 := fun k hk => by rw [hσ1]; exact hz k hk
  have n1 : newG a b σ1 := by
    refine ⟨by rw [hσ1]; rfl, by rw [hσ1]; rfl, by rw [hσ1]; rfl, fun k hk => ?_, by rw [hσ1]; rfl⟩
    rw [hσ1]; exact fill_get (row := 40) (by show k < 98; exact hk)
  obtain ⟨σ', g1, g2, g3⟩ := bec27 hc hN z1
  refine ⟨σ', g1, g2, fr_trans f1 (frE0_E g3), ?_⟩
  obtain ⟨m1, m2, m3, m4, m5⟩ := n1
  exact ⟨by rw [(g3 34 6 rfl).1]; exact m1, by rw [(g3 34 7 rfl).1]; exact m2, by rw [(g3 34 10 rfl).1]; exact m3, fun k hk => by rw [(g3 40 k rfl).1]; exact m4 k hk, by rw [(g3 0 15 rfl).2.2]; exact m5⟩
/-- the class: another curve, or the same in other bounds -/
theorem become_ok (hc : CVc a b M E) {N : Nat} (hN : 10000 ≤ N) {σ : aSt} (hz : Z9 σ) : ∃ σ', f_X_become N (iZ a) (iZ b) (iZ M) (iZ E) σ = some (iZ ((hL a b M E).length : Int), σ') ∧ newX a b M E σ' ∧ fr frE σ σ' ∧ ((newG a b σ') ∨ (σ.2.2 0 13 = true ∧ σ.1 11 6 = iZ a ∧ σ.1 11 7 = iZ b ∧ fr frE0 σ σ')) := by
  obtain ⟨s1, h1, h2, h3, h4⟩ := bec15 hc hN hz
  obtain ⟨s2, k1, k2, k3⟩ := bec27 hc hN hz
  have other : ∃ σ', f_X_become_b15 N (iZ a) (iZ b) (iZ M) (iZ E) σ = some (iZ ((hL a b M E).length : Int), σ') ∧ newX a b M E σ' ∧ fr frE σ σ' ∧ ((newG a b σ') ∨ (σ.2.2 0 13 = true ∧ σ.1 11 6 = iZ a ∧ σ.1 11 7 = iZ b ∧ fr frE0 σ σ')) := ⟨s1, h1, h2, h3, Or.inl h4⟩
  unfold f_X_become f_PointList_a_11 f_PointList_b_11
  by_cases c : σ.2.2 0 13 = true
  · rw [if_pos c]
    by_cases c1 : iZ a ≠ σ.1 11 6
    · rw [if_pos c1]; exact other
    · rw [if_neg c1]
      by_cases c2 : iZ b ≠ σ.1 11 7
      · rw [if_pos c2]; exact other
      · rw [if_neg c2]
        unfold f_X_become_b16
        rw [if_pos (by decide)]
        exact ⟨s2, k1, k2, frE0_E k3, Or.inr ⟨c, (Classical.byContradiction c1).symm, (Classical.byContradiction c2).symm, k3⟩⟩
  · rw [if_neg c]; exact other
def frN : Nat → Nat → Bool := fun o k => frA9 o k || (Nat.beq o 66 && (Nat.beq k 1 || Nat.beq k 2 || Nat.beq k 3 || Nat.beq k 4 || Nat.beq k 5))
theorem becomes_ok (hc : CVc a b M E) {N : Nat} (hN : 10000 ≤ N) (τ : aSt) : ∃ τ', f_M_becomes N (iZ a) (iZ b) (iZ M) (iZ E) τ = some τ' ∧ RM a b M E τ' ∧ fr frN τ τ' := by
  obtain ⟨hab, hb0, hM1, hM, hE1, hE⟩ := CVc_CV hc
  unfold f_M_becomes
  obtain ⟨τ1, hτ1⟩ : ∃ τ1, τ1 = s_i (s_i (s_i (s_i (s_b τ 66 1 true) 66 2 (iZ a)) 66 3 (iZ b)) 66 4 (iZ M)) 66 5 (iZ E) := ⟨_, rfl⟩
  rw [← hτ1]
  have c1 : τ1.2.2 66 1 = true := by rw [hτ1]; rfl
  have c2 : τ1.1 66 2 = iZ a := by rw [hτ1]; rfl
  have c3 : τ1.1 66 3 = iZ b := by rw [hτ1]; rfl
  have c4 : τ1.1 66 4 = iZ M := by rw [hτ1]; rfl
  have c5 : τ1.1 66 5 = iZ E := by rw [hτ1]; rfl
  obtain ⟨τ', g1, g2, g3⟩ := lays_ok hN hab hM hE c2 c3 c4 c5
  rw [g1, Option.bind_some]
  refine ⟨τ', rfl, ⟨by rw [(g3 66 1 rfl).2.2]; exact c1, g2, by rw [(g3 66 2 rfl).1]; exact c2, by rw [(g3 66 3 rfl).1]; exact c3, by rw [(g3 66 4 rfl).1]; exact c4, by rw [(g3 66 5 rfl).1]; exact c5⟩, ?_⟩
  have f1 : fr frN τ τ1 := by
    rw [hτ1]
    exact fr_trans (fr_trans (fr_trans (fr_trans (fr_sb rfl) (fr_si rfl)) (fr_si rfl)) (fr_si rfl)) (fr_si rfl)
  exact fr_trans f1 (fr_mono g3 (fun o k q => by
    unfold frN at q
    rw [Bool.or_eq_false_iff] at q
    exact q.1))
end BEC
