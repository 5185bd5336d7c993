/-! curve: the whole of it -/
def frER : Nat → Nat → Bool := fun o k => frE o k || frX7 o k || (Nat.beq o 6 && Nat.beq k 1)
def frER0 : Nat → Nat → Bool := fun o k => frE0 o k || frX7 o k || (Nat.beq o 6 && Nat.beq k 1)
def frNR : Nat → Nat → Bool := fun o k => frN o k || frM7 o k || (Nat.beq o 66 && Nat.beq k 22)
theorem frE_ER {σ σ' : aSt} (h : fr frE σ σ') : fr frER σ σ' := fr_mono h (fun o k q => by unfold frER at q; rw [Bool.or_eq_false_iff, Bool.or_eq_false_iff] at q; exact q.1.1)
theorem fr7_ER {σ σ' : aSt} (h : fr frX7 σ σ') : fr frER σ σ' := fr_mono h (fun o k q => by unfold frER at q; rw [Bool.or_eq_false_iff, Bool.or_eq_false_iff] at q; exact q.1.2)
theorem frE_ER0 {σ σ' : aSt} (h : fr frE0 σ σ') : fr frER0 σ σ' := fr_mono h (fun o k q => by unfold frER0 at q; rw [Bool.or_eq_false_iff, Bool.or_eq_false_iff] at q; exact q.1.1)
theorem fr7_ER0 {σ σ' : aSt} (h : fr frX7 σ σ') : fr frER0 σ σ' := fr_mono h (fun o k q => by unfold frER0 at q; rw [Bool.or_eq_false_iff, Bool.or_eq_false_iff] at q; exact q.1.2)
theorem frN_NR {σ σ' : aSt} (h : fr frN σ σ') : fr frNR σ σ' := fr_mono h (fun o k q => by unfold frNR at q; rw [Bool.or_eq_false_iff, Bool.or_eq_false_iff] at q; exact q.1.1)
theorem fr7_NR {σ σ' : aSt} (h : fr frM7 σ σ') : fr frNR σ σ' := fr_mono h (fun o k q => by unfold frNR at q; rw [Bool.or_eq_false_iff, Bool.or_eq_false_iff] at q; exact q.1.2)
/-- a text told another curve -/
def OutC (σ τ σ' τ' : aSt) : Prop := ∃ (a b : Int) (M E : Nat), CVc a b M E ∧ newX a b M E σ' ∧ (newG a b σ' ∨ (σ.2.2 0 13 = true ∧ σ.1 11 6 = iZ a ∧ σ.1 11 7 = iZ b ∧ fr frER0 σ σ')) ∧ RM a b M E τ' ∧ σ'.1 6 1 = iZ (0 : Nat) ∧ τ'.1 66 22 = iZ (0 : Nat) ∧ fr frER σ σ' ∧ fr frNR τ τ'
theorem curve_eq {N : Nat} (hN : 10000 ≤ N) {T : Nat → Int} {n : Nat} (ho : okT T n) {σ τ : aSt} (hx : XT T n σ) (hm : MT' T n τ) (hz : Z9 σ) : ∃ r σ' τ', f_X_curve N σ = some (r, σ') ∧ f_M_curve N τ = some (r, τ') ∧ Emp σ' τ' ∧ ((fr frX7 σ σ' ∧ fr frM7 τ τ') ∨ OutC σ τ σ' τ') := by
  obtain ⟨σ1, τ1, b1, b2, b3, b4, b5, b6⟩ := bg_ok (show 1000 ≤ N by omega) ho hx hm
  unfold f_X_curve f_M_curve
  rw [rC_is, b1, b2, Option.bind_some, Option.bind_some]
  have f1 := frFX_7 (frR_F b4)
  rcases cWrd (show 1000 ≤ N by omega) ho b3 with ⟨σ2, τ2, h1, h2, h3, h4, h5⟩ | ⟨σ2, τ2, a, b, M, E, h1, h2, hc, hs, h3, h4, h5⟩
  · rw [h1, h2, Option.bind_some, lt_eq, if_neg (c := (false, σ2).1 = true) ff_tt]
    refine ⟨_, _, τ2, rfl, rfl, ⟨rfl, by rw [(h5 66 11 rfl).1]; exact b6, h3.1, h3.2.1⟩, Or.inl ⟨fr_trans f1 (fr_trans (frFX_7 (frR_F h4)) (fr_si rfl)), fr_trans b5 (frFM_7 (frQ_F h5))⟩⟩
  · rw [h1, h2, Option.bind_some, lt_eq, if_pos (c := (true, σ2).1 = true) rfl, lt_eq]
    obtain ⟨σ3, hσ3⟩ : ∃ s, s = f_History_clear (f_Reader_cut (0 : Int32) (true, σ2).2) := ⟨_, rfl⟩
    rw [← hσ3]
    have num : ∀ (k : Nat) (z : Int), k < 4 → σ2.1 3 k = iZ z → f_Reader_number (iZ k) σ3 = iZ z := fun k z hk e => by
      unfold f_Reader_number
      rw [pick_in (by decide) (by decide) (by omega) (by show (k : Int) < ((4 : Nat) : Int); omega), Int.toNat_natCast, hσ3]
      exact e
    rw [show f_Reader_number (0 : Int32) σ3 = iZ a from num 0 a (by omega) hs.1, show f_Reader_number (1 : Int32) σ3 = iZ b from num 1 b (by omega) hs.2.1, show f_Reader_number (2 : Int32) σ3 = iZ (M : Int) from num 2 _ (by omega) hs.2.2.1, show f_Reader_number (3 : Int32) σ3 = iZ (E : Int) from num 3 _ (by omega) hs.2.2.2]
    have f3 : fr frX7 σ (f_Reader_cut (0 : Int32) σ2) := fr_trans f1 (fr_trans (frFX_7 (frR_F h4)) (fr_si rfl))
    have f4 : fr frER σ σ3 := by rw [hσ3]; exact fr_trans (fr7_ER f3) (fr_si rfl)
    have f40 : fr frER0 σ σ3 := by rw [hσ3]; exact fr_trans (fr7_ER0 f3) (fr_si rfl)
    have f8 : fr (fun o k => frX7 o k || (Nat.beq o 6 && Nat.beq k 1)) σ σ3 := by
      rw [hσ3]
      exact fr_trans (fr_mono f3 (fun o k q => by rw [Bool.or_eq_false_iff] at q; exact q.1)) (fr_si rfl)
    have z3 : Z9 σ3 := fun k hk => by rw [(f8 9 k rfl).1]; exact hz k hk
    obtain ⟨σ', g1, g2, g3, g4⟩ := become_ok hc hN z3
    have g5 : fr frM7 τ τ2 := fr_trans b5 (frFM_7 (frQ_F h5))
    obtain ⟨τ', s1, s2, s3⟩ := becomes_ok hc hN (s_i τ2 66 22 (0 : Int32))
    unfold bcm
    rw [g1, s1, Option.bind_some, Option.bind_some]
    have e9 : τ'.1 66 9 = iZ ((hL a b M E).length : Int) := s2.2.1.1
    rw [e9]
    refine ⟨_, σ', τ', rfl, rfl, ⟨by rw [(g3 1 2 rfl).1, hσ3]; rfl, by rw [(s3 66 11 rfl).1]; show τ2.1 66 11 = 0; rw [(h5 66 11 rfl).1]; exact b6, ?_, ?_⟩, Or.inr ⟨a, b, M, E, hc, g2, ?_, s2, by rw [(g3 6 1 rfl).1, hσ3]; rfl, by rw [(s3 66 22 rfl).1]; rfl, fr_trans f4 (frE_ER g3), fr_trans (fr_trans (fr7_NR g5) (fr_si rfl)) (frN_NR s3)⟩⟩
    · rw [(g3 1 7 rfl).1, (s3 66 18 rfl).1, hσ3]
      exact h3.1.trans h3.2.2.1.symm
    · rw [(g3 1 8 rfl).1, (s3 66 19 rfl).1, hσ3]
      exact h3.2.1.trans h3.2.2.2.symm
    · rcases g4 with q | ⟨q1, q2, q3, q4⟩
      · exact Or.inl q
      · exact Or.inr ⟨by rw [(f8 0 13 rfl).2.2] at q1; exact q1, by rw [(f8 11 6 rfl).1] at q2; exact q2, by rw [(f8 11 7 rfl).1] at q3; exact q3, fr_trans f40 (frE_ER0 q4)⟩
