/-! within, twists, goesBeside, undo -/
def frEH : Nat → Nat → Bool := fun o k => frE o k || frH o k
def frEH0 : Nat → Nat → Bool := fun o k => frE0 o k || frH o k
def frNK : Nat → Nat → Bool := fun o k => frN o k || frK o k
theorem frE_EH {σ σ' : aSt} (h : fr frE σ σ') : fr frEH σ σ' := fr_mono h (fun o k q => by
  unfold frEH at q
  rw [Bool.or_eq_false_iff] at q
  exact q.1)
theorem frH_EH {σ σ' : aSt} (h : fr frH σ σ') : fr frEH σ σ' := fr_mono h (fun o k q => by
  unfold frEH at q
  rw [Bool.or_eq_false_iff] at q
  exact q.2)
theorem frE_EH0 {σ σ' : aSt} (h : fr frE0 σ σ') : fr frEH0 σ σ' := fr_mono h (fun o k q => by
  unfold frEH0 at q
  rw [Bool.or_eq_false_iff] at q
  exact q.1)
theorem frH_EH0 {σ σ' : aSt} (h : fr frH σ σ') : fr frEH0 σ σ' := fr_mono h (fun o k q => by
  unfold frEH0 at q
  rw [Bool.or_eq_false_iff] at q
  exact q.2)
theorem frN_NK {σ σ' : aSt} (h : fr frN σ σ') : fr frNK σ σ' := fr_mono h (fun o k q => by
  unfold frNK at q
  rw [Bool.or_eq_false_iff] at q
  exact q.1)
theorem frK_NK {σ σ' : aSt} (h : fr frK σ σ') : fr frNK σ σ' := fr_mono h (fun o k q => by
  unfold frNK at q
  rw [Bool.or_eq_false_iff] at q
  exact q.2)
theorem XH_E {H : Nat → Int} {d : Nat} {σ σ' : aSt} (hf : fr frE σ σ') (h : XH H d σ) : XH H d σ' := ⟨by rw [(hf 6 1 rfl).1]; exact h.1, h.2.1, fun i hi => by rw [(hf 7 i rfl).1]; exact h.2.2 i hi⟩
theorem MH_N {H : Nat → Int} {d : Nat} {τ τ' : aSt} (hf : fr frN τ τ') (h : MH H d τ) : MH H d τ' := ⟨by rw [(hf 66 22 rfl).1]; exact h.1, h.2.1, fun i hi => by rw [(hf 72 i rfl).1]; exact h.2.2 i hi⟩
/-- a change that was done: what stands behind it -/
def Out (a b : Int) (σ τ σ' τ' : aSt) : Prop := ∃ (a' b' : Int) (M' E' : Nat) (H' : Nat → Int) (d' : Nat), CVc a' b' M' E' ∧ newX a' b' M' E' σ' ∧ (newG a' b' σ' ∨ (a' = a ∧ b' = b ∧ fr frEH0 σ σ')) ∧ RM a' b' M' E' τ' ∧ XH H' d' σ' ∧ MH H' d' τ' ∧ HV H' d' ∧ fr frEH σ σ' ∧ fr frNK τ τ'
section CHG
variable {a b : Int} {M E : Nat}
theorem bdM {M : Nat} (h : M ≤ 1000) : bd 2147483647 (M : Int) := ⟨by omega, by omega⟩
theorem chg {N : Nat} (hc : CVc a b M E) (hN : 10000 ≤ N) {σ τ : aSt} (hx : RX a b M E σ) (hz : Z9 σ) (hm : RM a b M E τ) {H : Nat → Int} {d : Nat} (hH : XH H d σ) (hK : MH H d τ) (hV : HV H d) {a' b' : Int} {M' E' : Nat} (hc' : CVc a' b' M' E') : ∃ (r : Int32) (σ' τ1 τ' : aSt), f_X_change N (iZ a') (iZ b') (iZ M') (iZ E') σ = some (r, σ') ∧ f_M_keeps N τ = some τ1 ∧ τ1.1 66 2 = iZ a ∧ τ1.1 66 3 = iZ b ∧ τ1.1 66 4 = iZ M ∧ τ1.1 66 5 = iZ E ∧ f_M_becomes N (iZ a') (iZ b') (iZ M') (iZ E') τ1 = some τ' ∧ τ'.1 66 9 = r ∧ Out a b σ τ σ' τ' := by
  obtain ⟨hx0, hx1, hx6, hx7, hx8, hx9⟩ := id hx
  obtain ⟨p1, p2⟩ := xpush hH a b M E
  obtain ⟨σ1, hσ1⟩ : ∃ σ1, σ1 = f_History_push (iZ a) (iZ b) (iZ M) (iZ E) σ := ⟨_, rfl⟩
  rw [← hσ1] at p1 p2
  have z1 : Z9 σ1 := fun k hk => by rw [(p2 9 k rfl).1]; exact hz k hk
  obtain ⟨σ', g1, g2, g3, g4⟩ := become_ok hc' hN z1
  obtain ⟨τ1, t1, t2, t3⟩ := mkeep hN hK hm.2.2.1 hm.2.2.2.1 hm.2.2.2.2.1 hm.2.2.2.2.2
  obtain ⟨τ', s1, s2, s3⟩ := becomes_ok hc' hN τ1
  refine ⟨_, σ', τ1, τ', ?_, t1, by rw [(t3 66 2 rfl).1]; exact hm.2.2.1, by rw [(t3 66 3 rfl).1]; exact hm.2.2.2.1, by rw [(t3 66 4 rfl).1]; exact hm.2.2.2.2.1, by rw [(t3 66 5 rfl).1]; exact hm.2.2.2.2.2, s1, s2.2.1.1, a', b', M', E', pshH H d a b M E, pshD d, hc', g2, ?_, s2, XH_E g3 p1, MH_N s3 t2, HV_push hH.2.1 hV hc, fr_trans (frH_EH p2) (frE_EH g3), fr_trans (frK_NK t3) (frN_NK s3)⟩
  · unfold f_X_change f_PointList_a_11 f_PointList_b_11 f_PointList_most_11 f_PointList_deepest_11
    rw [lt_eq, hx6, hx7, hx8, hx9, ← hσ1, g1, Option.bind_some]
  · rcases g4 with q | ⟨q1, q2, q3, q4⟩
    · exact Or.inl q
    · refine Or.inr ⟨?_, ?_, fr_trans (frH_EH0 p2) (frE_EH0 q4)⟩
      · rw [(p2 11 6 rfl).1, hx6] at q2
        have h1 := (CVc_CV hc).1.1; have h2 := (CVc_CV hc').1.1
        rw [iZ_eq (bd_mono h1 (by decide)) (bd_mono h2 (by decide))] at q2
        exact q2.symm
      · rw [(p2 11 7 rfl).1, hx7] at q3
        have h1 := (CVc_CV hc).1.2; have h2 := (CVc_CV hc').1.2
        rw [iZ_eq (bd_mono h1 (by decide)) (bd_mono h2 (by decide))] at q3
        exact q3.symm
theorem within_eq {N : Nat} (hc : CVc a b M E) (hN : 10000 ≤ N) {σ τ : aSt} (hx : RX a b M E σ) (hz : Z9 σ) (hm : RM a b M E τ) {H : Nat → Int} {d : Nat} (hH : XH H d σ) (hK : MH H d τ) (hV : HV H d) (p q : Int32) : ∃ r σ' τ', f_X_within N p q σ = some (r, σ') ∧ f_M_within N p q τ = some (r, τ') ∧ ((σ' = σ ∧ τ' = τ) ∨ Out a b σ τ σ' τ') := by
  have no : ∀ r : Int32, ∃ r' σ' τ', some (r, σ) = some (r', σ') ∧ some (r, τ) = some (r', τ') ∧ ((σ' = σ ∧ τ' = τ) ∨ Out a b σ τ σ' τ') := fun r => ⟨r, σ, τ, rfl, rfl, Or.inl ⟨rfl, rfl⟩⟩
  have e1 : f_M_in p.toInt64 (1 : Int64) (1000 : Int64) = decide (1 ≤ p.toInt ∧ p.toInt ≤ 1000) := in_p (lo := 1) (hi := 1000) (bd_lit _ rfl) (bd_lit _ rfl)
  have e2 : f_M_in q.toInt64 (1 : Int64) (6 : Int64) = decide (1 ≤ q.toInt ∧ q.toInt ≤ 6) := in_p (lo := 1) (hi := 6) (bd_lit _ rfl) (bd_lit _ rfl)
  have q1 : (p < (1 : Int32)) = (p.toInt < 1) := pl_lt (bd_lit 1 rfl)
  have q2 : ((1000 : Int32) < p) = (1000 < p.toInt) := pl_gt (bd_lit 1000 rfl)
  have q3 : (q < (1 : Int32)) = (q.toInt < 1) := pl_lt (bd_lit 1 rfl)
  have q4 : (q ≤ (6 : Int32)) = (q.toInt ≤ 6) := pl_le (bd_lit 6 rfl)
  unfold f_X_within f_M_within
  rw [hx.1, hm.1, if_pos (c := true = true) rfl, if_pos (c := true = true) rfl]
  simp only [e1, e2, ite_dec, q1, q2, q3, q4]
  by_cases c1 : 1 ≤ p.toInt ∧ p.toInt ≤ 1000
  · rw [if_neg (show ¬ p.toInt < 1 by omega), if_neg (show ¬ 1000 < p.toInt by omega), if_pos c1]
    by_cases c2 : 1 ≤ q.toInt ∧ q.toInt ≤ 6
    · rw [if_neg (show ¬ q.toInt < 1 by omega), if_pos c2.2, if_pos c2]
      obtain ⟨M', hM'⟩ : ∃ M' : Nat, p.toInt = M' := ⟨p.toInt.toNat, by omega⟩
      obtain ⟨E', hE'⟩ : ∃ E' : Nat, q.toInt = E' := ⟨q.toInt.toNat, by omega⟩
      have hc' : CVc a b M' E' := ⟨hc.1, hc.2.1, hc.2.2.1, hc.2.2.2.1, by omega, by omega, by omega, by omega⟩
      obtain ⟨r, σ', τ1, τ', g1, g2, g3, g4, g5, g6, g7, g8, g9⟩ := chg hc hN hx hz hm hH hK hV hc'
      rw [lit32 hM', lit32 hE', xa hx.2, xb hx.2, g1, g2, Option.bind_some, Option.bind_some, g3, g4, g7, Option.bind_some, g8]
      exact ⟨_, σ', τ', rfl, rfl, Or.inr g9⟩
    · rw [if_neg c2]
      by_cases c3 : q.toInt < 1
      · rw [if_pos c3]; exact no _
      · rw [if_neg c3, if_neg (show ¬ q.toInt ≤ 6 by omega)]; exact no _
  · rw [if_neg c1]
    by_cases c3 : p.toInt < 1
    · rw [if_pos c3]; exact no _
    · rw [if_neg c3, if_pos (show 1000 < p.toInt by omega)]; exact no _
theorem inBounds_Z {x y : Int} (hx : bd 2147483647 x) (hy : bd 2147483647 y) : f_X_inBounds (iZ x) (iZ y) = decide ((-60 ≤ x ∧ x ≤ 60) ∧ (-200 ≤ y ∧ y ≤ 200)) := by
  unfold f_X_inBounds
  simp only [iZ_lit, iZ_neg, iZ_lt hx (bd_lit (A := 2147483647) (-60) rfl), iZ_lt (x := 60) (bd_lit _ rfl) hx, iZ_lt hy (bd_lit (A := 2147483647) (-200) rfl), iZ_lt (x := 200) (bd_lit _ rfl) hy]
  by_cases c1 : x < -60
  · rw [if_pos c1, decide_eq_false (by omega)]
  · rw [if_neg c1]
    by_cases c2 : 60 < x
    · rw [if_pos c2, decide_eq_false (by omega)]
    · rw [if_neg c2]
      by_cases c3 : y < -200
      · rw [if_pos c3, decide_eq_false (by omega)]
      · rw [if_neg c3]
        by_cases c4 : 200 < y
        · rw [if_pos c4, decide_eq_false (by omega)]
        · rw [if_neg c4, decide_eq_true (by omega)]
theorem other_eq {N : Nat} (hc : CVc a b M E) (hN : 10000 ≤ N) {σ τ : aSt} (hx : RX a b M E σ) (hz : Z9 σ) (hm : RM a b M E τ) {H : Nat → Int} {d : Nat} (hH : XH H d σ) (hK : MH H d τ) (hV : HV H d) {x y : Int} (bx : bd 2147483647 x) (by' : bd 2147483647 y) (y0 : y ≠ 0) (xy0 : x * x - 4 * y ≠ 0) : ∃ r σ' τ', (if (f_X_inBounds (iZ x) (iZ y)) = true then ((f_X_change N (iZ x) (iZ y) (f_PointList_most_11 σ) (f_PointList_deepest_11 σ) σ).bind fun x3 => some (x3.1, x3.2)) else some ((-5 : Int32), σ)) = some (r, σ') ∧ f_M_becomesOther N (jZ x) (jZ y) τ = some (r, τ') ∧ ((σ' = σ ∧ τ' = τ) ∨ Out a b σ τ σ' τ') := by
  have e1 : f_M_in (jZ x) (-60 : Int64) (60 : Int64) = decide (-60 ≤ x ∧ x ≤ 60) := by
    rw [in_Z, jZ_int (bd_mono bx (by decide))]; rfl
  have e2 : f_M_in (jZ y) (-200 : Int64) (200 : Int64) = decide (-200 ≤ y ∧ y ≤ 200) := by
    rw [in_Z, jZ_int (bd_mono by' (by decide))]; rfl
  unfold f_M_becomesOther
  rw [inBounds_Z bx by', e1, e2, ite_dec, ite_dec, ite_dec]
  by_cases c1 : -60 ≤ x ∧ x ≤ 60
  · rw [if_pos (c := -60 ≤ x ∧ x ≤ 60) c1]
    by_cases c2 : -200 ≤ y ∧ y ≤ 200
    · rw [if_pos (c := (-60 ≤ x ∧ x ≤ 60) ∧ (-200 ≤ y ∧ y ≤ 200)) ⟨c1, c2⟩, if_pos (c := -200 ≤ y ∧ y ≤ 200) c2]
      have hc' : CVc x y M E := ⟨c1, c2, y0, xy0, hc.2.2.2.2⟩
      obtain ⟨r, σ', τ1, τ', g1, g2, g3, g4, g5, g6, g7, g8, g9⟩ := chg hc hN hx hz hm hH hK hV hc'
      have m1 : f_PointList_most_11 σ = iZ M := hx.2.2.2.2.1
      have m2 : f_PointList_deepest_11 σ = iZ E := hx.2.2.2.2.2
      rw [m1, m2, g1, g2, Option.bind_some, Option.bind_some, j2i, j2i, g5, g6, g7, Option.bind_some, g8]
      exact ⟨_, σ', τ', rfl, rfl, Or.inr g9⟩
    · rw [if_neg (fun h => c2 h.2), if_neg c2]
      exact ⟨_, σ, τ, rfl, rfl, Or.inl ⟨rfl, rfl⟩⟩
  · rw [if_neg (fun h => c1 h.1), if_neg c1]
    exact ⟨_, σ, τ, rfl, rfl, Or.inl ⟨rfl, rfl⟩⟩
theorem goesBeside_eq {N : Nat} (hc : CVc a b M E) (hN : 10000 ≤ N) {σ τ : aSt} (hx : RX a b M E σ) (hz : Z9 σ) (hm : RM a b M E τ) {H : Nat → Int} {d : Nat} (hH : XH H d σ) (hK : MH H d τ) (hV : HV H d) : ∃ r σ' τ', f_X_goesBeside N σ = some (r, σ') ∧ f_M_goesBeside N τ = some (r, τ') ∧ ((σ' = σ ∧ τ' = τ) ∨ Out a b σ τ σ' τ') := by
  unfold f_X_goesBeside f_M_goesBeside
  rw [hx.1, hm.1, if_pos (c := true = true) rfl, if_pos (c := true = true) rfl]
  have hB := CVc_B hc
  have e1 : (-2 : Int32) * f_PointList_a_11 σ = iZ (-2 * a) := by rw [xa hx.2, iZ_lit, iZ_neg, iZ_mul]
  obtain ⟨r, σ', τ', g1, g2, g3⟩ := other_eq hc hN hx hz hm hH hK hV (x := -2 * a) (y := a * a - 4 * b) (bd_mono hB.1.1 (by decide)) (bd_mono hB.1.2 (by decide)) hB.2.1 (by
    have : -2 * a * (-2 * a) - 4 * (a * a - 4 * b) = 16 * b := by grind
    rw [this]
    have := hc.2.2.1
    omega)
  rw [e1, besideB_Z hx.2, g1, hm.2.2.1, hm.2.2.2.1, i2j (bd_mono hc.1 (by decide)), i2j (bd_mono hc.2.1 (by decide)), jZ_lit, jZ_lit, jZ_neg, jZ_mul, jZ_mul, jZ_mul, jZ_sub, g2, Option.bind_some]
  exact ⟨_, σ', τ', rfl, rfl, g3⟩
theorem twists_eq {N : Nat} (hc : CVc a b M E) (hN : 10000 ≤ N) {σ τ : aSt} (hx : RX a b M E σ) (hz : Z9 σ) (hm : RM a b M E τ) {H : Nat → Int} {d : Nat} (hH : XH H d σ) (hK : MH H d τ) (hV : HV H d) (p : Int32) : ∃ r σ' τ', f_X_twists N p σ = some (r, σ') ∧ f_M_twists N p τ = some (r, τ') ∧ ((σ' = σ ∧ τ' = τ) ∨ Out a b σ τ σ' τ') := by
  have no : ∀ r : Int32, ∃ r' σ' τ', some (r, σ) = some (r', σ') ∧ some (r, τ) = some (r', τ') ∧ ((σ' = σ ∧ τ' = τ) ∨ Out a b σ τ σ' τ') := fun r => ⟨r, σ, τ, rfl, rfl, Or.inl ⟨rfl, rfl⟩⟩
  have e1 : f_M_in p.toInt64 (-9 : Int64) (9 : Int64) = decide (-9 ≤ p.toInt ∧ p.toInt ≤ 9) := in_p (lo := -9) (hi := 9) (bd_lit _ rfl) (bd_lit _ rfl)
  have q0 : (p = (0 : Int32)) = (p.toInt = 0) := pl_eq (bd_lit 0 rfl)
  have q1 : (p < (-9 : Int32)) = (p.toInt < -9) := pl_lt (y := -9) (bd_lit (-9) rfl)
  have q2 : (p ≤ (9 : Int32)) = (p.toInt ≤ 9) := pl_le (bd_lit 9 rfl)
  unfold f_X_twists f_M_twists
  rw [hx.1, hm.1, if_pos (c := true = true) rfl, if_pos (c := true = true) rfl]
  simp only [e1, ite_dec, ne_eq, q0, q1, q2]
  by_cases c1 : -9 ≤ p.toInt ∧ p.toInt ≤ 9
  · rw [if_pos (c := -9 ≤ p.toInt ∧ p.toInt ≤ 9) c1]
    by_cases c0 : p.toInt = 0
    · rw [if_pos (c := p.toInt = 0) c0, if_neg (c := ¬ p.toInt = 0) (fun h => h c0)]; exact no _
    · rw [if_neg (c := p.toInt = 0) c0, if_pos (c := ¬ p.toInt = 0) c0, if_neg (show ¬ p.toInt < -9 by omega), if_pos c1.2]
      obtain ⟨k, hk⟩ : ∃ k, k = p.toInt := ⟨_, rfl⟩
      have ep : p = iZ k := lit32 hk.symm
      rw [← hk] at c1 c0
      have hkb : bd 9 k := ⟨by omega, by omega⟩
      rw [ep]
      obtain ⟨r, σ', τ', g1, g2, g3⟩ := other_eq hc hN hx hz hm hH hK hV (x := a * k) (y := b * k * k) (bd_mono (bd_mul hc.1 hkb) (by decide)) (bd_mono (bd_mul (bd_mul hc.2.1 hkb) hkb) (by decide)) (Int.mul_ne_zero (Int.mul_ne_zero hc.2.2.1 c0) c0) (by
        have : a * k * (a * k) - 4 * (b * k * k) = (a * a - 4 * b) * k * k := by grind
        rw [this]
        exact Int.mul_ne_zero (Int.mul_ne_zero hc.2.2.2.1 c0) c0)
      rw [xa hx.2, xb hx.2, iZ_mul, iZ_mul, iZ_mul, g1, hm.2.2.1, hm.2.2.2.1, i2j (bd_mono hc.1 (by decide)), i2j (bd_mono hc.2.1 (by decide)), i2j (bd_mono hkb (by decide)), jZ_mul, jZ_mul, jZ_mul, g2, Option.bind_some]
      exact ⟨_, σ', τ', rfl, rfl, g3⟩
  · rw [if_neg c1]
    by_cases c0 : p.toInt = 0
    · omega
    · rw [if_neg (c := p.toInt = 0) c0]
      by_cases c3 : p.toInt < -9
      · rw [if_pos c3]; exact no _
      · rw [if_neg c3, if_neg (show ¬ p.toInt ≤ 9 by omega)]; exact no _
end CHG
