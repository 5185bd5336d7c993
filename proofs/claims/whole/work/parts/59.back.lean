/-! back, beside, same -/
section OVER
variable {a b : Int} {M E : Nat}
theorem back_eq {N : Nat} (hc : CVc a b M E) (hN : 10000 ≤ N) {σ τ : aSt} (hx : RX a b M E σ) (hb : BS a b M E σ) (hz : Z9 σ) (hm : RM a b M E τ) (p : Int32) : ∃ r σ' τ', f_X_back N p σ = some (r, σ') ∧ f_M_back N p τ = some (r, τ') ∧ (fr frB σ σ' ∧ BS a b M E σ' ∧ Z9 σ') ∧ fr frO τ τ' := by
  obtain ⟨hab', hb0', hM1, hM, hE1, hE⟩ := CVc_B hc
  obtain ⟨hab, hb0, -⟩ := CVc_CV hc
  have hl := hL_le (a := -2 * a) (b := a * a - 4 * b) (M := M) (E := E)
  unfold f_X_back f_M_back
  rw [hx.1, hm.1, if_pos (c := true = true) rfl, if_pos (c := true = true) rfl]
  obtain ⟨σ', g1, g2, g3, g4, g5⟩ := readyB hc hN hx.2 hb hz
  have hx' := XC_B g2 hx.2
  have fin : (fr frB σ σ' ∧ BS a b M E σ' ∧ Z9 σ') := ⟨g2, fun _ => g4, g5⟩
  obtain ⟨τ1, t1, t2, t3⟩ := over_m hc hN hm.2
  have hm1 := MC_fr (fr51_O t3) okO hm.2
  rw [g1, t1, Option.bind_some, Option.bind_some, shown16 g4, t2.1]
  by_cases cz : p = (1000 : Int32)
  · rw [if_pos cz, if_neg (c := p ≠ (1000 : Int32)) (fun h => h cz)]
    unfold f_X_goOver_16_11
    rw [if_pos cz, Option.bind_some]
    exact ⟨_, σ', τ1, rfl, rfl, fin, fr51_O t3⟩
  · rw [if_neg cz, if_pos (c := p ≠ (1000 : Int32)) cz]
    have e2 : f_M_in p.toInt64 (0 : Int64) (iZ ((hL (-2 * a) (a * a - 4 * b) M E).length : Int) - (1 : Int32)).toInt64 = decide (0 ≤ p.toInt ∧ p.toInt < ((hL (-2 * a) (a * a - 4 * b) M E).length : Int)) := by
      rw [iZ_lit, iZ_sub, i2j ⟨by omega, by omega⟩, jZ_lit, in_p (bd_lit _ rfl) ⟨by omega, by omega⟩]
      by_cases c : 0 ≤ p.toInt ∧ p.toInt < ((hL (-2 * a) (a * a - 4 * b) M E).length : Int)
      · rw [decide_eq_true c, decide_eq_true (by omega)]
      · rw [decide_eq_false c, decide_eq_false (by omega)]
    have q1 : (p < (0 : Int32)) = (p.toInt < 0) := pl_lt (bd_lit 0 rfl)
    have q2 : (p < iZ ((hL (-2 * a) (a * a - 4 * b) M E).length : Int)) = (p.toInt < ((hL (-2 * a) (a * a - 4 * b) M E).length : Int)) := pl_lt ⟨by omega, by omega⟩
    rw [e2, ite_dec]
    simp only [q1, q2]
    by_cases c : 0 ≤ p.toInt ∧ p.toInt < ((hL (-2 * a) (a * a - 4 * b) M E).length : Int)
    · rw [if_neg (show ¬ p.toInt < 0 by omega), if_pos c.2, if_pos c]
      obtain ⟨i, q, rfl, hq⟩ := listed c
      have hpt := hL_pt hq
      have m := isPt_m hM hpt
      have n := isPt_n hab' hM hE hpt
      have e := isPt_e hE hpt
      have hil := get_lt hq
      rw [show (2 : Int32) = iZ 2 from rfl, go16 hN hab' hab hM hE g4.1 g4.2.2.1 hx'.1 hx'.2.2.2.1 hx'.2.2.2.2 (shownZ hx') (hL_get hq).1 (s := 2) (bd_lit _ rfl) (by decide), Option.bind_some]
      obtain ⟨k1, k2, k3⟩ := t2.2.2 i q hq
      have hin : 0 ≤ iZ (i : Int) ∧ iZ (i : Int) < (120 : Int32) := by rw [iZ_lit, iZ_lit, iZ_le (bd_lit _ rfl) ⟨by omega, by omega⟩, iZ_lt ⟨by omega, by omega⟩ (bd_lit _ rfl)]; omega
      rw [if_pos hin, iZ_idx (by omega) (by omega), Int.toNat_natCast, k1, k2, k3]
      by_cases c0 : q.1 = 0
      · rw [if_neg (c := iZ q.1 ≠ 0) (by rw [c0]; exact fun h => h rfl), if_pos c0]
        exact ⟨_, σ', τ1, rfl, rfl, fin, fr51_O t3⟩
      · rw [if_pos (c := iZ q.1 ≠ 0) (by rw [ne_eq, iZ_lit, iZ_eq (bd_mono m (by decide)) (bd_lit _ rfl)]; exact c0), if_neg c0, i2j (bd_mono m (by decide)), i2j (bd_mono e (by decide)), hm1.2.1, hm1.2.2.1, i2j (bd_mono hab.1 (by decide)), i2j (bd_mono hab.2 (by decide))]
        simp only [jZ_lit, jZ_mul, jZ_sub]
        have hwb : bd 12000 (2 * q.1 * q.2.2) := (ov_bd hab' hM hE hpt hab'.2 (s := 2) (bd_lit _ rfl) (d := 1) (bd_lit _ rfl)).2.2
        obtain ⟨τ2, e1, e2, e3⟩ := eW_ok hab' hM hE hN hm1.2.2.2.1 hm1.2.2.2.2 hpt (w := 2 * q.1 * q.2.2) (ov_w hpt c0 (by decide)) hwb (V := 4 * q.2.2 * q.2.2 * q.1 * q.1) (by grind)
        rw [e1, Option.bind_some]
        simp only
        obtain ⟨rb, db⟩ := ovRD_bd hab' hM hE hpt hwb
        obtain ⟨-, -, d1⟩ := ov_lw (n := q.2.1) (w := 2 * q.1 * q.2.2) (ov_w hpt c0 (by decide))
        have hm2 := MC_fr e2 ok23 hm1
        by_cases cin : ovD q.2.1 (2 * q.1 * q.2.2) ≤ E ∧ ovR q.2.1 (2 * q.1 * q.2.2) * ovR q.2.1 (2 * q.1 * q.2.2) ≤ M
        · rw [if_pos cin, if_pos (by rw [ne_eq, jZ_eq ⟨by omega, by omega⟩ (bd_lit _ rfl)]; omega), e3]
          simp only [jZ_mul, jZ_sub]
          obtain ⟨b1, b2, -⟩ := ov_bd hab' hM hE hpt hab'.2 (s := 2) (bd_lit _ rfl) (d := (ovD q.2.1 (2 * q.1 * q.2.2) : Int)) ⟨by omega, by omega⟩
          have eden : 8 * q.2.2 * q.2.2 * q.2.2 * q.1 * q.1 = 2 * 2 * 2 * q.2.2 * q.2.2 * q.2.2 * q.1 * q.1 := by grind
          have hden0 : 2 * 2 * 2 * q.2.2 * q.2.2 * q.2.2 * q.1 * q.1 ≠ 0 := by
            have h2 : q.2.2 ≠ 0 := by have := hpt.2.1; omega
            rw [← eden]
            exact Int.mul_ne_zero (Int.mul_ne_zero (Int.mul_ne_zero (Int.mul_ne_zero (Int.mul_ne_zero (by decide) h2) h2) h2) c0) c0
          rw [eden, if_pos (by rw [jZ_eq b2 (bd_lit _ rfl)]; exact hden0), jZ_div b1 b2]
          rw [mfind_ok hN hm2.1 (fun t ht => isPt_kb hab hM hE (by obtain ⟨j, hj⟩ := List.getElem?_of_mem ht; exact hL_pt hj)) (bd_mono (bd_mul rb rb) (by decide)) (bd_tdiv _ b1) ⟨by omega, by omega⟩, Option.bind_some]
          refine ⟨_, σ', τ2, rfl, ?_, fin, fr_trans (fr51_O t3) (fr23_O e2)⟩
          unfold ovI
          rw [if_pos cin.1]
          rfl
        · rw [if_neg cin, if_neg (fun h => h rfl), ovI_far cin, min_6]
          exact ⟨_, σ', τ2, rfl, rfl, fin, fr_trans (fr51_O t3) (fr23_O e2)⟩
    · rw [if_neg c]
      by_cases c1 : p.toInt < 0
      · rw [if_pos c1]; exact ⟨_, σ', τ1, rfl, rfl, fin, fr51_O t3⟩
      · rw [if_neg c1, if_neg (show ¬ p.toInt < ((hL (-2 * a) (a * a - 4 * b) M E).length : Int) by omega)]
        exact ⟨_, σ', τ1, rfl, rfl, fin, fr51_O t3⟩
theorem beside_eq {N : Nat} (hc : CV a b M E) (hN : 10000 ≤ N) {σ τ : aSt} (hx : RX a b M E σ) (hm : RM a b M E τ) (p w : Int32) : ∃ r τ', f_X_beside N p w σ = some r ∧ f_M_beside N p w τ = some (r, τ') ∧ fr fr23 τ τ' := by
  obtain ⟨hab, hb0, hM1, hM, hE1, hE⟩ := hc
  have no : ∀ r : Int64, ∃ r' τ', some r = some r' ∧ some (r, τ) = some (r', τ') ∧ fr fr23 τ τ' := fun r => ⟨r, τ, rfl, rfl, fr_refl _ _⟩
  have e1 : f_M_in w.toInt64 (0 : Int64) (1 : Int64) = decide (0 ≤ w.toInt ∧ w.toInt ≤ 1) := in_p (lo := 0) (hi := 1) (bd_lit _ rfl) (bd_lit _ rfl)
  have q1 : (w < (0 : Int32)) = (w.toInt < 0) := pl_lt (bd_lit 0 rfl)
  have q2 : (w ≤ (1 : Int32)) = (w.toInt ≤ 1) := pl_le (bd_lit 1 rfl)
  unfold f_X_beside f_M_beside
  simp only [xListed hx, mListed hm, ite_dec, e1, q1, q2]
  by_cases c : 0 ≤ p.toInt ∧ p.toInt < ((hL a b M E).length : Int)
  · rw [if_pos c, if_pos c]
    obtain ⟨i, q, rfl, hq⟩ := listed c
    obtain ⟨q', hq', g1, g2, g3, g4⟩ := see_x hx.2 (i := i) (get_lt hq)
    rw [hq] at hq'
    have := Option.some.inj hq'
    subst this
    obtain ⟨k1, k2, k3, k4⟩ := see_m hm.2 hq
    have m := isPt_m hM g1
    have n := isPt_n hab hM hE g1
    have e := isPt_e hE g1
    rw [g2, g3, g4, k1, k2, k3, if_pos k4]
    by_cases c0 : q.1 = 0
    · rw [if_pos (c := iZ q.1 = 0) (by rw [c0]; rfl), if_neg (c := iZ q.1 ≠ 0) (by rw [c0]; exact fun h => h rfl)]
      by_cases cw : 0 ≤ w.toInt ∧ w.toInt ≤ 1
      · rw [if_pos cw]; exact no _
      · rw [if_neg cw]; exact no _
    · have hne : ¬ iZ q.1 = 0 := by rw [iZ_lit, iZ_eq (bd_mono m (by decide)) (bd_lit _ rfl)]; exact c0
      rw [if_neg hne, if_pos (c := iZ q.1 ≠ 0) hne]
      by_cases cw : 0 ≤ w.toInt ∧ w.toInt ≤ 1
      · rw [if_neg (show ¬ w.toInt < 0 by omega), if_pos cw.2, if_pos cw, i2j (bd_mono m (by decide)), i2j (bd_mono n (by decide)), i2j (bd_mono e (by decide))]
        simp only [jZ_mul]
        have hw0 : q.1 * q.2.2 ≠ 0 := Int.mul_ne_zero c0 (by have := g1.2.1; omega)
        have hwb : bd 6000 (q.1 * q.2.2) := bd_mono (bd_mul m e) (by decide)
        have w1 := hwb.1; have w2 := hwb.2
        have hgl := Int.gcd_le_natAbs_right q.2.1 hw0
        have hgb : bd 9223372036854775807 (Int.gcd q.2.1 (q.1 * q.2.2) : Int) := ⟨by omega, by omega⟩
        obtain ⟨l1, l2, l3⟩ := ov_lw (n := q.2.1) hw0
        have hV : q.2.2 * q.2.2 * q.1 * q.1 = q.1 * q.2.2 * (q.1 * q.2.2) := by grind
        rw [gcd_Z hN (bd_mono n (by decide)) (bd_mono hwb (by decide)), Option.bind_some, Option.bind_some, quot_Z (bd_mono n (by decide)) hgb, quot_Z (bd_mono hwb (by decide)) hgb, hV, lowers_pos hN (bd_mono (bd_mul n n) (by decide)) (bd_mono (bd_mul hwb hwb) (by decide)) (sq_pos hw0), Option.bind_some, l1, l2, jZ_mul, jZ_mul]
        have hd : (ovD q.2.1 (q.1 * q.2.2) : Int) * (ovD q.2.1 (q.1 * q.2.2) : Int) = (q.1 * q.2.2).tdiv (Int.gcd q.2.1 (q.1 * q.2.2) : Int) * (q.1 * q.2.2).tdiv (Int.gcd q.2.1 (q.1 * q.2.2) : Int) := Int.natAbs_mul_self' _
        rw [hd]
        have f1 : fr fr23 τ (s_l (s_l τ 66 23 (jZ (ovR q.2.1 (q.1 * q.2.2) * ovR q.2.1 (q.1 * q.2.2)))) 66 24 (jZ ((q.1 * q.2.2).tdiv (Int.gcd q.2.1 (q.1 * q.2.2) : Int) * (q.1 * q.2.2).tdiv (Int.gcd q.2.1 (q.1 * q.2.2) : Int)))) := fr_trans (fr_sl rfl) (fr_sl rfl)
        by_cases cw0 : w ≠ 0
        · rw [if_pos cw0, if_pos cw0]
          exact ⟨_, _, rfl, rfl, f1⟩
        · rw [if_neg cw0, if_neg cw0]
          exact ⟨_, _, rfl, rfl, f1⟩
      · rw [if_neg cw]
        by_cases c1 : w.toInt < 0
        · rw [if_pos c1]; exact no _
        · rw [if_neg c1, if_neg (show ¬ w.toInt ≤ 1 by omega)]; exact no _
  · rw [if_neg c, if_neg c]; exact no _
theorem same_eq {N : Nat} (hc : CVc a b M E) (hN : 10000 ≤ N) {σ τ : aSt} (hx : RX a b M E σ) (hm : RM a b M E τ) (w : Int32) : ∃ r τ', f_X_same N w σ = some r ∧ f_M_same N w τ = some (r, τ') ∧ fr fr23 τ τ' := by
  obtain ⟨ha, hb, hb0, hd0, -⟩ := hc
  have no : ∀ r : Int64, ∃ r' τ', some r = some r' ∧ some (r, τ) = some (r', τ') ∧ fr fr23 τ τ' := fun r => ⟨r, τ, rfl, rfl, fr_refl _ _⟩
  have e1 : f_M_in w.toInt64 (0 : Int64) (1 : Int64) = decide (0 ≤ w.toInt ∧ w.toInt ≤ 1) := in_p (lo := 0) (hi := 1) (bd_lit _ rfl) (bd_lit _ rfl)
  have q1 : (w < (0 : Int32)) = (w.toInt < 0) := pl_lt (bd_lit 0 rfl)
  have q2 : (w ≤ (1 : Int32)) = (w.toInt ≤ 1) := pl_le (bd_lit 1 rfl)
  have hcc : bd 4400 (a * a - 4 * b) := bd_mono (bd_sub (bd_mul ha ha) (bd_mul (bd_lit (A := 4) 4 rfl) hb)) (by decide)
  have h3 : bd 4200 (a * a - 3 * b) := bd_mono (bd_sub (bd_mul ha ha) (bd_mul (bd_lit (A := 3) 3 rfl) hb)) (by decide)
  unfold f_X_same f_M_same
  rw [hx.1, hm.1, if_pos (c := true = true) rfl, if_pos (c := true = true) rfl]
  simp only [e1, ite_dec, q1, q2]
  by_cases cw : 0 ≤ w.toInt ∧ w.toInt ≤ 1
  · rw [if_neg (show ¬ w.toInt < 0 by omega), if_pos cw.2, if_pos cw, xa hx.2, xb hx.2, besideB_Z hx.2, hm.2.2.1, hm.2.2.2.1, i2j (bd_mono ha (by decide)), i2j (bd_mono hb (by decide)), i2j (bd_mono hcc (by decide))]
    simp only [jZ_lit, jZ_mul, jZ_sub]
    have hU : bd 4611686018427387903 (256 * (a * a - 3 * b) * (a * a - 3 * b) * (a * a - 3 * b)) := bd_mono (bd_mul (bd_mul (bd_mul (bd_lit (A := 256) 256 rfl) h3) h3) h3) (by decide)
    have hV : bd 4611686018427387903 (b * b * (a * a - 4 * b)) := bd_mono (bd_mul (bd_mul hb hb) hcc) (by decide)
    have hV0 : b * b * (a * a - 4 * b) ≠ 0 := Int.mul_ne_zero (Int.mul_ne_zero hb0 hb0) hd0
    obtain ⟨U, eU⟩ : ∃ U, U = 256 * (a * a - 3 * b) * (a * a - 3 * b) * (a * a - 3 * b) := ⟨_, rfl⟩
    obtain ⟨V, eV⟩ : ∃ V, V = b * b * (a * a - 4 * b) := ⟨_, rfl⟩
    rw [← eU] at hU ⊢
    rw [← eV] at hV hV0 ⊢
    have v1 := hV.1; have v2 := hV.2
    have hgl := Int.gcd_le_natAbs_right U hV0
    have hgb : bd 9223372036854775807 (Int.gcd U V : Int) := ⟨by omega, by omega⟩
    rw [gcd_Z hN (bd_mono hU (by decide)) (bd_mono hV (by decide)), Option.bind_some, lowers_ok hN hU hV hV0, Option.bind_some, jZ_neg, quot_Z (bd_mono hU (by decide)) hgb, quot_Z (bd_mono hV (by decide)) hgb, quot_Z (bd_mono hU (by decide)) (bd_neg hgb), quot_Z (bd_mono hV (by decide)) (bd_neg hgb)]
    have f1 : fr fr23 τ (s_l (s_l τ 66 23 (jZ (lwS U V))) 66 24 (jZ ((V.natAbs : Int).tdiv (Int.gcd U V : Int)))) := fr_trans (fr_sl rfl) (fr_sl rfl)
    have k23 : (s_l (s_l τ 66 23 (jZ (lwS U V))) 66 24 (jZ ((V.natAbs : Int).tdiv (Int.gcd U V : Int)))).2.1 66 23 = jZ (lwS U V) := rfl
    have k24 : (s_l (s_l τ 66 23 (jZ (lwS U V))) 66 24 (jZ ((V.natAbs : Int).tdiv (Int.gcd U V : Int)))).2.1 66 24 = jZ ((V.natAbs : Int).tdiv (Int.gcd U V : Int)) := rfl
    rw [k23, k24]
    by_cases cv : 0 ≤ V
    · rw [if_pos (by rw [jZ_le (bd_lit _ rfl) (bd_mono hV (by decide))]; exact cv)]
      have eS : lwS U V = U.tdiv (Int.gcd U V : Int) := if_neg (by omega)
      rw [eS, Int.natAbs_of_nonneg cv]
      rw [eS, Int.natAbs_of_nonneg cv] at f1
      by_cases cw0 : w ≠ 0
      · rw [if_pos cw0, if_pos cw0]; exact ⟨_, _, rfl, rfl, f1⟩
      · rw [if_neg cw0, if_neg cw0]; exact ⟨_, _, rfl, rfl, f1⟩
    · rw [if_neg (by rw [jZ_le (bd_lit _ rfl) (bd_mono hV (by decide))]; exact cv)]
      have eS : lwS U V = U.tdiv (-(Int.gcd U V : Int)) := by
        unfold lwS
        rw [if_pos (by omega), Int.neg_tdiv, Int.tdiv_neg]
      have eA : ((V.natAbs : Int)).tdiv (Int.gcd U V : Int) = V.tdiv (-(Int.gcd U V : Int)) := by
        rw [show (V.natAbs : Int) = -V from by omega, Int.neg_tdiv, Int.tdiv_neg]
      rw [eS, eA]
      rw [eS, eA] at f1
      by_cases cw0 : w ≠ 0
      · rw [if_pos cw0, if_pos cw0]; exact ⟨_, _, rfl, rfl, f1⟩
      · rw [if_neg cw0, if_neg cw0]; exact ⟨_, _, rfl, rfl, f1⟩
  · rw [if_neg cw]
    by_cases c1 : w.toInt < 0
    · rw [if_pos c1]; exact no _
    · rw [if_neg c1, if_neg (show ¬ w.toInt ≤ 1 by omega)]; exact no _
end OVER
