/-! straight -/
section OPS
variable {a b : Int} {M E : Nat}
def tb (a b : Int) (M E : Nat) (x y : Int) : Bool := if x = 1000 ∨ y = 1000 then decide (x = y) else decide (zP (gp a b M E x) (gp a b M E y))
theorem pnt_idx {x : Int} (h : pnt a b M E x) (h1 : x ≠ 1000) : 0 ≤ x ∧ x < ((hL a b M E).length : Int) := by
  rcases h with h | h
  · exact absurd h h1
  · exact h
theorem areT_ok (hc : CV a b M E) (N : Nat) {τ : aSt} (hm : MC a b M E τ) {x y : Int} (hx : pnt a b M E x) (hy : pnt a b M E y) : f_M_areTurned N (iZ x) (iZ y) τ = some (tb a b M E x y) := by
  obtain ⟨hab, -, -, hM, -, hE⟩ := hc
  have bx := scd_bd (pnt_scd hx).1
  have by' := scd_bd (pnt_scd hy).1
  have e1 : (iZ x = (1000 : Int32)) = (x = 1000) := iZ_eq (bd_mono bx (by decide)) (bd_lit 1000 rfl)
  have e2 : (iZ y = (1000 : Int32)) = (y = 1000) := iZ_eq (bd_mono by' (by decide)) (bd_lit 1000 rfl)
  have e3 : (iZ x = iZ y) = (x = y) := iZ_eq (bd_mono bx (by decide)) (bd_mono by' (by decide))
  unfold f_M_areTurned tb
  simp only [ne_eq, e1, e2, e3]
  by_cases c1 : x = 1000
  · rw [if_pos c1, if_pos (Or.inl c1)]
    by_cases c2 : x = y
    · rw [if_neg (fun h => h c2), decide_eq_true c2]
    · rw [if_pos c2, decide_eq_false c2]
  · rw [if_neg c1]
    by_cases c2 : y = 1000
    · rw [if_neg (fun h => h c2), if_pos (Or.inr c2)]
      by_cases c3 : x = y
      · rw [if_neg (fun h => h c3), decide_eq_true c3]
      · rw [if_pos c3, decide_eq_false c3]
    · rw [if_pos c2, if_neg (c := x = 1000 ∨ y = 1000) (fun h => h.elim c1 c2)]
      obtain ⟨x0, x1⟩ := pnt_idx hx c1
      obtain ⟨y0, y1⟩ := pnt_idx hy c2
      obtain ⟨i, rfl⟩ : ∃ i : Nat, x = i := ⟨x.toNat, by omega⟩
      obtain ⟨j, rfl⟩ : ∃ j : Nat, y = j := ⟨y.toNat, by omega⟩
      have hp := gp_get x0 x1
      have hq := gp_get y0 y1
      rw [Int.toNat_natCast] at hp hq
      obtain ⟨k1, k2, k3, k4⟩ := see_m hm hp
      obtain ⟨l1, l2, l3, l4⟩ := see_m hm hq
      have pp := hL_pt hp
      have qq := hL_pt hq
      have pm := isPt_m hM pp; have pn := isPt_n hab hM hE pp; have pe := isPt_e hE pp
      have qm := isPt_m hM qq; have qn := isPt_n hab hM hE qq; have qe := isPt_e hE qq
      obtain ⟨p, hpe⟩ : ∃ p, p = gp a b M E (i : Int) := ⟨_, rfl⟩
      obtain ⟨q, hqe⟩ : ∃ q, q = gp a b M E (j : Int) := ⟨_, rfl⟩
      rw [← hpe] at k1 k2 k3 pm pn pe ⊢
      rw [← hqe] at l1 l2 l3 qm qn qe ⊢
      have n1 := pn.1; have n2 := pn.2; have n3 := qn.1; have n4 := qn.2
      rw [if_pos k4, if_pos l4, k1, k2, k3, l1, l2, l3, jZ_neg]
      have r1 : (iZ p.1 = iZ q.1) = (p.1 = q.1) := iZ_eq (bd_mono pm (by decide)) (bd_mono qm (by decide))
      have r2 : (iZ p.2.2 = iZ q.2.2) = (p.2.2 = q.2.2) := iZ_eq (bd_mono pe (by decide)) (bd_mono qe (by decide))
      have r3 : (jZ p.2.1 = jZ (-q.2.1)) = (p.2.1 = -q.2.1) := jZ_eq ⟨by omega, by omega⟩ ⟨by omega, by omega⟩
      simp only [r1, r2, r3]
      by_cases d1 : p.1 = q.1
      · rw [if_neg (fun h => h d1)]
        by_cases d2 : p.2.2 = q.2.2
        · rw [if_neg (fun h => h d2)]
          by_cases d3 : p.2.1 = -q.2.1
          · rw [if_neg (fun h => h d3), decide_eq_true ⟨⟨d1, d2⟩, d3⟩]
          · rw [if_pos d3, decide_eq_false (fun h => d3 h.2)]
        · rw [if_pos d2, decide_eq_false (fun h => d2 h.1.2)]
      · rw [if_pos d1, decide_eq_false (fun h => d1 h.1.1)]
theorem zP_tn {p q : Pt} : zP p q ↔ p = tn q := by
  obtain ⟨m, n, e⟩ := p
  obtain ⟨m', n', e'⟩ := q
  unfold tn
  constructor
  · rintro ⟨⟨h1, h2⟩, h3⟩
    simp only at h1 h2 h3
    rw [h1, h2, h3]
  · intro h
    injection h with h1 h2
    injection h2 with h2 h3
    exact ⟨⟨h1, h3⟩, h2⟩
/-- the class: is it the TURNED one's number -/
theorem negEq (hc : CV a b M E) {σ : aSt} (hx : XC a b M E σ) {y z : Int} (hy : pnt a b M E y) (hz : pnt a b M E z) : (iZ y = f_Sums_negative (iZ z) σ) = (tb a b M E y z = true) := by
  obtain ⟨hab, -, -, hM, -, hE⟩ := id hc
  have hl := hL_le (a := a) (b := b) (M := M) (E := E)
  have hxl := hX_len a b M E
  have by' := scd_bd (pnt_scd hy).1
  have bz := scd_bd (pnt_scd hz).1
  unfold tb
  by_cases c1 : z = 1000
  · have : f_Sums_negative (iZ z) σ = iZ 1000 := by
      unfold f_Sums_negative
      rw [c1, if_pos (by decide)]
    rw [this, iZ_eq (bd_mono by' (by decide)) (bd_lit _ rfl), if_pos (Or.inr c1), decide_eq_true_eq, c1]
  · obtain ⟨z0, z1⟩ := pnt_idx hz c1
    obtain ⟨k, h1, h2⟩ := neg_held hc hx (gpX z0 z1)
    rw [show ((z.toNat : Nat) : Int) = z from by omega] at h2
    have hk := get_lt h1
    rw [h2, iZ_eq (bd_mono by' (by decide)) ⟨by omega, by omega⟩]
    by_cases c2 : y = 1000
    · rw [if_pos (Or.inl c2), decide_eq_true_eq]
      exact propext ⟨fun h => by omega, fun h => by omega⟩
    · rw [if_neg (fun h => h.elim c2 c1), decide_eq_true_eq, zP_tn]
      obtain ⟨y0, y1⟩ := pnt_idx hy c2
      have hyx := gpX y0 y1
      refine propext ⟨fun h => ?_, fun h => ?_⟩
      · have e : y.toNat = k := by omega
        rw [e, h1] at hyx
        exact (Option.some.inj hyx).symm
      · rw [h] at hyx
        have := KS_inj (hX_KS hab hM hE) hyx h1
        omega
theorem straight_eq {N : Nat} (hc : CV a b M E) (hN : 10000 ≤ N) {σ τ : aSt} (hx : RX a b M E σ) (hm : RM a b M E τ) (p q k : Int32) : ∃ r σ' τ', f_X_straight N p q k σ = some (r, σ') ∧ f_M_straight N p q k τ = some (r, τ') ∧ fr fr22 σ σ' ∧ fr fr23 τ τ' := by
  have no : ∀ r : Int32, ∃ r' σ' τ', some (r, σ) = some (r', σ') ∧ some (r, τ) = some (r', τ') ∧ fr fr22 σ σ' ∧ fr fr23 τ τ' := fun r => ⟨r, σ, τ, rfl, rfl, fr_refl _ _, fr_refl _ _⟩
  unfold f_X_straight f_M_straight
  simp only [xPoint hx, mPoint hm, ite_dec]
  by_cases c : p.toInt = 1000 ∨ (0 ≤ p.toInt ∧ p.toInt < ((hL a b M E).length : Int))
  · rw [if_pos c, if_pos c]
    by_cases c2 : q.toInt = 1000 ∨ (0 ≤ q.toInt ∧ q.toInt < ((hL a b M E).length : Int))
    · rw [if_pos c2, if_pos c2]
      by_cases c3 : k.toInt = 1000 ∨ (0 ≤ k.toInt ∧ k.toInt < ((hL a b M E).length : Int))
      · rw [if_pos c3, if_pos c3]
        obtain ⟨x, hxe⟩ : ∃ x, x = p.toInt := ⟨_, rfl⟩
        obtain ⟨y, hye⟩ : ∃ y, y = q.toInt := ⟨_, rfl⟩
        obtain ⟨z, hze⟩ : ∃ z, z = k.toInt := ⟨_, rfl⟩
        have ep : p = iZ x := lit32 hxe.symm
        have eq : q = iZ y := lit32 hye.symm
        have ek : k = iZ z := lit32 hze.symm
        rw [← hxe] at c; rw [← hye] at c2; rw [← hze] at c3
        rw [ep, eq, ek]
        have hpx : pnt a b M E x := c
        have hpy : pnt a b M E y := c2
        have hpz : pnt a b M E z := c3
        obtain ⟨sx, x6⟩ := pnt_scd hpx
        obtain ⟨sy, y6⟩ := pnt_scd hpy
        obtain ⟨sz, z6⟩ := pnt_scd hpz
        have bx := scd_bd sx; have by' := scd_bd sy; have bz := scd_bd sz
        have e1 : (iZ x = (1000 : Int32)) = (x = 1000) := iZ_eq (bd_mono bx (by decide)) (bd_lit 1000 rfl)
        have e2 : (iZ y = (1000 : Int32)) = (y = 1000) := iZ_eq (bd_mono by' (by decide)) (bd_lit 1000 rfl)
        have e3 : (iZ z = (1000 : Int32)) = (z = 1000) := iZ_eq (bd_mono bz (by decide)) (bd_lit 1000 rfl)
        have m1 : ¬ iZ x = (-6 : Int32) := by rw [min_6, iZ_eq (bd_mono bx (by decide)) (bd_lit _ rfl)]; exact x6
        have m2 : ¬ iZ y = (-6 : Int32) := by rw [min_6, iZ_eq (bd_mono by' (by decide)) (bd_lit _ rfl)]; exact y6
        -- the two that have the same answer
        have two : ∀ u : Int, pnt a b M E u → ∃ r σ' τ', (if iZ u ≠ f_Sums_negative (iZ z) σ then some ((0 : Int32), σ) else some ((1 : Int32), σ)) = some (r, σ') ∧ ((f_M_areTurned N (iZ u) (iZ z) τ).bind fun x7 => (if x7 = true then some ((1 : Int32), τ) else some ((0 : Int32), τ))) = some (r, τ') ∧ fr fr22 σ σ' ∧ fr fr23 τ τ' := fun u hu => by
          rw [areT_ok hc N hm.2 hu hpz, Option.bind_some]
          simp only [ne_eq, negEq hc hx.2 hu hpz]
          by_cases ct : tb a b M E u z = true
          · rw [if_neg (fun h => h ct), if_pos ct]; exact no _
          · rw [if_pos ct, if_neg ct]; exact no _
        unfold f_Sums_heldTotal
        rw [if_neg m1, if_pos m2]
        simp only [ne_eq, e1, e2, e3]
        by_cases cx : x = 1000
        · rw [if_neg (fun h => h cx), if_neg (fun h => h cx), Option.bind_some]
          exact two y hpy
        · rw [if_pos cx, if_pos cx]
          by_cases cy : y = 1000
          · rw [if_neg (fun h => h cy), if_pos cy, if_neg (fun h => h cy), Option.bind_some]
            exact two x hpx
          · rw [if_pos cy, if_neg cy]
            obtain ⟨x0, x1⟩ := pnt_idx hpx cx
            obtain ⟨y0, y1⟩ := pnt_idx hpy cy
            obtain ⟨hab, -, -, hM, -, hE⟩ := id hc
            have hl := hL_le (a := a) (b := b) (M := M) (E := E)
            have hxl := hX_len a b M E
            obtain ⟨i, rfl⟩ : ∃ i : Nat, x = i := ⟨x.toNat, by omega⟩
            obtain ⟨j, rfl⟩ : ∃ j : Nat, y = j := ⟨y.toNat, by omega⟩
            have hp := gp_get x0 x1
            have hq := gp_get y0 y1
            rw [Int.toNat_natCast] at hp hq
            have hpp := hL_pt hp
            have hqq := hL_pt hq
            obtain ⟨g1, g2⟩ := join_ok hc hx.2 (hL_get hp).1 (hL_get hq).1
            have hx1 := XC_22 g2 hx.2
            rw [lt_eq, placeIn_ok hc hN hx1 hpp hqq g1, Option.bind_some, Option.bind_some]
            simp only
            have hr := sumI_rng (a := a) (b := b) (M := M) (E := E) (hX_KS hab hM hE) (gp a b M E (i : Int)) (gp a b M E (j : Int))
            by_cases cz : z = 1000
            · rw [if_neg (c := ¬ z = 1000) (fun h => h cz), if_pos (c := ¬ (j : Int) = 1000) cy, areT_ok hc N hm.2 hpx hpy, Option.bind_some]
              have hn : f_Sums_negative (iZ z) (f_Adder_join_11 (iZ (i : Int)) (iZ (j : Int)) σ) = iZ 1000 := by
                unfold f_Sums_negative
                rw [cz, if_pos (by decide)]
              have hq0 : (iZ (sumI a b M E (hX a b M E) (gp a b M E (i : Int)) (gp a b M E (j : Int))) = iZ 1000) = (sumI a b M E (hX a b M E) (gp a b M E (i : Int)) (gp a b M E (j : Int)) = 1000) := iZ_eq ⟨by omega, by omega⟩ (bd_lit _ rfl)
              rw [hn]
              simp only [hq0]
              unfold tb
              rw [if_neg (c := (i : Int) = 1000 ∨ (j : Int) = 1000) (fun h => h.elim cx cy)]
              by_cases hz : zP (gp a b M E (i : Int)) (gp a b M E (j : Int))
              · have : sumI a b M E (hX a b M E) (gp a b M E (i : Int)) (gp a b M E (j : Int)) = 1000 := if_pos hz
                rw [if_neg (c := ¬ sumI a b M E (hX a b M E) (gp a b M E (i : Int)) (gp a b M E (j : Int)) = 1000) (fun h => h this), if_pos (decide_eq_true hz)]
                exact ⟨_, _, τ, rfl, rfl, g2, fr_refl _ _⟩
              · have : ¬ sumI a b M E (hX a b M E) (gp a b M E (i : Int)) (gp a b M E (j : Int)) = 1000 := by
                  unfold sumI
                  rw [if_neg hz]
                  cases sumT a b M E (gp a b M E (i : Int)) (gp a b M E (j : Int)) with
                  | none => simp only; omega
                  | some t =>
                    simp only
                    have := fnd_rng (hX a b M E) t (hX_KS hab hM hE)
                    omega
                have hzd : ¬ decide (zP (gp a b M E (i : Int)) (gp a b M E (j : Int))) = true := by rw [decide_eq_true_eq]; exact hz
                rw [if_pos this, if_neg hzd]
                exact ⟨_, _, τ, rfl, rfl, g2, fr_refl _ _⟩
            · rw [if_pos (c := ¬ z = 1000) cz]
              obtain ⟨z0, z1⟩ := pnt_idx hpz cz
              obtain ⟨l, rfl⟩ : ∃ l : Nat, z = l := ⟨z.toNat, by omega⟩
              have hs := gp_get z0 z1
              rw [Int.toNat_natCast] at hs
              obtain ⟨τ1, t1, t2, t3⟩ := joins_ok hc hN hm.2 hp hq (Or.inl rfl)
              rw [sgn_1] at t2
              have hm1 := MC_fr t3 ok23 hm.2
              obtain ⟨l1, l2, l3, l4⟩ := see_m hm1 hs
              obtain ⟨k', h3, h4⟩ := neg_held hc hx1 (hL_get hs).1
              have hk' := get_lt h3
              rw [show f_M_joins N (iZ (i : Int)) (iZ (j : Int)) (1 : Int32) τ = some τ1 from t1, Option.bind_some, h4, t2.1, if_pos l4, l1, l2, l3]
              have hq0 : (iZ (sumI a b M E (hX a b M E) (gp a b M E (i : Int)) (gp a b M E (j : Int))) = iZ (k' : Int)) = (sumI a b M E (hX a b M E) (gp a b M E (i : Int)) (gp a b M E (j : Int)) = (k' : Int)) := iZ_eq ⟨by omega, by omega⟩ ⟨by omega, by omega⟩
              simp only [hq0]
              have ss := hL_pt hs
              have sm := isPt_m hM ss; have sn := isPt_n hab hM hE ss; have se := isPt_e hE ss
              have se1 := ss.2.1
              obtain ⟨P, hPe⟩ : ∃ P, P = gp a b M E (i : Int) := ⟨_, rfl⟩
              obtain ⟨Q, hQe⟩ : ∃ Q, Q = gp a b M E (j : Int) := ⟨_, rfl⟩
              obtain ⟨R, hRe⟩ : ∃ R, R = gp a b M E (l : Int) := ⟨_, rfl⟩
              rw [← hPe, ← hQe] at t2 ⊢
              rw [← hPe] at hpp; rw [← hQe] at hqq
              rw [← hRe] at sm sn se se1 h3 ⊢
              have sn1 := sn.1; have sn2 := sn.2
              by_cases hz : zP P Q
              · have hI : sumI a b M E (hX a b M E) P Q = 1000 := if_pos hz
                rw [hI, if_pos (decide_eq_true hz), if_pos (show ¬ (1000 : Int) = (k' : Int) by omega)]
                exact ⟨_, _, τ1, rfl, rfl, g2, t3⟩
              · obtain ⟨y3, y4⟩ := t2.2.2.1 hz
                have hzd : ¬ decide (zP P Q) = true := by rw [decide_eq_true_eq]; exact hz
                rw [if_neg hzd, y3, y4, t2.2.2.2, jZ_neg, i2j (bd_mono sm (by decide)), i2j (bd_mono se (by decide)), jZ_mul]
                have hUb : bd 10000000000000000 (sU a b P Q) := lw_bd (sU0_bd hab hM hE hpp hqq)
                have hVb : bd 7000000000000 (sV a b P Q) := lwV_bd (sV0_bd hab hM hE hpp hqq)
                have r1 : (jZ (sU a b P Q) = jZ R.1) = (sU a b P Q = R.1) := jZ_eq (bd_mono hUb (by decide)) (bd_mono sm (by decide))
                have r2 : (jZ (sV a b P Q) = jZ (R.2.2 * R.2.2)) = (sV a b P Q = R.2.2 * R.2.2) := jZ_eq (bd_mono hVb (by decide)) (bd_mono (bd_mul se se) (by decide))
                simp only [r1, r2]
                -- when it is straight
                have key : (sumI a b M E (hX a b M E) P Q = (k' : Int)) ↔ (sU a b P Q = R.1 ∧ sV a b P Q = R.2.2 * R.2.2 ∧ jZ (sumN a b M E P Q) = jZ (-R.2.1)) := by
                  have hI : sumI a b M E (hX a b M E) P Q = match sumT a b M E P Q with
                    | none => -6
                    | some t => fnd (hX a b M E) t := if_neg hz
                  have hSN : sumN a b M E P Q = match sumT a b M E P Q with
                    | none => NO
                    | some t => t.2.1 := if_neg hz
                  rw [hI, hSN]
                  cases hT : sumT a b M E P Q with
                  | none =>
                    simp only
                    refine ⟨fun h => by omega, fun h => ?_⟩
                    have h5 := congrArg Int64.toInt h.2.2
                    rw [← NO_j, jZ_int ⟨by omega, by omega⟩] at h5
                    have : ((-9223372036854775808 : Int64)).toInt = -9223372036854775808 := by decide
                    omega
                  | some t =>
                    simp only
                    have hst := hT
                    unfold sumT at hst
                    by_cases cin : (sE a b P Q * sE a b P Q : Int) = sV a b P Q ∧ sE a b P Q ≤ E ∧ (-(M : Int) ≤ sU a b P Q ∧ sU a b P Q ≤ (M : Int))
                    · rw [if_pos cin] at hst
                      have et := (Option.some.inj hst).symm
                      have hnn := sNn_bd hab hM hE hpp hqq (u := sU a b P Q) (d := (sE a b P Q : Int)) ⟨by omega, by omega⟩ ⟨by omega, by omega⟩
                      have hnb : bd 4611686018427387903 (sN a b P Q) := bd_tdiv _ hnn
                      have n1 := hnb.1; have n2 := hnb.2
                      rw [et]
                      simp only
                      rw [jZ_eq (bd_mono hnb (by decide)) ⟨by omega, by omega⟩]
                      constructor
                      · intro h
                        rcases fnd_cases (hX_KS hab hM hE) (sU a b P Q, sN a b P Q, (sE a b P Q : Int)) with ⟨w, w1, w2⟩ | ⟨w1, w2⟩
                        · rw [w2] at h
                          have : w = k' := by omega
                          rw [this, h3] at w1
                          have w3 := Option.some.inj w1
                          unfold tn at w3
                          injection w3 with w4 w5
                          injection w5 with w5 w6
                          exact ⟨w4.symm, by rw [← cin.1, ← w6], w5.symm⟩
                        · rw [w2] at h; omega
                      · rintro ⟨q1, q2, q3⟩
                        have q4 : (sE a b P Q : Int) = R.2.2 := by
                          rw [← cin.1] at q2
                          have : ((sE a b P Q) * (sE a b P Q) : Int) = R.2.2 * R.2.2 := q2
                          have h7 : (sE a b P Q) * (sE a b P Q) = R.2.2.natAbs * R.2.2.natAbs := by
                            have := congrArg Int.natAbs this
                            rw [Int.natAbs_mul, Int.natAbs_mul, Int.natAbs_natCast] at this
                            exact this
                          have h8 : sE a b P Q = R.2.2.natAbs := Nat.le_antisymm (sq_le (by omega)) (sq_le (by omega))
                          omega
                        have q5 : (sU a b P Q, sN a b P Q, (sE a b P Q : Int)) = tn R := by
                          unfold tn
                          rw [q1, q3, q4]
                        rw [q5, fnd_in (hX_KS hab hM hE) h3]
                    · rw [if_neg cin] at hst; cases hst
                by_cases ck : sumI a b M E (hX a b M E) P Q = (k' : Int)
                · obtain ⟨d1, d2, d3⟩ := key.mp ck
                  rw [if_neg (c := ¬ sumI a b M E (hX a b M E) P Q = (k' : Int)) (fun h => h ck), if_neg (c := ¬ sU a b P Q = R.1) (fun h => h d1), if_neg (c := ¬ sV a b P Q = R.2.2 * R.2.2) (fun h => h d2), if_neg (c := ¬ jZ (sumN a b M E P Q) = jZ (-R.2.1)) (fun h => h d3)]
                  exact ⟨_, _, τ1, rfl, rfl, g2, t3⟩
                · rw [if_pos (c := ¬ sumI a b M E (hX a b M E) P Q = (k' : Int)) ck]
                  refine ⟨_, _, τ1, rfl, ?_, g2, t3⟩
                  by_cases d1 : sU a b P Q = R.1
                  · rw [if_neg (fun h => h d1)]
                    by_cases d2 : sV a b P Q = R.2.2 * R.2.2
                    · rw [if_neg (fun h => h d2)]
                      by_cases d3 : jZ (sumN a b M E P Q) = jZ (-R.2.1)
                      · exact absurd (key.mpr ⟨d1, d2, d3⟩) ck
                      · rw [if_pos d3]
                    · rw [if_pos d2]
                  · rw [if_pos d1]
      · rw [if_neg c3, if_neg c3]; exact no _
    · rw [if_neg c2, if_neg c2]; exact no _
  · rw [if_neg c, if_neg c]; exact no _
end OPS
