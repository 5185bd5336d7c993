/-! tell, tellCurve, count -/
theorem text204 {N : Nat} (hN : 100 ≤ N) (σ : aSt) : f_Told_putText_204 N σ = some (f_Told_putByte (iZ 32) (f_Told_putByte (iZ 44) σ)) := by
  obtain ⟨n, rfl⟩ : ∃ n, N = n + 1 + 1 + 1 := ⟨N - 3, by omega⟩
  unfold f_Told_putText_204
  rw [f_Told_putText_204_l2, if_neg (by decide), if_pos (by decide), lt_eq, show sch 204 (0 : Int32) = iZ 44 from rfl, show (0 : Int32) + (1 : Int32) = 1 from rfl]
  rw [f_Told_putText_204_l2, if_neg (by decide), if_pos (by decide), lt_eq, show sch 204 (1 : Int32) = iZ 32 from rfl, show (1 : Int32) + (1 : Int32) = 2 from rfl]
  rw [f_Told_putText_204_l2, if_pos (by decide)]
theorem text206 {N : Nat} (hN : 100 ≤ N) (σ : aSt) : f_Told_putText_206 N σ = some (f_Told_putByte (iZ 120) (f_Told_putByte (iZ 120) σ)) := by
  obtain ⟨n, rfl⟩ : ∃ n, N = n + 1 + 1 + 1 := ⟨N - 3, by omega⟩
  unfold f_Told_putText_206
  rw [f_Told_putText_206_l2, if_neg (by decide), if_pos (by decide), lt_eq, show sch 206 (0 : Int32) = iZ 120 from rfl, show (0 : Int32) + (1 : Int32) = 1 from rfl]
  rw [f_Told_putText_206_l2, if_neg (by decide), if_pos (by decide), lt_eq, show sch 206 (1 : Int32) = iZ 120 from rfl, show (1 : Int32) + (1 : Int32) = 2 from rfl]
  rw [f_Told_putText_206_l2, if_pos (by decide)]
theorem text207 {N : Nat} (hN : 100 ≤ N) (σ : aSt) : f_Told_putText_207 N σ = some (f_Told_putByte (iZ 120) σ) := by
  obtain ⟨n, rfl⟩ : ∃ n, N = n + 1 + 1 := ⟨N - 2, by omega⟩
  unfold f_Told_putText_207
  rw [f_Told_putText_207_l2, if_neg (by decide), if_pos (by decide), lt_eq, show sch 207 (0 : Int32) = iZ 120 from rfl, show (0 : Int32) + (1 : Int32) = 1 from rfl]
  rw [f_Told_putText_207_l2, if_pos (by decide)]
theorem text205 {N : Nat} (hN : 100 ≤ N) (σ : aSt) : f_Told_putText_205 N σ = some (f_Told_putByte (iZ 120) (f_Told_putByte (iZ 120) (f_Told_putByte (iZ 120) (f_Told_putByte (iZ 61) (f_Told_putByte (iZ 121) (f_Told_putByte (iZ 121) σ)))))) := by
  obtain ⟨n, rfl⟩ : ∃ n, N = n + 1 + 1 + 1 + 1 + 1 + 1 + 1 := ⟨N - 7, by omega⟩
  unfold f_Told_putText_205
  rw [f_Told_putText_205_l2, if_neg (by decide), if_pos (by decide), lt_eq, show sch 205 (0 : Int32) = iZ 121 from rfl, show (0 : Int32) + (1 : Int32) = 1 from rfl]
  rw [f_Told_putText_205_l2, if_neg (by decide), if_pos (by decide), lt_eq, show sch 205 (1 : Int32) = iZ 121 from rfl, show (1 : Int32) + (1 : Int32) = 2 from rfl]
  rw [f_Told_putText_205_l2, if_neg (by decide), if_pos (by decide), lt_eq, show sch 205 (2 : Int32) = iZ 61 from rfl, show (2 : Int32) + (1 : Int32) = 3 from rfl]
  rw [f_Told_putText_205_l2, if_neg (by decide), if_pos (by decide), lt_eq, show sch 205 (3 : Int32) = iZ 120 from rfl, show (3 : Int32) + (1 : Int32) = 4 from rfl]
  rw [f_Told_putText_205_l2, if_neg (by decide), if_pos (by decide), lt_eq, show sch 205 (4 : Int32) = iZ 120 from rfl, show (4 : Int32) + (1 : Int32) = 5 from rfl]
  rw [f_Told_putText_205_l2, if_neg (by decide), if_pos (by decide), lt_eq, show sch 205 (5 : Int32) = iZ 120 from rfl, show (5 : Int32) + (1 : Int32) = 6 from rfl]
  rw [f_Told_putText_205_l2, if_pos (by decide)]
theorem frac_ok {N : Nat} (hN : 100 ≤ N) {z w : Int} (hz : bd 2147483647 z) (hw : bd 2147483647 w) {len : Nat} {σ τ : aSt} (h : ToD len σ τ) (hl : len + 23 ≤ 64) : ∃ σ' τ' l, f_X_tellFraction N (iZ z) (iZ w) σ = some σ' ∧ f_M_tellsBy N (jZ z) (jZ w) τ = some τ' ∧ l ≤ len + 23 ∧ ToS l σ τ σ' τ' := by
  obtain ⟨σ1, τ1, l1, a1, a2, a3, a4⟩ := number_ok hN hz h (by omega)
  unfold f_X_tellFraction f_M_tellsBy
  rw [a1, a2, Option.bind_some, Option.bind_some]
  have c1 : (iZ w ≠ (1 : Int32)) = (w ≠ 1) := by rw [ne_eq, show (1 : Int32) = iZ 1 from rfl, iZ_eq hw (bd_lit _ rfl)]
  have c2 : (jZ w ≠ (1 : Int64)) = (w ≠ 1) := by rw [ne_eq, show (1 : Int64) = jZ 1 from rfl, jZ_eq (bd_mono hw (by decide)) (bd_lit _ rfl)]
  simp only [c1, c2]
  by_cases c : w ≠ 1
  · rw [if_pos c, if_pos c, lt_eq]
    obtain ⟨τ2, b1, b2⟩ := put_ok (N := N) (z := 47) a4.1 (by omega) (by omega)
    have b1' : f_M_puts N (47 : Int32) τ1 = some τ2 := b1
    obtain ⟨σ3, τ3, l3, d1, d2, d3, d4⟩ := number_ok hN hw b2.1 (by omega)
    rw [b1', Option.bind_some, show (47 : Int32) = iZ 47 from rfl, d1, d2, Option.bind_some, Option.bind_some]
    exact ⟨_, _, l3, rfl, rfl, by omega, ToS_trans a4 (ToS_trans b2 d4)⟩
  · rw [if_neg c, if_neg c]
    exact ⟨_, _, l1, rfl, rfl, by omega, a4⟩
theorem okMD : okM frMD := ⟨rfl, rfl, rfl, rfl, rfl, fun _ => ⟨rfl, rfl, rfl⟩⟩
section TELL
variable {a b : Int} {M E : Nat}
theorem XC_D {σ σ' : aSt} (hf : fr frXD σ σ') (h : XC a b M E σ) : XC a b M E σ' := XC_fr hf (fun _ => ⟨rfl, rfl, rfl, rfl, rfl⟩) h
theorem tell_eq {N : Nat} (hN : 100 ≤ N) (hc : CV a b M E) {σ τ : aSt} (hx : RX a b M E σ) (hm : RM a b M E τ) {len : Nat} (h : ToD len σ τ) (p : Int32) : ∃ r σ' τ' l, f_X_tell N p σ = some (r, σ') ∧ f_M_tell N p τ = some (r, τ') ∧ ToS l σ τ σ' τ' := by
  obtain ⟨hab, hb0, hM1, hM, hE1, hE⟩ := hc
  have hl := hL_le (a := a) (b := b) (M := M) (E := E)
  unfold f_X_tell f_M_tell
  rw [xPoint hx, mPoint hm, ite_dec, ite_dec]
  by_cases c : p.toInt = 1000 ∨ (0 ≤ p.toInt ∧ p.toInt < ((hL a b M E).length : Int))
  · rw [if_pos c, if_pos c, lt_eq]
    have q1 : (p ≠ (1000 : Int32)) = (p.toInt ≠ 1000) := by rw [ne_eq, show (1000 : Int32) = iZ 1000 from rfl, pl_eq (bd_lit _ rfl)]
    simp only [q1]
    have s0 := told_clear σ τ
    obtain ⟨σ2, hσ2⟩ : ∃ σ2, σ2 = f_Told_clear σ := ⟨_, rfl⟩
    obtain ⟨τ2, hτ2⟩ : ∃ τ2, τ2 = s_i τ 66 57 (0 : Int32) := ⟨_, rfl⟩
    rw [← hσ2, ← hτ2] at s0
    rw [← hσ2, ← hτ2]
    by_cases c1 : p.toInt = 1000
    · rw [if_neg (fun h => h c1), if_neg (fun h => h c1)]
      obtain ⟨σ3, τ3, l3, d1, d2, d3, d4⟩ := number_ok (N := N) (z := 0) hN (bd_lit _ rfl) s0.1 (by omega)
      have e1 : f_Told_putNumber N (0 : Int32) σ2 = some (f_Told_putByte (iZ 48) σ2) := by
        unfold f_Told_putNumber f_Told_putNumber_b5
        obtain ⟨n, rfl⟩ : ∃ n, N = n + 1 + 1 := ⟨N - 2, by omega⟩
        rw [if_pos (by decide), f_Told_putNumber_l13, if_neg (by decide), if_pos (by decide)]
        unfold f_Told_putNumber_b28
        rw [f_Told_putNumber_l30, if_neg (by decide), if_neg (by decide), lt_eq, f_Told_putNumber_l30, if_neg (by decide), if_pos (by decide)]
        rfl
      obtain ⟨τ4, b1, b2⟩ := put_ok (N := N) (z := 48) s0.1 (by omega) (by omega)
      have b1' : f_M_puts N (48 : Int32) τ2 = some τ4 := b1
      rw [e1, b1', Option.bind_some, Option.bind_some]
      unfold f_Told_length
      exact ⟨_, _, _, 1, rfl, by rw [b2.1.1, b2.1.2.1], ToS_trans s0 b2⟩
    · rw [if_pos c1, if_pos c1, lt_eq]
      obtain ⟨i, hi⟩ : ∃ i : Nat, p.toInt = i := ⟨p.toInt.toNat, by omega⟩
      have ep := lit32 hi
      subst ep
      obtain ⟨τ4, b1, b2⟩ := put_ok (N := N) (z := 40) s0.1 (by omega) (by omega)
      have b1' : f_M_puts N (40 : Int32) τ2 = some τ4 := b1
      have s1 := ToS_trans s0 b2
      obtain ⟨q, g0, g1, _, _, g4⟩ := see_x (XC_D s0.2.1 hx.2) (i := i) (by omega)
      obtain ⟨q', g0', _, g2, _, _⟩ := see_x (XC_D s1.2.1 hx.2) (i := i) (by omega)
      have eq' : q' = q := by rw [g0] at g0'; exact (Option.some.inj g0').symm
      subst eq'
      obtain ⟨_, _, k3, k4⟩ := see_m hm.2 g0
      obtain ⟨k1, _, _, _⟩ := see_m (MC_fr s1.2.2 okMD hm.2) g0
      have bm := isPt_m hM g1
      have be := isPt_e hE g1
      have bn := isPt_n hab hM hE g1
      have be2 : bd 36 (q'.2.2 * q'.2.2) := bd_mono (bd_mul be be) (by decide)
      have be3 : bd 216 (q'.2.2 * q'.2.2 * q'.2.2) := bd_mono (bd_mul be2 be) (by decide)
      obtain ⟨σ5, τ5, l5, d1, d2, d3, d4⟩ := frac_ok hN (bd_mono bm (by decide)) (bd_mono be2 (by decide)) s1.1 (by omega)
      obtain ⟨τ6, t1, t2⟩ := put_ok (N := N) (z := 44) d4.1 (by omega) (by omega)
      have t1' : f_M_puts N (44 : Int32) τ5 = some τ6 := t1
      obtain ⟨τ7, u1, u2⟩ := put_ok (N := N) (z := 32) t2.1 (by omega) (by omega)
      have u1' : f_M_puts N (32 : Int32) τ6 = some τ7 := u1
      have s7 := ToS_trans (ToS_trans (ToS_trans s1 d4) t2) u2
      obtain ⟨q'', g0'', _, _, g3, _⟩ := see_x (XC_D s7.2.1 hx.2) (i := i) (by omega)
      have eq'' : q'' = q' := by rw [g0] at g0''; exact (Option.some.inj g0'').symm
      subst eq''
      obtain ⟨_, k2, _, _⟩ := see_m (MC_fr s7.2.2 okMD hm.2) g0
      obtain ⟨σ8, τ8, l8, w1, w2, w3, w4⟩ := frac_ok hN (bd_mono bn (by decide)) (bd_mono be3 (by decide)) s7.1 (by omega)
      obtain ⟨τ9, y1, y2⟩ := put_ok (N := N) (z := 41) w4.1 (by omega) (by omega)
      have y1' : f_M_puts N (41 : Int32) τ8 = some τ9 := y1
      rw [if_pos k4, b1', Option.bind_some, show (40 : Int32) = iZ 40 from rfl, g2, g4, iZ_mul, iZ_mul, d1, Option.bind_some, text204 hN, Option.bind_some, g3, w1, Option.bind_some, lt_eq]
      rw [k1, k3, i2j (bd_mono bm (by decide)), i2j (bd_mono be (by decide)), jZ_mul, jZ_mul, d2, Option.bind_some, t1', Option.bind_some, u1', Option.bind_some, k2, w2, Option.bind_some, y1', Option.bind_some]
      unfold f_Told_length
      refine ⟨_, _, _, l8 + 1, rfl, ?_, ToS_trans s7 (ToS_trans w4 y2)⟩
      rw [y2.1.2.1, show (41 : Int32) = iZ 41 from rfl, y2.1.1]
  · rw [if_neg c, if_neg c]
    exact ⟨_, _, _, len, rfl, rfl, h, fr_refl _ _, fr_refl _ _⟩
end TELL
