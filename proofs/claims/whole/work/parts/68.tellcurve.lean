/-! tellCurve, count -/
/-- the tail of one part: 'x', or 'xx' -/
theorem tail_ok {N k : Nat} (hN : 100 ≤ N) (hk : k = 1 ∨ k = 2) {len : Nat} {σ τ : aSt} (h : ToD len σ τ) (hl : len + 2 ≤ 64) : ∃ σ' τ', (k = 1 → f_Told_putText_207 N σ = some σ') ∧ (k = 2 → f_Told_putText_206 N σ = some σ') ∧ f_M_tellsPart_b18 N (iZ k) τ = some τ' ∧ ToS (len + k) σ τ σ' τ' := by
  obtain ⟨τ1, b1, b2⟩ := put_ok (N := N) (z := 120) h (by omega) (by omega)
  have b1' : f_M_puts N (120 : Int32) τ = some τ1 := b1
  obtain ⟨τ2, d1, d2⟩ := put_ok (N := N) (z := 120) b2.1 (by omega) (by omega)
  have d1' : f_M_puts N (120 : Int32) τ1 = some τ2 := d1
  rw [text206 hN, text207 hN]
  unfold f_M_tellsPart_b18
  rcases hk with rfl | rfl
  · refine ⟨_, τ1, fun _ => rfl, fun h => by omega, ?_, b2⟩
    obtain ⟨n, rfl⟩ : ∃ n, N = n + 1 + 1 := ⟨N - 2, by omega⟩
    rw [f_M_tellsPart_l20, if_neg (by decide), b1', Option.bind_some, f_M_tellsPart_l20, if_pos (by decide)]
  · refine ⟨_, τ2, fun h => by omega, fun _ => rfl, ?_, ToS_trans b2 d2⟩
    obtain ⟨n, rfl⟩ : ∃ n, N = n + 1 + 1 + 1 := ⟨N - 3, by omega⟩
    rw [f_M_tellsPart_l20, if_neg (by decide), b1', Option.bind_some, f_M_tellsPart_l20, if_neg (by decide), d1', Option.bind_some, f_M_tellsPart_l20, if_pos (by decide)]
theorem part_b_ok {N k : Nat} (hN : 100 ≤ N) (hk : k = 1 ∨ k = 2) {z s : Int} (hz : bd 200 z) (hs : 0 ≤ s ∧ s < 128) {len : Nat} {σ τ : aSt} (h : ToD len σ τ) (hl : len + 14 ≤ 64) : ∃ σ' τ' l, (k = 1 → f_X_tellPart_207_b7 N (iZ z) (iZ s) σ = some σ') ∧ (k = 2 → f_X_tellPart_206_b7 N (iZ z) (iZ s) σ = some σ') ∧ f_M_tellsPart_b8 N (jZ z) (iZ k) (iZ s) τ = some τ' ∧ l ≤ len + 14 ∧ ToS l σ τ σ' τ' := by
  have hz1 := hz.1
  have hz2 := hz.2
  obtain ⟨τ1, b1, b2⟩ := put_ok (N := N) (z := s) h (by omega) hs
  unfold f_X_tellPart_207_b7 f_X_tellPart_206_b7 f_M_tellsPart_b8
  have c1 : (iZ z = (1 : Int32)) = (z = 1) := by rw [show (1 : Int32) = iZ 1 from rfl, iZ_eq (bd_mono hz (by decide)) (bd_lit _ rfl)]
  have c2 : (iZ z = (-1 : Int32)) = (z = -1) := by rw [show (-1 : Int32) = iZ (-1) from rfl, iZ_eq (bd_mono hz (by decide)) (bd_lit _ rfl)]
  have c3 : (jZ (z.natAbs : Int) = (1 : Int64)) = (z.natAbs = 1) := by
    rw [show (1 : Int64) = jZ 1 from rfl, jZ_eq ⟨by omega, by omega⟩ (bd_lit _ rfl)]; apply propext; omega
  rw [b1, Option.bind_some, labs_Z (bd_mono hz (by decide)), iabs_Z (bd_mono hz (by decide))]
  simp only [lt_eq, c1, c2, c3]
  by_cases c : z.natAbs = 1
  · rw [if_pos c]
    obtain ⟨σ2, τ2, d1, d2, d3, d4⟩ := tail_ok hN hk b2.1 (by omega)
    refine ⟨σ2, τ2, len + 1 + k, fun e => ?_, fun e => ?_, d3, by omega, ToS_trans b2 d4⟩
    · rw [d1 e, Option.bind_some]
      split
      · rfl
      · rw [if_pos (by omega)]
    · rw [d2 e, Option.bind_some]
      split
      · rfl
      · rw [if_pos (by omega)]
  · rw [if_neg c, if_neg (show ¬ z = 1 by omega), if_neg (show ¬ z = -1 by omega), if_neg (show ¬ z = 1 by omega), if_neg (show ¬ z = -1 by omega)]
    obtain ⟨σ2, τ2, l2, e1, e2, e3, e4⟩ := number_ok (z := (z.natAbs : Int)) hN ⟨by omega, by omega⟩ b2.1 (by omega)
    obtain ⟨σ3, τ3, d1, d2, d3, d4⟩ := tail_ok hN hk e4.1 (by omega)
    rw [e1, e2, Option.bind_some, Option.bind_some, Option.bind_some]
    refine ⟨σ3, τ3, l2 + k, fun e => ?_, fun e => ?_, d3, by omega, ToS_trans b2 (ToS_trans e4 d4)⟩
    · rw [d1 e, Option.bind_some]
    · rw [d2 e, Option.bind_some]
theorem part_ok {N k : Nat} (hN : 100 ≤ N) (hk : k = 1 ∨ k = 2) {z : Int} (hz : bd 200 z) {len : Nat} {σ τ : aSt} (h : ToD len σ τ) (hl : len + 14 ≤ 64) : ∃ σ' τ' l, (k = 1 → f_X_tellPart_207 N (iZ z) σ = some σ') ∧ (k = 2 → f_X_tellPart_206 N (iZ z) σ = some σ') ∧ f_M_tellsPart N (jZ z) (iZ k) τ = some τ' ∧ l ≤ len + 14 ∧ ToS l σ τ σ' τ' := by
  unfold f_X_tellPart_207 f_X_tellPart_206 f_M_tellsPart
  have c1 : (0 ≤ iZ z) = (0 ≤ z) := by rw [show (0 : Int32) = iZ 0 from rfl, iZ_le (bd_lit _ rfl) (bd_mono hz (by decide))]
  have c2 : ((0 : Int64) ≤ jZ z) = (0 ≤ z) := by rw [show (0 : Int64) = jZ 0 from rfl, jZ_le (bd_lit _ rfl) (bd_mono hz (by decide))]
  simp only [c1, c2]
  by_cases c : 0 ≤ z
  · simp only [if_pos c]
    exact part_b_ok (s := 43) hN hk hz (by omega) h hl
  · simp only [if_neg c]
    exact part_b_ok (s := 45) hN hk hz (by omega) h hl
section TELL
variable {a b : Int} {M E : Nat}
theorem tellCurve_eq {N : Nat} (hN : 100 ≤ N) (ha : bd 60 a) (hb : bd 200 b) {σ τ : aSt} (hx : RX a b M E σ) (hm : RM a b M E τ) : ∃ r σ' τ' l, f_X_tellCurve N σ = some (r, σ') ∧ f_M_tellCurve N τ = some (r, τ') ∧ ToS l σ τ σ' τ' := by
  unfold f_X_tellCurve f_M_tellCurve
  rw [hx.1, hm.1, if_pos (c := true = true) rfl, if_pos (c := true = true) rfl, lt_eq, text205 hN, Option.bind_some]
  have s0 := told_clear σ τ
  obtain ⟨σ2, hσ2⟩ : ∃ σ2, σ2 = f_Told_clear σ := ⟨_, rfl⟩
  obtain ⟨τ2, hτ2⟩ : ∃ τ2, τ2 = s_i τ 66 57 (0 : Int32) := ⟨_, rfl⟩
  rw [← hσ2, ← hτ2] at s0
  rw [← hσ2, ← hτ2]
  obtain ⟨τ3, a1, a2⟩ := put_ok (N := N) (z := 121) s0.1 (by omega) (by omega)
  have a1' : f_M_puts N (121 : Int32) τ2 = some τ3 := a1
  obtain ⟨τ4, b1, b2⟩ := put_ok (N := N) (z := 121) a2.1 (by omega) (by omega)
  have b1' : f_M_puts N (121 : Int32) τ3 = some τ4 := b1
  obtain ⟨τ5, d1, d2⟩ := put_ok (N := N) (z := 61) b2.1 (by omega) (by omega)
  have d1' : f_M_puts N (61 : Int32) τ4 = some τ5 := d1
  obtain ⟨τ6, k1, k2⟩ := put_ok (N := N) (z := 120) d2.1 (by omega) (by omega)
  have k1' : f_M_puts N (120 : Int32) τ5 = some τ6 := k1
  obtain ⟨τ7, l1, l2⟩ := put_ok (N := N) (z := 120) k2.1 (by omega) (by omega)
  have l1' : f_M_puts N (120 : Int32) τ6 = some τ7 := l1
  obtain ⟨τ8, m1, m2⟩ := put_ok (N := N) (z := 120) l2.1 (by omega) (by omega)
  have m1' : f_M_puts N (120 : Int32) τ7 = some τ8 := m1
  have s8 := ToS_trans s0 (ToS_trans a2 (ToS_trans b2 (ToS_trans d2 (ToS_trans k2 (ToS_trans l2 m2)))))
  have loop : f_M_tellCurve_l19 N N (0 : Int32) τ5 = (if (τ8.1 66 2) = 0 then ((f_M_tellsPart N (τ8.1 66 3).toInt64 (1 : Int32) τ8).bind fun x7 => some ((x7.1 66 57), x7)) else ((f_M_tellsPart N (τ8.1 66 2).toInt64 (2 : Int32) τ8).bind fun x8 => ((f_M_tellsPart N (x8.1 66 3).toInt64 (1 : Int32) x8).bind fun x9 => some ((x9.1 66 57), x9)))) := by
    obtain ⟨n, rfl⟩ : ∃ n, N = n + 1 + 1 + 1 + 1 := ⟨N - 4, by omega⟩
    rw [f_M_tellCurve_l19, if_neg (by decide), k1', Option.bind_some, f_M_tellCurve_l19, if_neg (by decide), l1', Option.bind_some, f_M_tellCurve_l19, if_neg (by decide), m1', Option.bind_some, f_M_tellCurve_l19, if_pos (by decide)]
  rw [a1', Option.bind_some, b1', Option.bind_some, d1', Option.bind_some, loop]
  obtain ⟨σ8, hσ8⟩ : ∃ σ8, σ8 = f_Told_putByte (iZ 120) (f_Told_putByte (iZ 120) (f_Told_putByte (iZ 120) (f_Told_putByte (iZ 61) (f_Told_putByte (iZ 121) (f_Told_putByte (iZ 121) σ2))))) := ⟨_, rfl⟩
  rw [← hσ8] at s8
  rw [← hσ8]
  have x8 := XC_D s8.2.1 hx.2
  have y8 := MC_fr s8.2.2 okMD hm.2
  have ea : f_PointList_a_11 σ8 = iZ a := x8.2.1
  have eb : f_PointList_b_11 σ8 = iZ b := x8.2.2.1
  rw [ea, eb, y8.2.1, y8.2.2.1, i2j (bd_mono ha (by decide)), i2j (bd_mono hb (by decide))]
  unfold f_Told_length
  by_cases c : iZ a = 0
  · rw [if_pos c, if_pos c]
    obtain ⟨σ', τ', l, g1, _, g3, g4, g5⟩ := part_ok (k := 1) hN (Or.inl rfl) hb s8.1 (by omega)
    have g3' : f_M_tellsPart N (jZ b) (1 : Int32) τ8 = some τ' := g3
    rw [g1 rfl, g3', Option.bind_some, Option.bind_some]
    exact ⟨_, _, _, l, rfl, by rw [g5.1.1, g5.1.2.1], ToS_trans s8 g5⟩
  · rw [if_neg c, if_neg c]
    obtain ⟨σ', τ', l, _, g2, g3, g4, g5⟩ := part_ok (k := 2) hN (Or.inr rfl) (bd_mono ha (by decide)) s8.1 (by omega)
    have g3' : f_M_tellsPart N (jZ a) (2 : Int32) τ8 = some τ' := g3
    have s9 := ToS_trans s8 g5
    have x9 := XC_D s9.2.1 hx.2
    have y9 := MC_fr s9.2.2 okMD hm.2
    have eb9 : f_PointList_b_11 σ' = iZ b := x9.2.2.1
    obtain ⟨σ'', τ'', l', u1, _, u3, u4, u5⟩ := part_ok (k := 1) hN (Or.inl rfl) hb s9.1 (by omega)
    have u3' : f_M_tellsPart N (jZ b) (1 : Int32) τ' = some τ'' := u3
    rw [g2 rfl, g3', Option.bind_some, Option.bind_some, eb9, y9.2.2.1, i2j (bd_mono hb (by decide)), u1 rfl, u3', Option.bind_some, Option.bind_some]
    exact ⟨_, _, _, l', rfl, by rw [u5.1.1, u5.1.2.1], ToS_trans s9 u5⟩
/-- count: the curve's numbers, or none -/
theorem count_eq {σ τ : aSt} (hx : RX a b M E σ) (hm : RM a b M E τ) {T : Nat → Int} {n len : Nat} (hT : XT T n σ) (hU : MT' T n τ) (h : ToD len σ τ) (p : Int32) : f_X_count p σ = f_M_count p τ := by
  unfold f_X_count f_M_count f_PointList_a_11 f_PointList_b_11 f_PointList_most_11 f_PointList_deepest_11 f_Told_length f_Reader_length
  rw [hx.1, hm.1, hx.2.2.1, hx.2.2.2.1, hx.2.2.2.2.1, hx.2.2.2.2.2, hm.2.2.1, hm.2.2.2.1, hm.2.2.2.2.1, hm.2.2.2.2.2, shownZ hx.2, len_m hm.2, hT.1, hU.1, h.1, h.2.1]
  simp only [if_true]
  by_cases c4 : p = 4
  · subst c4
    rw [if_neg (fun h => h rfl), if_neg (by decide), if_neg (by decide), if_neg (by decide), if_neg (by decide), if_pos rfl]
  by_cases c5 : p = 5
  · subst c5
    rw [if_pos (by decide), if_neg (fun h => h rfl), if_neg (by decide), if_neg (by decide), if_neg (by decide), if_neg (by decide), if_neg (by decide), if_pos rfl]
  by_cases c6 : p = 6
  · subst c6
    rw [if_pos (by decide), if_pos (by decide), if_neg (fun h => h rfl), if_neg (by decide), if_neg (by decide), if_neg (by decide), if_neg (by decide), if_neg (by decide), if_neg (by decide), if_pos rfl]
  rw [if_pos c4, if_pos c5, if_pos c6, if_neg c4, if_neg c5, if_neg c6]
end TELL
