/-! part, between, nearest, sorts -/
section OPS
variable {a b : Int} {M E : Nat}
theorem xa {σ : aSt} (h : XC a b M E σ) : f_PointList_a_11 σ = iZ a := h.2.1
theorem xb {σ : aSt} (h : XC a b M E σ) : f_PointList_b_11 σ = iZ b := h.2.2.1
theorem besideB_Z {σ : aSt} (h : XC a b M E σ) : f_X_besideB σ = iZ (a * a - 4 * b) := by
  unfold f_X_besideB
  rw [xa h, xb h, iZ_lit, iZ_mul, iZ_mul, iZ_sub]
theorem part_eq {N : Nat} (hc : CV a b M E) {σ τ : aSt} (hx : RX a b M E σ) (hm : RM a b M E τ) (p : Int32) : f_M_part N p τ = some (f_X_part p σ) := by
  obtain ⟨hab, -, -, hM, -, hE⟩ := hc
  have haa := bd_mul hab.1 hab.1
  have a1 := hab.1.1; have a2 := hab.1.2; have b1 := hab.2.1; have b2 := hab.2.2; have aa1 := haa.1; have aa2 := haa.2
  unfold f_M_part f_X_part
  rw [xPoint hx, mPoint hm, ite_dec, ite_dec]
  by_cases c : p.toInt = 1000 ∨ (0 ≤ p.toInt ∧ p.toInt < ((hL a b M E).length : Int))
  · rw [if_pos c, if_pos c]
    by_cases c2 : p = (1000 : Int32)
    · rw [if_pos c2, if_pos c2]
    · rw [if_neg c2, if_neg c2]
      have c3 : 0 ≤ p.toInt ∧ p.toInt < ((hL a b M E).length : Int) := by
        rcases c with c | c
        · exact absurd (lit32 c) c2
        · exact c
      obtain ⟨i, hi⟩ : ∃ i : Nat, p.toInt = i := ⟨p.toInt.toNat, by omega⟩
      have ep := lit32 hi
      subst ep
      obtain ⟨q, hq, g1, g2, g3, g4⟩ := see_x hx.2 (i := i) (by omega)
      obtain ⟨k1, k2, k3, k4⟩ := see_m hm.2 hq
      have pm := isPt_m hM g1
      have pe := isPt_e hE g1
      have m1 := pm.1; have m2 := pm.2
      have hae := bd_mul (bd_mul hab.1 pe) pe
      have hae1 := hae.1; have hae2 := hae.2
      have e2 : -a * q.2.2 * q.2.2 = -(a * q.2.2 * q.2.2) := by rw [Int.neg_mul, Int.neg_mul]
      rw [besideB_Z hx.2, xa hx.2, xb hx.2, g2, g4, hm.2.2.1, hm.2.2.2.1, k1, k3, if_pos k4, if_pos k4, i2j (bd_mono pm (by decide)), i2j (bd_mono pe (by decide)), i2j (bd_mono hab.1 (by decide))]
      simp only [iZ_lit, jZ_lit, iZ_neg, iZ_mul, jZ_mul, jZ_add, e2]
      have r1 : (iZ (4 * b) ≤ iZ (a * a)) = (4 * b ≤ a * a) := iZ_le ⟨by omega, by omega⟩ ⟨by omega, by omega⟩
      have r2 : (iZ 0 ≤ iZ (a * a - 4 * b)) = (4 * b ≤ a * a) := by rw [iZ_le (bd_lit _ rfl) ⟨by omega, by omega⟩]; exact propext (by omega)
      have r3 : (iZ 0 ≤ iZ b) = (0 ≤ b) := iZ_le (bd_lit _ rfl) ⟨by omega, by omega⟩
      have r4 : (iZ a ≤ iZ 0) = (a ≤ 0) := iZ_le ⟨by omega, by omega⟩ (bd_lit _ rfl)
      have r5 : (iZ (-(a * q.2.2 * q.2.2)) ≤ iZ (2 * q.1)) = (0 ≤ 2 * q.1 + a * q.2.2 * q.2.2) := by rw [iZ_le ⟨by omega, by omega⟩ ⟨by omega, by omega⟩]; exact propext (by omega)
      have r6 : (jZ 0 ≤ jZ (2 * q.1 + a * q.2.2 * q.2.2)) = (0 ≤ 2 * q.1 + a * q.2.2 * q.2.2) := jZ_le (bd_lit _ rfl) ⟨by omega, by omega⟩
      have r7 : (iZ 0 ≤ iZ q.1) = (0 ≤ q.1) := iZ_le (bd_lit _ rfl) ⟨by omega, by omega⟩
      have r8 : (iZ 0 < iZ q.1) = (0 < q.1) := iZ_lt (bd_lit _ rfl) ⟨by omega, by omega⟩
      simp only [r1, r2, r3, r4, r5, r6, r7, r8]
      by_cases h1 : 4 * b ≤ a * a <;> by_cases h2 : 0 ≤ b <;> by_cases h3 : a ≤ 0 <;> by_cases h4 : 0 ≤ 2 * q.1 + a * q.2.2 * q.2.2 <;> by_cases h5 : 0 ≤ q.1 <;> by_cases h6 : 0 < q.1 <;> simp only [h1, h2, h3, h4, h5, h6, if_true, if_false]
  · rw [if_neg c, if_neg c]
theorem isPlace_Z (u w : Int32) : f_X_isPlace u w = decide ((-9999 ≤ u.toInt ∧ u.toInt ≤ 9999) ∧ (1 ≤ w.toInt ∧ w.toInt ≤ 99)) := by
  unfold f_X_isPlace
  simp only [iZ_lit, iZ_neg, pl_lt (y := -9999) (bd_lit _ rfl), pl_gt (y := 9999) (bd_lit _ rfl), pl_lt (y := 1) (bd_lit _ rfl), pl_gt (y := 99) (bd_lit _ rfl)]
  by_cases c1 : u.toInt < -9999
  · rw [if_pos c1, decide_eq_false (by omega)]
  · rw [if_neg c1]
    by_cases c2 : 9999 < u.toInt
    · rw [if_pos c2, decide_eq_false (by omega)]
    · rw [if_neg c2]
      by_cases c3 : w.toInt < 1
      · rw [if_pos c3, decide_eq_false (by omega)]
      · rw [if_neg c3]
        by_cases c4 : 99 < w.toInt
        · rw [if_pos c4, decide_eq_false (by omega)]
        · rw [if_neg c4, decide_eq_true (by omega)]
theorem between_l (N : Nat) (hM : M ≤ 1000) (hE : E ≤ 6) {σ τ : aSt} (hx : XC a b M E σ) (hm : MC a b M E τ) {u v w : Int} (hu : bd 9999 u) (hv : bd 9999 v) (hw : bd 99 w) : ∀ (j n i : Nat) (s : Int32), i + j = (hL a b M E).length → j + 1 ≤ n → ∃ r, f_X_between_l17 N σ n (iZ u) (iZ v) (iZ w) s (iZ i) = some r ∧ f_M_between_l27 N τ n (iZ u) (iZ v) (iZ w) s (iZ i) = some r := by
  intro j
  induction j with
  | zero =>
    intro n i s hi hn
    obtain ⟨n, rfl, hn⟩ := fuel hn
    rw [f_X_between_l17, f_M_between_l27, shownZ hx, len_m hm, if_pos (stop (by omega)), if_pos (stop (by omega))]
    exact ⟨_, rfl, rfl⟩
  | succ j ih =>
    intro n i s hi hn
    obtain ⟨n, rfl, hn⟩ := fuel hn
    obtain ⟨p, hp, g1, g2, g3, g4⟩ := see_x hx (i := i) (by omega)
    obtain ⟨k1, k2, k3, k4⟩ := see_m hm hp
    have pm := isPt_m hM g1
    have pe := isPt_e hE g1
    have pee := bd_mul pe pe
    rw [f_X_between_l17, f_M_between_l27, shownZ hx, len_m hm, if_neg (ngo (by omega)), if_neg (ngo (by omega)), if_pos k4, g2, g4, k1, k3, i2j (bd_mono pm (by decide)), i2j (bd_mono pe (by decide)), i2j (bd_mono hu (by decide)), i2j (bd_mono hv (by decide)), i2j (bd_mono hw (by decide)), i1, Int32.add_zero]
    simp only [iZ_mul, jZ_mul]
    have r1 : (jZ (p.1 * w) < jZ (u * (p.2.2 * p.2.2))) = (iZ (p.1 * w) < iZ (u * (p.2.2 * p.2.2))) := by
      rw [jZ_lt (bd_mono (bd_mul pm hw) (by decide)) (bd_mono (bd_mul hu pee) (by decide)), iZ_lt (bd_mono (bd_mul pm hw) (by decide)) (bd_mono (bd_mul hu pee) (by decide))]
    have r2 : (jZ (v * (p.2.2 * p.2.2)) < jZ (p.1 * w)) = (iZ (v * (p.2.2 * p.2.2)) < iZ (p.1 * w)) := by
      rw [jZ_lt (bd_mono (bd_mul hv pee) (by decide)) (bd_mono (bd_mul pm hw) (by decide)), iZ_lt (bd_mono (bd_mul hv pee) (by decide)) (bd_mono (bd_mul pm hw) (by decide))]
    simp only [r1, r2]
    by_cases c1 : iZ (p.1 * w) < iZ (u * (p.2.2 * p.2.2))
    · rw [if_pos c1, if_pos c1]; exact ih n (i + 1) _ (by omega) (by omega)
    · rw [if_neg c1, if_neg c1]
      by_cases c2 : iZ (v * (p.2.2 * p.2.2)) < iZ (p.1 * w)
      · rw [if_pos c2, if_pos c2]; exact ih n (i + 1) _ (by omega) (by omega)
      · rw [if_neg c2, if_neg c2]; exact ih n (i + 1) _ (by omega) (by omega)
theorem between_eq {N : Nat} (hc : CV a b M E) (hN : 10000 ≤ N) {σ τ : aSt} (hx : RX a b M E σ) (hm : RM a b M E τ) (u v w : Int32) : ∃ r, f_X_between N u v w σ = some r ∧ f_M_between N u v w τ = some r := by
  have hl := hL_le (a := a) (b := b) (M := M) (E := E)
  obtain ⟨hab, -, -, hM, -, hE⟩ := hc
  unfold f_X_between f_M_between
  rw [hx.1, hm.1, if_pos (c := true = true) rfl, if_pos (c := true = true) rfl]
  simp only [isPlace_Z, jZ_lit, jZ_neg, in_p (lo := -9999) (hi := 9999) (bd_lit _ rfl) (bd_lit _ rfl), in_p (lo := 1) (hi := 99) (bd_lit _ rfl) (bd_lit _ rfl), ite_dec]
  by_cases cu : -9999 ≤ u.toInt ∧ u.toInt ≤ 9999
  · rw [if_pos (c := -9999 ≤ u.toInt ∧ u.toInt ≤ 9999) cu]
    by_cases cw : 1 ≤ w.toInt ∧ w.toInt ≤ 99
    · rw [if_pos (c := (-9999 ≤ u.toInt ∧ u.toInt ≤ 9999) ∧ (1 ≤ w.toInt ∧ w.toInt ≤ 99)) ⟨cu, cw⟩, if_pos (c := 1 ≤ w.toInt ∧ w.toInt ≤ 99) cw]
      by_cases cv : -9999 ≤ v.toInt ∧ v.toInt ≤ 9999
      · rw [if_pos (c := (-9999 ≤ v.toInt ∧ v.toInt ≤ 9999) ∧ (1 ≤ w.toInt ∧ w.toInt ≤ 99)) ⟨cv, cw⟩, if_pos (c := -9999 ≤ v.toInt ∧ v.toInt ≤ 9999) cv]
        have := between_l N hM hE hx.2 hm.2 (u := u.toInt) (v := v.toInt) (w := w.toInt) cu cv ⟨by omega, by omega⟩ _ N 0 (0 : Int32) (Nat.zero_add _) (by omega)
        rw [iZ_self, iZ_self, iZ_self] at this
        exact this
      · rw [if_neg (fun h => cv h.1), if_neg cv]; exact ⟨_, rfl, rfl⟩
    · rw [if_neg (fun h => cw h.2)]
      by_cases cv : -9999 ≤ v.toInt ∧ v.toInt ≤ 9999
      · rw [if_pos cv, if_neg cw]; exact ⟨_, rfl, rfl⟩
      · rw [if_neg cv]; exact ⟨_, rfl, rfl⟩
  · rw [if_neg (fun h => cu h.1), if_neg cu]; exact ⟨_, rfl, rfl⟩
theorem nearest_l (N : Nat) (hM : M ≤ 1000) (hE : E ≤ 6) {σ τ : aSt} (hx : XC a b M E σ) (hm : MC a b M E τ) {u w : Int} (hu : bd 9999 u) (hw : bd 99 w) : ∀ (j n i : Nat) (s : Int32) (g h : Int64), i + j = (hL a b M E).length → j + 1 ≤ n → ∃ r, f_X_nearest_l17 N σ n (iZ u) (iZ w) s g h (iZ i) = some r ∧ f_M_nearest_l25 N τ n (iZ u) (iZ w) s g h (iZ i) = some r := by
  intro j
  induction j with
  | zero =>
    intro n i s g h hi hn
    obtain ⟨n, rfl, hn⟩ := fuel hn
    rw [f_X_nearest_l17, f_M_nearest_l25, shownZ hx, len_m hm, if_pos (stop (by omega)), if_pos (stop (by omega))]
    exact ⟨_, rfl, rfl⟩
  | succ j ih =>
    intro n i s g h hi hn
    obtain ⟨n, rfl, hn⟩ := fuel hn
    obtain ⟨p, hp, g1, g2, g3, g4⟩ := see_x hx (i := i) (by omega)
    obtain ⟨k1, k2, k3, k4⟩ := see_m hm hp
    rw [f_X_nearest_l17, f_M_nearest_l25, shownZ hx, len_m hm, if_neg (ngo (by omega)), if_neg (ngo (by omega)), if_pos k4, g2, g4, k1, k3, i1]
    generalize labs ((iZ p.1).toInt64 * (iZ w).toInt64 - (iZ u).toInt64 * ((iZ p.2.2).toInt64 * (iZ p.2.2).toInt64)) = G
    generalize (iZ p.2.2).toInt64 * (iZ p.2.2).toInt64 = Q
    by_cases c1 : s = (-1 : Int32)
    · rw [if_pos c1, if_pos c1]; exact ih n (i + 1) _ _ _ (by omega) (by omega)
    · rw [if_neg c1, if_neg c1]
      by_cases c2 : g * Q ≤ G * h
      · rw [if_pos c2, if_neg (Int64.not_lt.mpr c2)]; exact ih n (i + 1) _ _ _ (by omega) (by omega)
      · rw [if_neg c2, if_pos (Int64.not_le.mp c2)]; exact ih n (i + 1) _ _ _ (by omega) (by omega)
theorem nearest_eq {N : Nat} (hc : CV a b M E) (hN : 10000 ≤ N) {σ τ : aSt} (hx : RX a b M E σ) (hm : RM a b M E τ) (u w : Int32) : ∃ r, f_X_nearest N u w σ = some r ∧ f_M_nearest N u w τ = some r := by
  have hl := hL_le (a := a) (b := b) (M := M) (E := E)
  obtain ⟨hab, -, -, hM, -, hE⟩ := hc
  unfold f_X_nearest f_M_nearest
  rw [hx.1, hm.1, if_pos (c := true = true) rfl, if_pos (c := true = true) rfl, isPlace_Z, ite_dec]
  have e1 : f_M_in u.toInt64 (-9999 : Int64) (9999 : Int64) = decide (-9999 ≤ u.toInt ∧ u.toInt ≤ 9999) := in_p (lo := -9999) (hi := 9999) (bd_lit _ rfl) (bd_lit _ rfl)
  have e2 : f_M_in w.toInt64 (1 : Int64) (99 : Int64) = decide (1 ≤ w.toInt ∧ w.toInt ≤ 99) := in_p (lo := 1) (hi := 99) (bd_lit _ rfl) (bd_lit _ rfl)
  rw [e1, e2, ite_dec, ite_dec]
  by_cases cu : -9999 ≤ u.toInt ∧ u.toInt ≤ 9999
  · rw [if_pos (c := -9999 ≤ u.toInt ∧ u.toInt ≤ 9999) cu]
    by_cases cw : 1 ≤ w.toInt ∧ w.toInt ≤ 99
    · rw [if_pos ⟨cu, cw⟩, if_pos cw]
      have := nearest_l N hM hE hx.2 hm.2 (u := u.toInt) (w := w.toInt) cu ⟨by omega, by omega⟩ _ N 0 (-1 : Int32) (0 : Int64) (1 : Int64) (Nat.zero_add _) (by omega)
      rw [iZ_self, iZ_self] at this
      exact this
    · rw [if_neg (fun h => cw h.2), if_neg cw]; exact ⟨_, rfl, rfl⟩
  · rw [if_neg (fun h => cu h.1), if_neg cu]; exact ⟨_, rfl, rfl⟩
theorem sorts_l {N : Nat} (hN : 10000 ≤ N) (hM : M ≤ 1000) (hE : E ≤ 6) {σ τ : aSt} (hx : XC a b M E σ) (hm : MC a b M E τ) (e f g : Int32) (hfg : (g = 0) = (f ≠ 0)) : ∀ (j n i : Nat) (s : Int32), i + j = (hL a b M E).length → j + 1 ≤ n → ∃ r, f_X_sorts_l28 N σ n e g s (iZ i) = some r ∧ f_M_sorts_l23 N τ n e f s (iZ i) = some r := by
  intro j
  induction j with
  | zero =>
    intro n i s hi hn
    obtain ⟨n, rfl, hn⟩ := fuel hn
    rw [f_X_sorts_l28, f_M_sorts_l23, shownZ hx, len_m hm, if_pos (stop (by omega)), if_pos (stop (by omega))]
    exact ⟨_, rfl, rfl⟩
  | succ j ih =>
    intro n i s hi hn
    obtain ⟨n, rfl, hn⟩ := fuel hn
    obtain ⟨p, hp, g1, g2, g3, g4⟩ := see_x hx (i := i) (by omega)
    obtain ⟨k1, k2, k3, k4⟩ := see_m hm hp
    have pm := isPt_m hM g1
    have m1 := pm.1; have m2 := pm.2
    rw [f_X_sorts_l28, f_M_sorts_l23, shownZ hx, len_m hm, if_neg (ngo (by omega)), if_neg (ngo (by omega)), if_pos k4, if_pos k4, g2, g4, k1, k3, i1, Int32.add_zero, iabs_Z (bd_mono pm (by decide)), i2j ⟨by omega, by omega⟩, rootOf_Z hN ⟨by omega, by omega⟩, isSquare_Z hN ⟨by omega, by omega⟩, Option.bind_some, Option.bind_some]
    simp only [hfg]
    by_cases c1 : f ≠ 0
    · rw [if_pos c1, if_pos c1]
      have hr := rt_bd (v := p.1.natAbs) (by omega)
      cases hq : isq (p.1.natAbs : Int) with
      | true =>
        rw [rtA_of hq, Int.toNat_natCast, if_neg (by rw [jZ_lit, jZ_lt ⟨by omega, by omega⟩ (bd_lit _ rfl)]; omega), if_pos rfl]
        exact ih n (i + 1) _ (by omega) (by omega)
      | false =>
        rw [rtA_no hq, if_pos (by decide), if_neg (by decide)]
        exact ih n (i + 1) _ (by omega) (by omega)
    · rw [if_neg c1, if_neg c1]
      by_cases c2 : iZ p.2.2 ≠ e
      · rw [if_pos c2, if_pos c2]; exact ih n (i + 1) _ (by omega) (by omega)
      · rw [if_neg c2, if_neg c2]; exact ih n (i + 1) _ (by omega) (by omega)
theorem sorts_eq {N : Nat} (hc : CV a b M E) (hN : 10000 ≤ N) {σ τ : aSt} (hx : RX a b M E σ) (hm : RM a b M E τ) (e w : Int32) : ∃ r, f_X_sorts N e w σ = some r ∧ f_M_sorts N e w τ = some r := by
  have hl := hL_le (a := a) (b := b) (M := M) (E := E)
  obtain ⟨hab, -, -, hM, -, hE⟩ := hc
  have e1 : f_M_in w.toInt64 (0 : Int64) (1 : Int64) = decide (0 ≤ w.toInt ∧ w.toInt ≤ 1) := in_p (lo := 0) (hi := 1) (bd_lit _ rfl) (bd_lit _ rfl)
  have e2 : f_M_in e.toInt64 (1 : Int64) (6 : Int64) = decide (1 ≤ e.toInt ∧ e.toInt ≤ 6) := in_p (lo := 1) (hi := 6) (bd_lit _ rfl) (bd_lit _ rfl)
  unfold f_X_sorts f_M_sorts f_X_sorts_b5 f_X_sorts_b14 f_X_sorts_b24 f_M_sorts_b19
  rw [hx.1, hm.1, if_pos (c := true = true) rfl, if_pos (c := true = true) rfl, if_pos (c := true = true) rfl, e1, e2, ite_dec, ite_dec]
  have z0 : (w = (0 : Int32)) = (w.toInt = 0) := pl_eq (bd_lit 0 rfl)
  have z1 : (w = (1 : Int32)) = (w.toInt = 1) := pl_eq (bd_lit 1 rfl)
  by_cases c0 : w ≠ 0
  · rw [if_pos c0, if_pos c0, if_neg (c := (0 : Int32) ≠ 0) (fun h => h rfl), if_pos (c := (0 : Int32) = 0) rfl]
    by_cases c1 : w ≠ (1 : Int32)
    · rw [if_pos c1, if_neg (by rw [ne_eq, z0] at c0; rw [ne_eq, z1] at c1; omega)]
      exact ⟨_, rfl, rfl⟩
    · have c1' : w.toInt = 1 := by rw [← z1]; exact Classical.byContradiction c1
      rw [if_neg c1, if_pos (by omega)]
      exact sorts_l hN hM hE hx.2 hm.2 e w 0 (propext ⟨fun _ => c0, fun _ => rfl⟩) _ N 0 _ (Nat.zero_add _) (by omega)
  · have c0' : w = 0 := Classical.byContradiction c0
    have c0'' : w.toInt = 0 := by rw [← z0]; exact c0'
    rw [if_neg c0, if_neg c0, if_pos (c := (1 : Int32) ≠ 0) (by decide), if_neg (c := (1 : Int32) = 0) (by decide), if_pos (c := 0 ≤ w.toInt ∧ w.toInt ≤ 1) (by omega)]
    have q1 : (e < (1 : Int32)) = (e.toInt < 1) := pl_lt (bd_lit 1 rfl)
    have q2 : (e ≤ (6 : Int32)) = (e.toInt ≤ 6) := pl_le (bd_lit 6 rfl)
    simp only [q1, q2]
    by_cases c2 : 1 ≤ e.toInt ∧ e.toInt ≤ 6
    · rw [if_neg (by omega), if_pos c2.2, if_pos c2]
      exact sorts_l hN hM hE hx.2 hm.2 e w 1 (propext ⟨fun h => absurd h (by decide), fun h => absurd c0' h⟩) _ N 0 _ (Nat.zero_add _) (by omega)
    · rw [if_neg c2]
      by_cases c3 : e.toInt < 1
      · rw [if_pos c3]; exact ⟨_, rfl, rfl⟩
      · rw [if_neg c3, if_neg (by omega)]; exact ⟨_, rfl, rfl⟩
end OPS
