/-! THE CURVE BESIDE -/
def CVc (a b : Int) (M E : Nat) : Prop := bd 60 a ∧ bd 200 b ∧ b ≠ 0 ∧ a * a - 4 * b ≠ 0 ∧ 1 ≤ M ∧ M ≤ 1000 ∧ 1 ≤ E ∧ E ≤ 6
theorem CVc_CV {a b : Int} {M E : Nat} (h : CVc a b M E) : CV a b M E := ⟨⟨bd_mono h.1 (by decide), bd_mono h.2.1 (by decide)⟩, h.2.2.1, h.2.2.2.2⟩
theorem CVc_B {a b : Int} {M E : Nat} (h : CVc a b M E) : CV (-2 * a) (a * a - 4 * b) M E := by
  obtain ⟨h1, h2, h3, h4, h5⟩ := h
  have haa := bd_mul h1 h1
  have := h1.1; have := h1.2; have := haa.1; have := haa.2; have := h2.1; have := h2.2
  exact ⟨⟨⟨by omega, by omega⟩, ⟨by omega, by omega⟩⟩, h4, h5⟩
/-- the class's list 16 -/
def XB (a b : Int) (M E : Nat) (σ : aSt) : Prop := XL 16 (hX a b M E) σ ∧ σ.1 16 6 = iZ a ∧ σ.1 16 7 = iZ b ∧ σ.1 16 8 = iZ M ∧ σ.1 16 9 = iZ E
section OVER
variable {a b : Int} {M E : Nat}
def BS (a b : Int) (M E : Nat) (σ : aSt) : Prop := σ.2.2 0 14 = true → XB (-2 * a) (a * a - 4 * b) M E σ
def frB : Nat → Nat → Bool := fun o k => frF16 o k || (Nat.beq o 0 && Nat.beq k 14)
theorem XC_B {σ σ' : aSt} (hf : fr frB σ σ') (h : XC a b M E σ) : XC a b M E σ' := XC_fr hf (fun _ => ⟨rfl, rfl, rfl, rfl, rfl⟩) h
theorem readyB (hc : CVc a b M E) {N : Nat} (hN : 10000 ≤ N) {σ : aSt} (hx : XC a b M E σ) (hb : BS a b M E σ) (hz : Z9 σ) : ∃ σ', f_X_readyBeside N σ = some σ' ∧ fr frB σ σ' ∧ σ'.2.2 0 14 = true ∧ XB (-2 * a) (a * a - 4 * b) M E σ' ∧ Z9 σ' := by
  unfold f_X_readyBeside
  cases hq : σ.2.2 0 14 with
  | true =>
    rw [if_pos rfl]
    exact ⟨σ, rfl, fr_refl _ _, hq, hb hq, hz⟩
  | false =>
    rw [if_neg (by decide)]
    obtain ⟨hab, hb0, hM1, hM, hE1, hE⟩ := CVc_B hc
    have e1 : (-2 : Int32) * f_PointList_a_11 σ = iZ (-2 * a) := by
      rw [xa hx, iZ_lit, iZ_neg, iZ_mul]
    have e2 : f_PointList_most_11 σ = iZ M := hx.2.2.2.1
    have e3 : f_PointList_deepest_11 σ = iZ E := hx.2.2.2.2
    rw [e1, besideB_Z hx, e2, e3]
    obtain ⟨σ', g1, g2, g3, g4, g5, g6, g7, g8⟩ := fill_16 hN hab hb0 hM hE hz
    rw [g1, Option.bind_some]
    refine ⟨_, rfl, fr_trans (fr_mono g8 (fun o k q => ?_)) (fr_sb rfl), sb_eq _ _ _ _, ⟨g2, g3, g4, g5, g6⟩, g7⟩
    unfold frB at q
    rw [Bool.or_eq_false_iff] at q
    exact q.1
theorem shown16 {σ : aSt} (hx : XB a b M E σ) : f_PointList_shown_16 σ = iZ ((hL a b M E).length : Int) := by
  unfold f_PointList_shown_16
  have hl := hx.1.2.1
  rw [hx.1.1, iZ_lit, imin_Z ⟨by omega, by omega⟩ (bd_lit _ rfl), hL_len]
  congr 1; omega
theorem m16 {L : List Pt} {σ : aSt} (h : XL 16 L σ) {i : Nat} {p : Pt} (hi : L[i]? = some p) : f_PointList_m_16 (iZ i) σ = iZ p.1 := by
  have hl := h.2.1
  have := get_lt hi
  unfold f_PointList_m_16
  rw [if_neg (by rw [iZ_lit, iZ_lt ⟨by omega, by omega⟩ (bd_lit _ rfl)]; omega), if_neg (by rw [iZ_lit, iZ_le (bd_lit _ rfl) ⟨by omega, by omega⟩]; omega), iZ_idx (by omega) (by omega)]
  exact (h.2.2 i p hi).1
theorem n16 {L : List Pt} {σ : aSt} (h : XL 16 L σ) {i : Nat} {p : Pt} (hi : L[i]? = some p) : f_PointList_n_16 (iZ i) σ = iZ p.2.1 := by
  have hl := h.2.1
  have := get_lt hi
  unfold f_PointList_n_16
  rw [if_neg (by rw [iZ_lit, iZ_lt ⟨by omega, by omega⟩ (bd_lit _ rfl)]; omega), if_neg (by rw [iZ_lit, iZ_le (bd_lit _ rfl) ⟨by omega, by omega⟩]; omega), iZ_idx (by omega) (by omega)]
  exact (h.2.2 i p hi).2.1
theorem e16 {L : List Pt} {σ : aSt} (h : XL 16 L σ) {i : Nat} {p : Pt} (hi : L[i]? = some p) : f_PointList_e_16 (iZ i) σ = iZ p.2.2 := by
  have hl := h.2.1
  have := get_lt hi
  unfold f_PointList_e_16
  rw [if_neg (by rw [iZ_lit, iZ_lt ⟨by omega, by omega⟩ (bd_lit _ rfl)]; omega), if_neg (by rw [iZ_lit, iZ_le (bd_lit _ rfl) ⟨by omega, by omega⟩]; omega), iZ_idx (by omega) (by omega)]
  exact (h.2.2 i p hi).2.2.1
def frO : Nat → Nat → Bool := fun o k => fr23 o k || frA51 o k
theorem okO : okM frO := ⟨rfl, rfl, rfl, rfl, rfl, fun _ => ⟨rfl, rfl, rfl⟩⟩
theorem fr23_O {τ τ' : aSt} (h : fr fr23 τ τ') : fr frO τ τ' := fr_mono h (fun o k q => by
  unfold frO at q
  rw [Bool.or_eq_false_iff] at q
  exact q.1)
theorem fr51_O {τ τ' : aSt} (h : fr frA51 τ τ') : fr frO τ τ' := fr_mono h (fun o k q => by
  unfold frO at q
  rw [Bool.or_eq_false_iff] at q
  exact q.2)
theorem over_m (hc : CVc a b M E) {N : Nat} (hN : 10000 ≤ N) {τ : aSt} (hm : MC a b M E τ) : ∃ τ', f_M_laysOver N τ = some τ' ∧ ML 51 80 (hL (-2 * a) (a * a - 4 * b) M E) τ' ∧ fr frA51 τ τ' := laysOver_ok hN hc.1 hc.2.1 hc.2.2.2.2.2.1 hc.2.2.2.2.2.2.2 hm.2.1 hm.2.2.1 hm.2.2.2.1 hm.2.2.2.2
theorem overMany_eq {N : Nat} (hc : CVc a b M E) (hN : 10000 ≤ N) {σ τ : aSt} (hx : RX a b M E σ) (hb : BS a b M E σ) (hz : Z9 σ) (hm : RM a b M E τ) : ∃ r σ' τ', f_X_overMany N σ = some (r, σ') ∧ f_M_overMany N τ = some (r, τ') ∧ (fr frB σ σ' ∧ BS a b M E σ' ∧ Z9 σ') ∧ fr frO τ τ' := by
  unfold f_X_overMany f_M_overMany
  rw [hx.1, hm.1, if_pos (c := true = true) rfl, if_pos (c := true = true) rfl]
  obtain ⟨σ', g1, g2, g3, g4, g5⟩ := readyB hc hN hx.2 hb hz
  obtain ⟨τ', t1, t2, t3⟩ := over_m hc hN hm.2
  rw [g1, t1, Option.bind_some, Option.bind_some, shown16 g4, t2.1]
  exact ⟨_, σ', τ', rfl, rfl, ⟨g2, fun _ => g4, g5⟩, fr51_O t3⟩
theorem overPoint_eq {N : Nat} (hc : CVc a b M E) (hN : 10000 ≤ N) {σ τ : aSt} (hx : RX a b M E σ) (hb : BS a b M E σ) (hz : Z9 σ) (hm : RM a b M E τ) (p w : Int32) : ∃ r σ' τ', f_X_overPoint N p w σ = some (r, σ') ∧ f_M_overPoint N p w τ = some (r, τ') ∧ (fr frB σ σ' ∧ BS a b M E σ' ∧ Z9 σ') ∧ fr frO τ τ' := by
  obtain ⟨hab, hb0, hM1, hM, hE1, hE⟩ := CVc_B hc
  have hl := hL_le (a := -2 * a) (b := a * a - 4 * b) (M := M) (E := E)
  unfold f_X_overPoint f_M_overPoint
  rw [hx.1, hm.1, if_pos (c := true = true) rfl, if_pos (c := true = true) rfl]
  obtain ⟨σ', g1, g2, g3, g4, g5⟩ := readyB hc hN hx.2 hb hz
  obtain ⟨τ', t1, t2, t3⟩ := over_m hc hN hm.2
  have fin : (fr frB σ σ' ∧ BS a b M E σ' ∧ Z9 σ') := ⟨g2, fun _ => g4, g5⟩
  have e1 : f_M_in w.toInt64 (0 : Int64) (2 : Int64) = decide (0 ≤ w.toInt ∧ w.toInt ≤ 2) := in_p (lo := 0) (hi := 2) (bd_lit _ rfl) (bd_lit _ rfl)
  rw [g1, t1, Option.bind_some, Option.bind_some, shown16 g4, t2.1, e1, ite_dec]
  have e2 : f_M_in p.toInt64 (0 : Int64) (iZ ((hL (-2 * a) (a * a - 4 * b) M E).length : Int) - (1 : Int32)).toInt64 = decide (0 ≤ p.toInt ∧ p.toInt < ((hL (-2 * a) (a * a - 4 * b) M E).length : Int)) := by
    rw [iZ_lit, iZ_sub, i2j ⟨by omega, by omega⟩, jZ_lit, in_p (bd_lit _ rfl) ⟨by omega, by omega⟩]
    by_cases c : 0 ≤ p.toInt ∧ p.toInt < ((hL (-2 * a) (a * a - 4 * b) M E).length : Int)
    · rw [decide_eq_true c, decide_eq_true (by omega)]
    · rw [decide_eq_false c, decide_eq_false (by omega)]
  have q1 : (p < (0 : Int32)) = (p.toInt < 0) := pl_lt (bd_lit 0 rfl)
  have q2 : (iZ ((hL (-2 * a) (a * a - 4 * b) M E).length : Int) ≤ p) = (((hL (-2 * a) (a * a - 4 * b) M E).length : Int) ≤ p.toInt) := pl_ge ⟨by omega, by omega⟩
  have w0 : (w = (0 : Int32)) = (w.toInt = 0) := pl_eq (bd_lit 0 rfl)
  have w1 : (w = (1 : Int32)) = (w.toInt = 1) := pl_eq (bd_lit 1 rfl)
  have w2 : (w = (2 : Int32)) = (w.toInt = 2) := pl_eq (bd_lit 2 rfl)
  rw [e2, ite_dec]
  unfold f_PointList_coordinate_16
  simp only [q1, q2, ne_eq, w0, w1, w2]
  by_cases c : 0 ≤ p.toInt ∧ p.toInt < ((hL (-2 * a) (a * a - 4 * b) M E).length : Int)
  · rw [if_neg (show ¬ p.toInt < 0 by omega), if_neg (show ¬ ((hL (-2 * a) (a * a - 4 * b) M E).length : Int) ≤ p.toInt by omega), if_pos c]
    obtain ⟨i, q, rfl, hq⟩ := listed c
    have hpt := hL_pt hq
    have hxq := (hL_get hq).1
    have hil := get_lt hq
    have hin : 0 ≤ iZ (i : Int) ∧ iZ (i : Int) < (120 : Int32) := by rw [iZ_lit, iZ_lit, iZ_le (bd_lit _ rfl) ⟨by omega, by omega⟩, iZ_lt ⟨by omega, by omega⟩ (bd_lit _ rfl)]; omega
    obtain ⟨k1, k2, k3⟩ := t2.2.2 i q hq
    rw [m16 g4.1 hxq, n16 g4.1 hxq, e16 g4.1 hxq, if_pos hin, if_pos hin, if_pos hin, iZ_idx (by omega) (by omega), Int.toNat_natCast, k1, k2, k3, i2j (bd_mono (isPt_n hab hM hE hpt) (by decide))]
    by_cases c0 : w.toInt = 0
    · rw [if_pos (c := w.toInt = 0) c0, if_pos (show 0 ≤ w.toInt ∧ w.toInt ≤ 2 by omega), if_neg (c := ¬ w.toInt = 0) (fun h => h c0)]
      exact ⟨_, σ', τ', rfl, rfl, fin, fr51_O t3⟩
    · rw [if_neg (c := w.toInt = 0) c0, if_pos (c := ¬ w.toInt = 0) c0]
      by_cases c1 : w.toInt = 1
      · rw [if_pos (c := w.toInt = 1) c1, if_pos (show 0 ≤ w.toInt ∧ w.toInt ≤ 2 by omega), if_neg (c := ¬ w.toInt = 1) (fun h => h c1)]
        exact ⟨_, σ', τ', rfl, rfl, fin, fr51_O t3⟩
      · rw [if_neg (c := w.toInt = 1) c1, if_pos (c := ¬ w.toInt = 1) c1]
        by_cases c2 : w.toInt = 2
        · rw [if_pos (c := w.toInt = 2) c2, if_pos (show 0 ≤ w.toInt ∧ w.toInt ≤ 2 by omega)]
          exact ⟨_, σ', τ', rfl, rfl, fin, fr51_O t3⟩
        · rw [if_neg (c := w.toInt = 2) c2, if_neg (show ¬ (0 ≤ w.toInt ∧ w.toInt ≤ 2) by omega)]
          exact ⟨_, σ', τ, rfl, rfl, fin, fr_refl _ _⟩
  · rw [if_neg c]
    have hX : ∃ r, (if p.toInt < 0 then some ((-9223372036854775808 : Int64), σ') else if ((hL (-2 * a) (a * a - 4 * b) M E).length : Int) ≤ p.toInt then some ((-9223372036854775808 : Int64), σ') else some ((if w.toInt = 0 then (f_PointList_m_16 p σ').toInt64 else if w.toInt = 1 then (f_PointList_n_16 p σ').toInt64 else if w.toInt = 2 then (f_PointList_e_16 p σ').toInt64 else (-9223372036854775808 : Int64)), σ')) = some (r, σ') ∧ r = (-9223372036854775808 : Int64) := by
      by_cases c1 : p.toInt < 0
      · rw [if_pos c1]; exact ⟨_, rfl, rfl⟩
      · rw [if_neg c1, if_pos (by omega)]; exact ⟨_, rfl, rfl⟩
    obtain ⟨r, h1, h2⟩ := hX
    rw [h1, h2]
    by_cases cw : 0 ≤ w.toInt ∧ w.toInt ≤ 2
    · rw [if_pos cw]
      exact ⟨_, σ', τ', rfl, rfl, fin, fr51_O t3⟩
    · rw [if_neg cw]
      exact ⟨_, σ', τ, rfl, rfl, fin, fr_refl _ _⟩
end OVER
