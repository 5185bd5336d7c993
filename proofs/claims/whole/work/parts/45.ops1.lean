/-! CALLS OVER THE LIST, both programs side by side -/
theorem pl_lt {p : Int32} {y : Int} (hy : bd 2147483647 y) : (p < iZ y) = (p.toInt < y) := by rw [Int32.lt_iff_toInt_lt, iZ_int hy]
theorem pl_gt {p : Int32} {y : Int} (hy : bd 2147483647 y) : (iZ y < p) = (y < p.toInt) := by rw [Int32.lt_iff_toInt_lt, iZ_int hy]
theorem pl_le {p : Int32} {y : Int} (hy : bd 2147483647 y) : (p ≤ iZ y) = (p.toInt ≤ y) := by rw [Int32.le_iff_toInt_le, iZ_int hy]
theorem pl_ge {p : Int32} {y : Int} (hy : bd 2147483647 y) : (iZ y ≤ p) = (y ≤ p.toInt) := by rw [Int32.le_iff_toInt_le, iZ_int hy]
theorem pl_eq {p : Int32} {y : Int} (hy : bd 2147483647 y) : (p = iZ y) = (p.toInt = y) := by rw [← Int32.toInt_inj, iZ_int hy]
theorem in_Z {x lo hi : Int64} : f_M_in x lo hi = decide (lo.toInt ≤ x.toInt ∧ x.toInt ≤ hi.toInt) := by
  unfold f_M_in
  by_cases c1 : x < lo
  · rw [if_pos c1]
    rw [Int64.lt_iff_toInt_lt] at c1
    exact (decide_eq_false (by omega)).symm
  · rw [if_neg c1]
    rw [Int64.lt_iff_toInt_lt] at c1
    by_cases c2 : hi < x
    · rw [if_pos c2]
      rw [Int64.lt_iff_toInt_lt] at c2
      exact (decide_eq_false (by omega)).symm
    · rw [if_neg c2]
      rw [Int64.lt_iff_toInt_lt] at c2
      exact (decide_eq_true (by omega)).symm
theorem in_p {p : Int32} {lo hi : Int} (h1 : bd 9223372036854775807 lo) (h2 : bd 9223372036854775807 hi) : f_M_in p.toInt64 (jZ lo) (jZ hi) = decide (lo ≤ p.toInt ∧ p.toInt ≤ hi) := by
  rw [in_Z, jZ_int h1, jZ_int h2, Int32.toInt_toInt64]
theorem ite_dec {α : Type} {c : Prop} [Decidable c] {x y : α} : (if decide c = true then x else y) = if c then x else y := by
  by_cases h : c
  · rw [if_pos h, if_pos (decide_eq_true h)]
  · rw [if_neg h, if_neg (by rw [decide_eq_true_eq]; exact h)]
section OPS
variable {a b : Int} {M E : Nat}
def RX (a b : Int) (M E : Nat) (σ : aSt) : Prop := σ.2.2 0 13 = true ∧ XC a b M E σ
def RM (a b : Int) (M E : Nat) (σ : aSt) : Prop := σ.2.2 66 1 = true ∧ MC a b M E σ
/-- a POINT's number that is no FAR -/
def pnt (a b : Int) (M E : Nat) (x : Int) : Prop := x = 1000 ∨ (0 ≤ x ∧ x < ((hL a b M E).length : Int))
theorem pnt_scd {x : Int} (h : pnt a b M E x) : scd a b M E x ∧ x ≠ -6 := by
  rcases h with h | h
  · exact ⟨Or.inl h, by omega⟩
  · exact ⟨Or.inr (Or.inr h), by omega⟩
theorem xListed {σ : aSt} (h : RX a b M E σ) (p : Int32) : f_X_isListed p σ = decide (0 ≤ p.toInt ∧ p.toInt < ((hL a b M E).length : Int)) := by
  have hl := hL_le (a := a) (b := b) (M := M) (E := E)
  unfold f_X_isListed
  rw [h.1, if_pos rfl, shownZ h.2]
  by_cases c1 : p.toInt < 0
  · rw [if_pos (by rw [iZ_lit, pl_lt (bd_lit _ rfl)]; exact c1), decide_eq_false (by omega)]
  · rw [if_neg (by rw [iZ_lit, pl_lt (bd_lit _ rfl)]; exact c1)]
    by_cases c2 : ((hL a b M E).length : Int) ≤ p.toInt
    · rw [if_pos (by rw [pl_ge ⟨by omega, by omega⟩]; exact c2), decide_eq_false (by omega)]
    · rw [if_neg (by rw [pl_ge ⟨by omega, by omega⟩]; exact c2), decide_eq_true (by omega)]
theorem xPoint {σ : aSt} (h : RX a b M E σ) (p : Int32) : f_X_isPoint p σ = decide (p.toInt = 1000 ∨ (0 ≤ p.toInt ∧ p.toInt < ((hL a b M E).length : Int))) := by
  unfold f_X_isPoint
  rw [h.1, if_pos rfl, xListed h, ite_dec]
  by_cases c1 : p.toInt = 1000
  · rw [if_pos (by rw [iZ_lit, pl_eq (bd_lit _ rfl)]; exact c1), decide_eq_true (Or.inl c1)]
  · rw [if_neg (by rw [iZ_lit, pl_eq (bd_lit _ rfl)]; exact c1)]
    by_cases c2 : 0 ≤ p.toInt ∧ p.toInt < ((hL a b M E).length : Int)
    · rw [if_pos c2, decide_eq_true (Or.inr c2)]
    · rw [if_neg c2, decide_eq_false (by omega)]
theorem mListed {σ : aSt} (h : RM a b M E σ) (p : Int32) : f_M_isListed p σ = decide (0 ≤ p.toInt ∧ p.toInt < ((hL a b M E).length : Int)) := by
  have hl := hL_le (a := a) (b := b) (M := M) (E := E)
  unfold f_M_isListed
  rw [h.1, if_pos rfl, h.2.1.1, iZ_lit, iZ_sub, i2j ⟨by omega, by omega⟩, jZ_lit, in_p (bd_lit _ rfl) ⟨by omega, by omega⟩, ite_dec]
  by_cases c2 : 0 ≤ p.toInt ∧ p.toInt < ((hL a b M E).length : Int)
  · rw [if_pos (by omega), decide_eq_true c2]
  · rw [if_neg (by omega), decide_eq_false c2]
theorem mPoint {σ : aSt} (h : RM a b M E σ) (p : Int32) : f_M_isPoint p σ = decide (p.toInt = 1000 ∨ (0 ≤ p.toInt ∧ p.toInt < ((hL a b M E).length : Int))) := by
  unfold f_M_isPoint
  rw [h.1, mListed h, ite_dec, if_pos (c := true = true) rfl]
  by_cases c2 : 0 ≤ p.toInt ∧ p.toInt < ((hL a b M E).length : Int)
  · rw [if_pos c2, decide_eq_true (Or.inr c2)]
  · rw [if_neg c2]
    by_cases c1 : p.toInt = 1000
    · rw [if_neg (by rw [ne_eq, iZ_lit, pl_eq (bd_lit _ rfl)]; exact fun h => h c1), decide_eq_true (Or.inl c1)]
    · rw [if_pos (by rw [ne_eq, iZ_lit, pl_eq (bd_lit _ rfl)]; exact c1), decide_eq_false (by omega)]
/-- what both programs see at a number of the LIST -/
theorem see_x {σ : aSt} (h : XC a b M E σ) {i : Nat} (hi : i < (hL a b M E).length) : ∃ p, (hL a b M E)[i]? = some p ∧ isPt a b M E p ∧ f_PointList_m_11 (iZ i) σ = iZ p.1 ∧ f_PointList_n_11 (iZ i) σ = iZ p.2.1 ∧ f_PointList_e_11 (iZ i) σ = iZ p.2.2 := by
  obtain ⟨p, hp⟩ := get_some hi
  have hx := (hL_get hp).1
  exact ⟨p, hp, hL_pt hp, m11 h.1 hx, n11 h.1 hx, e11 h.1 hx⟩
theorem see_m {τ : aSt} (h : MC a b M E τ) {i : Nat} {p : Pt} (hp : (hL a b M E)[i]? = some p) : τ.1 67 (iZ (i : Int)).toNatClampNeg = iZ p.1 ∧ τ.2.1 68 (iZ (i : Int)).toNatClampNeg = jZ p.2.1 ∧ τ.1 69 (iZ (i : Int)).toNatClampNeg = iZ p.2.2 ∧ (0 ≤ iZ (i : Int) ∧ iZ (i : Int) < (120 : Int32)) := by
  have hl := hL_le (a := a) (b := b) (M := M) (E := E)
  have := get_lt hp
  rw [iZ_idx (by omega) (by omega), show ((i : Nat) : Int).toNat = i from by omega]
  obtain ⟨q1, q2, q3⟩ := h.1.2.2 i p hp
  refine ⟨q1, q2, q3, ?_⟩
  rw [iZ_lit, iZ_lit, iZ_le (bd_lit _ rfl) ⟨by omega, by omega⟩, iZ_lt ⟨by omega, by omega⟩ (bd_lit _ rfl)]
  omega
theorem len_m {τ : aSt} (h : MC a b M E τ) : τ.1 66 9 = iZ ((hL a b M E).length : Int) := h.1.1
theorem stop {i : Nat} (h : i = (hL a b M E).length) : iZ ((hL a b M E).length : Int) ≤ iZ (i : Int) := by
  rw [h]; exact Int32.le_refl _
theorem ngo {i : Nat} (h : i < (hL a b M E).length) : ¬ iZ ((hL a b M E).length : Int) ≤ iZ (i : Int) := by
  have hl := hL_le (a := a) (b := b) (M := M) (E := E)
  rw [iZ_le ⟨by omega, by omega⟩ ⟨by omega, by omega⟩]; omega
theorem lit32 {x : Int32} {z : Int} (h : x.toInt = z) : x = iZ z := by rw [← h, iZ_self]
/-! point, turned, sum, times, order -/
theorem point_eq {N : Nat} {σ τ : aSt} (hab : inB a b) (hM : M ≤ 1000) (hE : E ≤ 6) (hx : RX a b M E σ) (hm : RM a b M E τ) (p w : Int32) : f_M_point N p w τ = some (f_X_point p w σ) := by
  have hl := hL_le (a := a) (b := b) (M := M) (E := E)
  unfold f_M_point f_X_point
  rw [xListed hx, mListed hm, ite_dec, ite_dec]
  by_cases c : 0 ≤ p.toInt ∧ p.toInt < ((hL a b M E).length : Int)
  · rw [if_pos c, if_pos c]
    obtain ⟨i, hi⟩ : ∃ i : Nat, p.toInt = i := ⟨p.toInt.toNat, by omega⟩
    have ep := lit32 hi
    subst ep
    obtain ⟨q, g0, g1, g2, g3, g4⟩ := see_x hx.2 (i := i) (by omega)
    obtain ⟨k1, k2, k3, k4⟩ := see_m hm.2 g0
    unfold f_PointList_coordinate_11
    rw [g2, g3, g4, k1, k2, k3, if_pos k4, if_pos k4, if_pos k4, i2j (bd_mono (isPt_n hab hM hE g1) (by decide)), jZ_lit, jZ_lit, in_p (bd_lit _ rfl) (bd_lit _ rfl), ite_dec]
    simp only [iZ_lit, ne_eq, pl_eq (y := 0) (bd_lit _ rfl), pl_eq (y := 1) (bd_lit _ rfl), pl_eq (y := 2) (bd_lit _ rfl)]
    by_cases c0 : w.toInt = 0
    · rw [if_pos (by omega), if_neg (by omega), if_pos c0]
    · rw [if_pos (c := ¬ w.toInt = 0) c0, if_neg c0]
      by_cases c1 : w.toInt = 1
      · rw [if_pos (by omega), if_neg (by omega), if_pos c1]
      · rw [if_pos (c := ¬ w.toInt = 1) c1, if_neg c1]
        by_cases c2 : w.toInt = 2
        · rw [if_pos (by omega), if_pos c2]
        · rw [if_neg (by omega), if_neg c2]
  · rw [if_neg c, if_neg c]
theorem turned_eq {N : Nat} (hc : CV a b M E) (hN : 10000 ≤ N) {σ τ : aSt} (hx : RX a b M E σ) (hm : RM a b M E τ) (p : Int32) : f_M_turned N p τ = some (f_X_turned p σ) := by
  unfold f_M_turned f_X_turned
  rw [xPoint hx, mPoint hm, ite_dec, ite_dec]
  by_cases c : p.toInt = 1000 ∨ (0 ≤ p.toInt ∧ p.toInt < ((hL a b M E).length : Int))
  · rw [if_pos c, if_pos c]
    obtain ⟨h1, h2⟩ := pnt_scd (x := p.toInt) c
    have e := iZ_self p
    rw [← e, mturned_ok hc hN hm.2 h1 h2, turn_shown hc hx.2 h1]; rfl
  · rw [if_neg c, if_neg c]
theorem sum_eq {N : Nat} (hc : CV a b M E) (hN : 10000 ≤ N) {σ τ : aSt} (hx : RX a b M E σ) (hm : RM a b M E τ) (p q : Int32) : ∃ r σ' τ', f_X_sum N p q σ = some (r, σ') ∧ f_M_sum N p q τ = some (r, τ') ∧ fr fr22 σ σ' ∧ fr fr23 τ τ' := by
  unfold f_M_sum f_X_sum
  simp only [xPoint hx, mPoint hm, ite_dec]
  by_cases c : p.toInt = 1000 ∨ (0 ≤ p.toInt ∧ p.toInt < ((hL a b M E).length : Int))
  · rw [if_pos c, if_pos c]
    by_cases c2 : q.toInt = 1000 ∨ (0 ≤ q.toInt ∧ q.toInt < ((hL a b M E).length : Int))
    · rw [if_pos c2, if_pos c2]
      obtain ⟨h1, h2⟩ := pnt_scd (x := p.toInt) c
      obtain ⟨h3, h4⟩ := pnt_scd (x := q.toInt) c2
      obtain ⟨σ', e1, e2⟩ := total_ok hc hN hx.2 h1 h3
      obtain ⟨τ', e3, e4⟩ := msum1 hc hN hm.2 h1 h3
      rw [iZ_self, iZ_self] at e1 e3
      rw [e1, e3]
      exact ⟨_, σ', τ', rfl, rfl, e2, e4⟩
    · rw [if_neg c2, if_neg c2]
      exact ⟨_, σ, τ, rfl, rfl, fr_refl _ _, fr_refl _ _⟩
  · rw [if_neg c, if_neg c]
    exact ⟨_, σ, τ, rfl, rfl, fr_refl _ _, fr_refl _ _⟩
theorem times_eq {N : Nat} (hc : CV a b M E) (hN : 10000 ≤ N) {σ τ : aSt} (hx : RX a b M E σ) (hm : RM a b M E τ) (p k : Int32) : ∃ r σ' τ', f_X_times N p k σ = some (r, σ') ∧ f_M_times N p k τ = some (r, τ') ∧ fr fr22 σ σ' ∧ fr fr23 τ τ' := by
  unfold f_M_times f_X_times
  simp only [xPoint hx, mPoint hm, ite_dec, jZ_lit, iZ_lit, iZ_neg, jZ_neg, in_p (lo := -20) (hi := 20) (bd_lit _ rfl) (bd_lit _ rfl), pl_lt (y := -20) (bd_lit _ rfl), pl_le (y := 20) (bd_lit _ rfl)]
  by_cases c : p.toInt = 1000 ∨ (0 ≤ p.toInt ∧ p.toInt < ((hL a b M E).length : Int))
  · rw [if_pos c, if_pos c]
    by_cases c2 : -20 ≤ k.toInt ∧ k.toInt ≤ 20
    · rw [if_pos c2, if_neg (by omega), if_pos c2.2]
      obtain ⟨h1, h2⟩ := pnt_scd (x := p.toInt) c
      obtain ⟨σ', e1, e2⟩ := multiple_ok hc hN h1 (k := k.toInt) ⟨by omega, by omega⟩ hx.2
      obtain ⟨τ', e3, e4⟩ := mtimes_ok hc hN h1 (k := k.toInt) ⟨by omega, by omega⟩ hm.2
      rw [iZ_self, iZ_self] at e1 e3
      rw [e1, e3]
      exact ⟨_, σ', τ', rfl, rfl, e2, e4⟩
    · rw [if_neg c2]
      by_cases c3 : k.toInt < -20
      · rw [if_pos c3]
        exact ⟨_, σ, τ, rfl, rfl, fr_refl _ _, fr_refl _ _⟩
      · rw [if_neg c3, if_neg (by omega)]
        exact ⟨_, σ, τ, rfl, rfl, fr_refl _ _, fr_refl _ _⟩
  · rw [if_neg c, if_neg c]
    exact ⟨_, σ, τ, rfl, rfl, fr_refl _ _, fr_refl _ _⟩
theorem order_eq {N : Nat} (hc : CV a b M E) (hN : 10000 ≤ N) {σ τ : aSt} (hx : RX a b M E σ) (ho : OR a b M E σ) (hm : RM a b M E τ) (p : Int32) : ∃ r σ' τ', f_X_order N p σ = some (r, σ') ∧ f_M_order N p τ = some (r, τ') ∧ fr fr2 σ σ' ∧ OR a b M E σ' ∧ fr fr23 τ τ' := by
  unfold f_M_order f_X_order
  simp only [xPoint hx, mPoint hm, ite_dec]
  by_cases c : p.toInt = 1000 ∨ (0 ≤ p.toInt ∧ p.toInt < ((hL a b M E).length : Int))
  · rw [if_pos c, if_pos c]
    obtain ⟨h1, h2⟩ := pnt_scd (x := p.toInt) c
    obtain ⟨σ', e1, e2, e5⟩ := order_ok hc hN h1 h2 hx.2 ho
    obtain ⟨τ', e3, e4⟩ := morder_ok hc hN h1 hm.2
    rw [iZ_self] at e1 e3
    rw [e1, e3]
    exact ⟨_, σ', τ', rfl, rfl, e2, e5, e4⟩
  · rw [if_neg c, if_neg c]
    exact ⟨_, σ, τ, rfl, rfl, fr_refl _ _, ho, fr_refl _ _⟩
/-! round, walk, half -/
theorem round_l {N : Nat} (hc : CV a b M E) (hN : 10000 ≤ N) (w : Int32) : ∀ (j n i : Nat) (x y z : Int32) (σ τ : aSt), RX a b M E σ → OR a b M E σ → RM a b M E τ → i + j = (hL a b M E).length → j + 1 ≤ n → ∃ r σ' τ', f_X_round_l18 N n w x y z (iZ i) σ = some (r, σ') ∧ f_M_round_l19 N n w x y z (iZ i) τ = some (r, τ') ∧ fr fr2 σ σ' ∧ OR a b M E σ' ∧ fr fr23 τ τ' := by
  have hl := hL_le (a := a) (b := b) (M := M) (E := E)
  intro j
  induction j with
  | zero =>
    intro n i x y z σ τ hx ho hm hi hn
    obtain ⟨n, rfl, hn⟩ := fuel hn
    rw [f_X_round_l18, f_M_round_l19, shownZ hx.2, len_m hm.2, if_pos (stop (by omega)), if_pos (stop (by omega))]
    by_cases c0 : w ≠ 0
    · rw [if_pos c0, if_pos c0]
      by_cases c1 : w ≠ (1 : Int32)
      · rw [if_pos c1, if_pos c1]; exact ⟨_, σ, τ, rfl, rfl, fr_refl _ _, ho, fr_refl _ _⟩
      · rw [if_neg c1, if_neg c1]; exact ⟨_, σ, τ, rfl, rfl, fr_refl _ _, ho, fr_refl _ _⟩
    · rw [if_neg c0, if_neg c0]; exact ⟨_, σ, τ, rfl, rfl, fr_refl _ _, ho, fr_refl _ _⟩
  | succ j ih =>
    intro n i x y z σ τ hx ho hm hi hn
    obtain ⟨n, rfl, hn⟩ := fuel hn
    have hsi : scd a b M E (i : Int) := Or.inr (Or.inr ⟨by omega, by omega⟩)
    obtain ⟨σ1, e1, e2, e5⟩ := order_ok hc hN hsi (by omega) hx.2 ho
    obtain ⟨τ1, e3, e4⟩ := morder_ok hc hN hsi hm.2
    rw [f_X_round_l18, f_M_round_l19, shownZ hx.2, len_m hm.2, if_neg (ngo (by omega)), if_neg (ngo (by omega)), e1, e3, Option.bind_some, Option.bind_some, i1]
    have hx1 : RX a b M E σ1 := ⟨by rw [(e2 0 13 rfl).2.2]; exact hx.1, XC_2 e2 hx.2⟩
    have hm1 : RM a b M E τ1 := ⟨by rw [(e4 66 1 rfl).2.2]; exact hm.1, MC_fr e4 ok23 hm.2⟩
    have go : ∀ x y z, ∃ r σ' τ', f_X_round_l18 N n w x y z (iZ ((i + 1 : Nat) : Int)) σ1 = some (r, σ') ∧ f_M_round_l19 N n w x y z (iZ ((i + 1 : Nat) : Int)) τ1 = some (r, τ') ∧ fr fr2 σ σ' ∧ OR a b M E σ' ∧ fr fr23 τ τ' := fun x y z => by
      obtain ⟨r, σ', τ', g1, g2, g3, g4, g5⟩ := ih n (i + 1) x y z σ1 τ1 hx1 e5 hm1 (by omega) (by omega)
      exact ⟨r, σ', τ', g1, g2, fr_trans e2 g3, g4, fr_trans e4 g5⟩
    simp only [Int32.add_zero]
    generalize iZ (ordC a b M E (i : Int) : Int) = o
    by_cases c0 : o ≤ 0
    · rw [if_pos c0, if_pos c0]
      by_cases c1 : o ≠ (2 : Int32)
      · rw [if_pos c1, if_pos c1]; exact go _ _ _
      · rw [if_neg c1, if_neg c1]; exact go _ _ _
    · rw [if_neg c0, if_neg c0]
      by_cases c1 : o ≠ (2 : Int32)
      · rw [if_pos c1, if_pos c1]; exact go _ _ _
      · rw [if_neg c1, if_neg c1]; exact go _ _ _
theorem round_eq {N : Nat} (hc : CV a b M E) (hN : 10000 ≤ N) {σ τ : aSt} (hx : RX a b M E σ) (ho : OR a b M E σ) (hm : RM a b M E τ) (w : Int32) : ∃ r σ' τ', f_X_round N w σ = some (r, σ') ∧ f_M_round N w τ = some (r, τ') ∧ fr fr2 σ σ' ∧ OR a b M E σ' ∧ fr fr23 τ τ' := by
  have hl := hL_le (a := a) (b := b) (M := M) (E := E)
  unfold f_X_round f_M_round
  rw [hx.1, hm.1, if_pos (c := true = true) rfl, if_pos (c := true = true) rfl]
  simp only [jZ_lit, in_p (lo := 0) (hi := 2) (bd_lit _ rfl) (bd_lit _ rfl), ite_dec, iZ_lit 0, iZ_lit 2, pl_lt (y := 0) (bd_lit _ rfl), pl_le (y := 2) (bd_lit _ rfl)]
  by_cases c : 0 ≤ w.toInt ∧ w.toInt ≤ 2
  · rw [if_pos c, if_neg (by omega), if_pos c.2]
    exact round_l hc hN w _ N 0 _ _ _ σ τ hx ho hm (Nat.zero_add _) (by omega)
  · rw [if_neg c]
    by_cases c2 : w.toInt < 0
    · rw [if_pos c2]; exact ⟨_, σ, τ, rfl, rfl, fr_refl _ _, ho, fr_refl _ _⟩
    · rw [if_neg c2, if_neg (by omega)]; exact ⟨_, σ, τ, rfl, rfl, fr_refl _ _, ho, fr_refl _ _⟩
theorem walk_l {N : Nat} (hc : CV a b M E) (hN : 10000 ≤ N) {x : Int} (hx1 : scd a b M E x) : ∀ (j n k : Nat) (v : Int) (σ τ : aSt), XC a b M E σ → MC a b M E τ → scd a b M E v → k + j = 20 → j + 1 ≤ n → ∃ r σ' τ', f_X_walk_l10 N n (iZ x) (iZ v) (iZ k) σ = some (r, σ') ∧ f_M_walk_l10 N n (iZ x) (iZ v) (iZ ((k + 1 : Nat) : Int)) τ = some (r, τ') ∧ fr fr22 σ σ' ∧ fr fr23 τ τ' := by
  intro j
  induction j with
  | zero =>
    intro n k v σ τ hx hm hv hk hn
    obtain ⟨n, rfl, hn⟩ := fuel hn
    rw [f_X_walk_l10, f_M_walk_l10, if_pos (by rw [iZ_lit, iZ_le (bd_lit _ rfl) ⟨by omega, by omega⟩]; omega), if_pos (by rw [iZ_lit, iZ_lt (bd_lit _ rfl) ⟨by omega, by omega⟩]; omega)]
    exact ⟨_, σ, τ, rfl, rfl, fr_refl _ _, fr_refl _ _⟩
  | succ j ih =>
    intro n k v σ τ hx hm hv hk hn
    obtain ⟨n, rfl, hn⟩ := fuel hn
    obtain ⟨σ1, e1, e2⟩ := total_ok hc hN hx hv hx1
    obtain ⟨τ1, e3, e4⟩ := msum1 hc hN hm hv hx1
    rw [f_X_walk_l10, f_M_walk_l10, if_neg (by rw [iZ_lit, iZ_le (bd_lit _ rfl) ⟨by omega, by omega⟩]; omega), if_neg (by rw [iZ_lit, iZ_lt (bd_lit _ rfl) ⟨by omega, by omega⟩]; omega), e1, e3, Option.bind_some, Option.bind_some, i1, i1, show iZ ((k + 1 : Nat) : Int) - (1 : Int32) = iZ (k : Int) from by rw [iZ_lit, iZ_sub]; congr 1; omega]
    by_cases c0 : iZ (addC a b M E v x) = (-6 : Int32)
    · rw [if_pos c0, if_pos c0]; exact ⟨_, σ1, τ1, rfl, rfl, e2, e4⟩
    · rw [if_neg c0, if_neg c0]
      by_cases c1 : iZ (addC a b M E v x) ≠ (1000 : Int32)
      · rw [if_pos c1, if_pos c1]
        obtain ⟨r, σ', τ', g1, g2, g3, g4⟩ := ih n (k + 1) _ σ1 τ1 (XC_22 e2 hx) (MC_fr e4 ok23 hm) (addC_scd hc hv hx1) (by omega) (by omega)
        exact ⟨r, σ', τ', g1, g2, fr_trans e2 g3, fr_trans e4 g4⟩
      · rw [if_neg c1, if_neg c1]; exact ⟨_, σ1, τ1, rfl, rfl, e2, e4⟩
theorem walk_eq {N : Nat} (hc : CV a b M E) (hN : 10000 ≤ N) {σ τ : aSt} (hx : RX a b M E σ) (hm : RM a b M E τ) (p : Int32) : ∃ r σ' τ', f_X_walk N p σ = some (r, σ') ∧ f_M_walk N p τ = some (r, τ') ∧ fr fr22 σ σ' ∧ fr fr23 τ τ' := by
  unfold f_X_walk f_M_walk
  simp only [xPoint hx, mPoint hm, ite_dec]
  by_cases c : p.toInt = 1000 ∨ (0 ≤ p.toInt ∧ p.toInt < ((hL a b M E).length : Int))
  · rw [if_pos c, if_pos c]
    obtain ⟨h1, h2⟩ := pnt_scd (x := p.toInt) c
    have := walk_l hc hN h1 20 N 0 1000 σ τ hx.2 hm.2 (Or.inl rfl) (by omega) (by omega)
    rw [iZ_self] at this
    exact this
  · rw [if_neg c, if_neg c]
    exact ⟨_, σ, τ, rfl, rfl, fr_refl _ _, fr_refl _ _⟩
theorem half_l {N : Nat} (hc : CV a b M E) (hN : 10000 ≤ N) (x k : Int32) : ∀ (j n i : Nat) (s : Int32) (σ τ : aSt), XC a b M E σ → MC a b M E τ → i + j = (hL a b M E).length → j + 1 ≤ n → ∃ r σ' τ', f_X_half_l12 N n x k s (iZ i) σ = some (r, σ') ∧ f_M_half_l12 N n x k s (iZ i) τ = some (r, τ') ∧ fr fr22 σ σ' ∧ fr fr23 τ τ' := by
  have hl := hL_le (a := a) (b := b) (M := M) (E := E)
  intro j
  induction j with
  | zero =>
    intro n i s σ τ hx hm hi hn
    obtain ⟨n, rfl, hn⟩ := fuel hn
    rw [f_X_half_l12, f_M_half_l12, shownZ hx, len_m hm, if_pos (stop (by omega)), if_pos (stop (by omega))]
    exact ⟨_, σ, τ, rfl, rfl, fr_refl _ _, fr_refl _ _⟩
  | succ j ih =>
    intro n i s σ τ hx hm hi hn
    obtain ⟨n, rfl, hn⟩ := fuel hn
    have hsi : scd a b M E (i : Int) := Or.inr (Or.inr ⟨by omega, by omega⟩)
    obtain ⟨σ1, e1, e2⟩ := total_ok hc hN hx hsi hsi
    obtain ⟨τ1, e3, e4⟩ := msum1 hc hN hm hsi hsi
    rw [f_X_half_l12, f_M_half_l12, shownZ hx, len_m hm, if_neg (ngo (by omega)), if_neg (ngo (by omega)), e1, e3, Option.bind_some, Option.bind_some, i1]
    have go : ∀ s, ∃ r σ' τ', f_X_half_l12 N n x k s (iZ ((i + 1 : Nat) : Int)) σ1 = some (r, σ') ∧ f_M_half_l12 N n x k s (iZ ((i + 1 : Nat) : Int)) τ1 = some (r, τ') ∧ fr fr22 σ σ' ∧ fr fr23 τ τ' := fun s => by
      obtain ⟨r, σ', τ', g1, g2, g3, g4⟩ := ih n (i + 1) s σ1 τ1 (XC_22 e2 hx) (MC_fr e4 ok23 hm) (by omega) (by omega)
      exact ⟨r, σ', τ', g1, g2, fr_trans e2 g3, fr_trans e4 g4⟩
    by_cases c0 : iZ (addC a b M E (i : Int) (i : Int)) = x
    · rw [if_pos c0, if_pos c0]
      by_cases c1 : s ≠ k
      · rw [if_pos c1, if_pos c1]; exact go _
      · rw [if_neg c1, if_neg c1]; exact ⟨_, σ1, τ1, rfl, rfl, e2, e4⟩
    · rw [if_neg c0, if_neg c0]; exact go _
theorem half_eq {N : Nat} (hc : CV a b M E) (hN : 10000 ≤ N) {σ τ : aSt} (hx : RX a b M E σ) (hm : RM a b M E τ) (p k : Int32) : ∃ r σ' τ', f_X_half N p k σ = some (r, σ') ∧ f_M_half N p k τ = some (r, τ') ∧ fr fr22 σ σ' ∧ fr fr23 τ τ' := by
  have hl := hL_le (a := a) (b := b) (M := M) (E := E)
  unfold f_X_half f_M_half
  simp only [xPoint hx, mPoint hm, ite_dec]
  by_cases c : p.toInt = 1000 ∨ (0 ≤ p.toInt ∧ p.toInt < ((hL a b M E).length : Int))
  · rw [if_pos c, if_pos c]
    by_cases c2 : 0 ≤ k
    · rw [if_pos c2, if_pos c2]
      exact half_l hc hN p k _ N 0 _ σ τ hx.2 hm.2 (Nat.zero_add _) (by omega)
    · rw [if_neg c2, if_neg c2]
      exact ⟨_, σ, τ, rfl, rfl, fr_refl _ _, fr_refl _ _⟩
  · rw [if_neg c, if_neg c]
    exact ⟨_, σ, τ, rfl, rfl, fr_refl _ _, fr_refl _ _⟩
end OPS
