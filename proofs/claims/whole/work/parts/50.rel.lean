/-! related, solves: the searches -/
section OPS
variable {a b : Int} {M E : Nat}
theorem ffL16 (hc : CV a b M E) {N : Nat} (hN : 10000 ≤ N) {x y g : Int} (hx1 : scd a b M E x) (hy1 : scd a b M E y) (hg : bd 2000 g) (k47 : Int32 → Int32 → aSt → Option (Bool × aSt)) {z : Int} (hz : 0 ≤ z ∧ z ≤ 10) : ∀ (j n : Nat) (s : Int) (σ : aSt), XC a b M E σ → OR a b M E σ → TM a b M E x y σ 6 → s + j = 6 → -5 ≤ s → j + 1 ≤ n → ∃ σ', fr frT σ σ' ∧ OR a b M E σ' ∧ TM a b M E x y σ' 6 ∧ (f_Sums_findFactors_l16 N k47 n (iZ g) (iZ z) (iZ s) σ = match scanS (hitF a b M E x y g) z j s with
      | none => k47 (iZ g) (iZ z) σ'
      | some _ => some (true, σ')) ∧ ∀ st, scanS (hitF a b M E x y g) z j s = some st → σ'.1 21 6 = iZ st.1 ∧ σ'.1 21 7 = iZ st.2 := by
  intro j
  induction j with
  | zero =>
    intro n s σ hx ho ht hs hs5 hn
    obtain ⟨n, rfl, hn⟩ := fuel hn
    have : s = 6 := by omega
    subst this
    refine ⟨σ, fr_refl _ _, ho, ht, ?_, fun st h => by cases h⟩
    rw [f_Sums_findFactors_l16, if_pos (by decide)]
    rfl
  | succ j ih =>
    intro n s σ hx ho ht hs hs5 hn
    obtain ⟨n, rfl, hn⟩ := fuel hn
    have hsb : bd 5 s := ⟨by omega, by omega⟩
    rw [f_Sums_findFactors_l16, if_neg (by rw [iZ_lit, iZ_lt (bd_lit _ rfl) ⟨by omega, by omega⟩]; omega), iabs_Z ⟨by omega, by omega⟩, iZ_sub, iZ_neg, show iZ s + (1 : Int32) = iZ (s + 1) from by rw [iZ_lit, iZ_add], scanS]
    obtain ⟨d, hd⟩ : ∃ d, d = z - (s.natAbs : Int) := ⟨_, rfl⟩
    rw [← hd]
    have l0 : (iZ d < (0 : Int32)) = (d < 0) := iZ_lt ⟨by omega, by omega⟩ (bd_lit 0 rfl)
    have l5 : (iZ d ≤ (5 : Int32)) = (d ≤ 5) := iZ_le ⟨by omega, by omega⟩ (bd_lit 5 rfl)
    simp only [l0, l5]
    by_cases c1 : d < 0
    · have hpk : pkD (hitF a b M E x y g) s d = none := if_pos (Or.inl c1)
      rw [hpk, if_pos c1]
      exact ih n (s + 1) σ hx ho ht (by omega) (by omega) (by omega)
    · rw [if_neg c1]
      by_cases c2 : d ≤ 5
      · rw [if_pos c2]
        have c3 : ¬ (d < 0 ∨ 5 < d) := by omega
        obtain ⟨σ1, g1, g2, g3, g4, g5, g6⟩ := reaches_ok hc hN hx1 hy1 hg hsb (t := -d) ⟨by omega, by omega⟩ hx ho ht
        rw [g1, Option.bind_some]
        simp only
        by_cases h1 : hitF a b M E x y g s (-d) = true
        · have hpk : pkD (hitF a b M E x y g) s d = some (s, -d) := by unfold pkD; rw [if_neg c3, if_pos h1]
          rw [hpk, if_pos h1]
          exact ⟨σ1, g2, g3, g4, rfl, fun st h => by cases h; exact ⟨g5, g6⟩⟩
        · rw [if_neg h1]
          obtain ⟨σ2, e1, e2, e3, e4, e5, e6⟩ := reaches_ok hc hN hx1 hy1 hg hsb (t := d) ⟨by omega, by omega⟩ (XC_T g2 hx) g3 g4
          rw [e1, Option.bind_some]
          simp only
          by_cases h2 : hitF a b M E x y g s d = true
          · have hpk : pkD (hitF a b M E x y g) s d = some (s, d) := by unfold pkD; rw [if_neg c3, if_neg h1, if_pos h2]
            rw [hpk, if_pos h2]
            exact ⟨σ2, fr_trans g2 e2, e3, e4, rfl, fun st h => by cases h; exact ⟨e5, e6⟩⟩
          · have hpk : pkD (hitF a b M E x y g) s d = none := by unfold pkD; rw [if_neg c3, if_neg h1, if_neg h2]
            rw [hpk, if_neg h2]
            obtain ⟨σ', q1, q2, q3, q4, q5⟩ := ih n (s + 1) σ2 (XC_T (fr_trans g2 e2) hx) e3 e4 (by omega) (by omega) (by omega)
            exact ⟨σ', fr_trans (fr_trans g2 e2) q1, q2, q3, q4, q5⟩
      · have hpk : pkD (hitF a b M E x y g) s d = none := if_pos (by omega)
        rw [hpk, if_neg c2]
        exact ih n (s + 1) σ hx ho ht (by omega) (by omega) (by omega)
theorem ffL11 (hc : CV a b M E) {N : Nat} (hN : 10000 ≤ N) {x y g : Int} (hx1 : scd a b M E x) (hy1 : scd a b M E y) (hg : bd 2000 g) : ∀ (j n : Nat) (z : Int) (σ : aSt), XC a b M E σ → OR a b M E σ → TM a b M E x y σ 6 → z + j = 11 → 0 ≤ z → j + 1 ≤ n → ∃ σ', fr frT σ σ' ∧ OR a b M E σ' ∧ (f_Sums_findFactors_l11 N n (iZ g) (iZ z) σ = match scanG (hitF a b M E x y g) j z with
      | none => some (false, σ')
      | some _ => some (true, σ')) ∧ ∀ st, scanG (hitF a b M E x y g) j z = some st → σ'.1 21 6 = iZ st.1 ∧ σ'.1 21 7 = iZ st.2 := by
  intro j
  induction j with
  | zero =>
    intro n z σ hx ho ht hz hz0 hn
    obtain ⟨n, rfl, hn⟩ := fuel hn
    have : z = 11 := by omega
    subst this
    refine ⟨σ, fr_refl _ _, ho, ?_, fun st h => by cases h⟩
    rw [f_Sums_findFactors_l11, if_pos (by decide)]
    rfl
  | succ j ih =>
    intro n z σ hx ho ht hz hz0 hn
    obtain ⟨n, rfl, hn⟩ := fuel hn
    rw [f_Sums_findFactors_l11, if_neg (by rw [iZ_lit, iZ_lt (bd_lit _ rfl) ⟨by omega, by omega⟩]; omega), scanG, show (-5 : Int32) = iZ (-5) from by decide]
    obtain ⟨σ1, g1, g2, g3, g4, g5⟩ := ffL16 hc hN hx1 hy1 hg (fun (y11 : Int32) (y12 : Int32) σ13 => f_Sums_findFactors_l11 N n y11 (y12 + (1 : Int32)) σ13) (z := z) ⟨hz0, by omega⟩ 11 N (-5) σ hx ho ht (by omega) (by omega) (by omega)
    rw [g4]
    cases hsc : scanS (hitF a b M E x y g) z 11 (-5) with
    | some st =>
      exact ⟨σ1, g1, g2, rfl, fun st' h => by cases h; exact g5 st hsc⟩
    | none =>
      simp only
      rw [show iZ z + (1 : Int32) = iZ (z + 1) from by rw [iZ_lit, iZ_add]]
      obtain ⟨σ', q1, q2, q3, q4⟩ := ih n (z + 1) σ1 (XC_T g1 hx) g2 g3 (by omega) (by omega) (by omega)
      exact ⟨σ', fr_trans g1 q1, q2, q3, q4⟩
/-- the class's search -/
theorem ff_ok (hc : CV a b M E) {N : Nat} (hN : 10000 ≤ N) {x y g : Int} (hx1 : scd a b M E x) (hy1 : scd a b M E y) (hg : bd 2000 g) {σ : aSt} (hx : XC a b M E σ) (ho : OR a b M E σ) {j0 : Nat} {z0 : Int} (hz : (g = -1 ∧ j0 = 10 ∧ z0 = 1) ∨ (g ≠ -1 ∧ j0 = 11 ∧ z0 = 0)) : ∃ σ', fr frT σ σ' ∧ OR a b M E σ' ∧ (f_Sums_findFactors N (iZ x) (iZ y) (iZ g) σ = match scanG (hitF a b M E x y g) j0 z0 with
      | none => some (false, σ')
      | some _ => some (true, σ')) ∧ ∀ st, scanG (hitF a b M E x y g) j0 z0 = some st → σ'.1 21 6 = iZ st.1 ∧ σ'.1 21 7 = iZ st.2 := by
  unfold f_Sums_findFactors f_Sums_fillTimes f_Sums_findFactors_b10
  obtain ⟨σ1, g1, g2, g3, g4⟩ := fillL hc hN hx1 hy1 11 N (-5) σ hx ho (by omega) (by omega) (by omega) (fun k h1 h2 => by omega)
  have e5 : (-5 : Int32) = iZ (-5) := by decide
  have e1 : (-1 : Int32) = iZ (-1) := by decide
  rw [e5, g1, Option.bind_some, e1]
  rcases hz with ⟨c, rfl, rfl⟩ | ⟨c, rfl, rfl⟩
  · obtain ⟨σ', q1, q2, q3, q4⟩ := ffL11 hc hN hx1 hy1 hg 10 N 1 σ1 (XC_T g2 hx) g3 g4 (by omega) (by omega) (by omega)
    refine ⟨σ', fr_trans g2 q1, q2, ?_, q4⟩
    rw [if_neg (by rw [c]; exact fun h => h rfl)]
    exact q3
  · obtain ⟨σ', q1, q2, q3, q4⟩ := ffL11 hc hN hx1 hy1 hg 11 N 0 σ1 (XC_T g2 hx) g3 g4 (by omega) (by omega) (by omega)
    refine ⟨σ', fr_trans g2 q1, q2, ?_, q4⟩
    rw [if_pos (by rw [ne_eq, iZ_eq (bd_mono hg (by decide)) (bd_lit _ rfl)]; exact c)]
    exact q3
/-! the reference's -/
theorem far_l (z : Int) : addC a b M E (-6) z = -6 := if_pos rfl
theorem far_r (z : Int) : addC a b M E z (-6) = -6 := by
  unfold addC
  by_cases c : z = -6
  · rw [if_pos c]
  · rw [if_neg c, if_pos rfl]
theorem ordC_lt (v : Int) : ordC a b M E v < 2147483648 := by
  have h12 : ∀ (n : Nat) (x w : Int) (k : Nat), ordA a b M E x n w k ≤ k + n := by
    intro n
    induction n with
    | zero => intro x w k; exact Nat.zero_le _
    | succ n ihn =>
      intro x w k
      rw [ordA]
      by_cases q1 : addC a b M E w x = 1000
      · rw [if_pos q1]; omega
      · rw [if_neg q1]
        by_cases q2 : addC a b M E w x = -6
        · rw [if_pos q2]; omega
        · rw [if_neg q2]
          have := ihn x (addC a b M E w x) (k + 1)
          omega
  have := h12 12 v 1000 1
  unfold ordC
  omega
theorem isRel_ok (hc : CV a b M E) {N : Nat} (hN : 10000 ≤ N) {x y : Int} (hx1 : scd a b M E x) (hy1 : scd a b M E y) {s t : Int} (hs : bd 5 s) (ht : bd 5 t) {τ : aSt} (hm : MC a b M E τ) : ∃ τ', f_M_isRelated N (iZ x) (iZ y) (iZ s) (iZ t) τ = some (hitF a b M E x y (-1) s t, τ') ∧ fr fr23 τ τ' := by
  unfold f_M_isRelated
  obtain ⟨τ1, g1, g2⟩ := mtimes_ok hc hN hx1 (k := s) (bd_mono hs (by decide)) hm
  have hm1 := MC_fr g2 ok23 hm
  obtain ⟨τ2, g3, g4⟩ := mtimes_ok hc hN hy1 (k := t) (bd_mono ht (by decide)) hm1
  have hm2 := MC_fr g4 ok23 hm1
  have s1 := timC_scd hc hx1 s
  have s2 := timC_scd hc hy1 t
  rw [g1, Option.bind_some, g3, Option.bind_some, min_6]
  unfold hitF
  rw [if_pos rfl]
  simp only
  by_cases c1 : timC a b M E x s = -6
  · rw [if_pos (by rw [c1]), c1, far_l, decide_eq_false (fun h => h.1 rfl)]
    exact ⟨τ2, rfl, fr_trans g2 g4⟩
  · rw [if_neg (by rw [iZ_eq (bd_mono (scd_bd s1) (by decide)) (bd_lit _ rfl)]; exact c1)]
    by_cases c2 : timC a b M E y t = -6
    · rw [if_pos (by rw [c2]), c2, far_r, decide_eq_false (fun h => h.1 rfl)]
      exact ⟨τ2, rfl, fr_trans g2 g4⟩
    · rw [if_neg (by rw [iZ_eq (bd_mono (scd_bd s2) (by decide)) (bd_lit _ rfl)]; exact c2)]
      obtain ⟨τ3, g5, g6⟩ := msum1 hc hN hm2 s1 s2
      have hm3 := MC_fr g6 ok23 hm2
      have hsc := addC_scd hc s1 s2
      rw [g5, Option.bind_some]
      unfold f_M_isRound
      rw [min_6]
      simp only
      by_cases c3 : addC a b M E (timC a b M E x s) (timC a b M E y t) = -6
      · rw [if_pos (by rw [c3]), Option.bind_some, decide_eq_false (fun h => h.1 c3)]
        exact ⟨τ3, rfl, fr_trans (fr_trans g2 g4) g6⟩
      · rw [if_neg (by rw [iZ_eq (bd_mono (scd_bd hsc) (by decide)) (bd_lit _ rfl)]; exact c3)]
        obtain ⟨τ4, g7, g8⟩ := morder_ok hc hN hsc hm3
        have hob := ordC_lt (a := a) (b := b) (M := M) (E := E) (addC a b M E (timC a b M E x s) (timC a b M E y t))
        rw [g7, Option.bind_some]
        simp only
        by_cases c0 : 0 < ordC a b M E (addC a b M E (timC a b M E x s) (timC a b M E y t))
        · rw [if_neg (by rw [iZ_lit, iZ_le ⟨by omega, by omega⟩ (bd_lit _ rfl)]; omega), decide_eq_true ⟨c3, c0⟩]
          exact ⟨τ4, rfl, fr_trans (fr_trans (fr_trans g2 g4) g6) g8⟩
        · rw [if_pos (by rw [iZ_lit, iZ_le ⟨by omega, by omega⟩ (bd_lit _ rfl)]; omega), decide_eq_false (fun h => c0 h.2)]
          exact ⟨τ4, rfl, fr_trans (fr_trans (fr_trans g2 g4) g6) g8⟩
theorem isSol_ok (hc : CV a b M E) {N : Nat} (hN : 10000 ≤ N) {x y g : Int} (hx1 : scd a b M E x) (hy1 : scd a b M E y) (hg : bd 2000 g) (hg1 : g ≠ -1) (hg6 : g ≠ -6) {s t : Int} (hs : bd 5 s) (ht : bd 5 t) {τ : aSt} (hm : MC a b M E τ) : ∃ τ', f_M_isSolved N (iZ x) (iZ y) (iZ g) (iZ s) (iZ t) τ = some (hitF a b M E x y g s t, τ') ∧ fr fr23 τ τ' := by
  unfold f_M_isSolved
  obtain ⟨τ1, g1, g2⟩ := mtimes_ok hc hN hx1 (k := s) (bd_mono hs (by decide)) hm
  have hm1 := MC_fr g2 ok23 hm
  obtain ⟨τ2, g3, g4⟩ := mtimes_ok hc hN hy1 (k := t) (bd_mono ht (by decide)) hm1
  have hm2 := MC_fr g4 ok23 hm1
  have s1 := timC_scd hc hx1 s
  have s2 := timC_scd hc hy1 t
  rw [g1, Option.bind_some, g3, Option.bind_some, min_6]
  unfold hitF
  rw [if_neg hg1]
  simp only
  by_cases c1 : timC a b M E x s = -6
  · rw [if_pos (by rw [c1]), c1, far_l, decide_eq_false (fun h => hg6 h.symm)]
    exact ⟨τ2, rfl, fr_trans g2 g4⟩
  · rw [if_neg (by rw [iZ_eq (bd_mono (scd_bd s1) (by decide)) (bd_lit _ rfl)]; exact c1)]
    by_cases c2 : timC a b M E y t = -6
    · rw [if_pos (by rw [c2]), c2, far_r, decide_eq_false (fun h => hg6 h.symm)]
      exact ⟨τ2, rfl, fr_trans g2 g4⟩
    · rw [if_neg (by rw [iZ_eq (bd_mono (scd_bd s2) (by decide)) (bd_lit _ rfl)]; exact c2)]
      obtain ⟨τ3, g5, g6⟩ := msum1 hc hN hm2 s1 s2
      have hsc := addC_scd hc s1 s2
      rw [g5, Option.bind_some]
      simp only
      by_cases cv : addC a b M E (timC a b M E x s) (timC a b M E y t) = g
      · rw [if_neg (by rw [cv]; exact fun h => h rfl), decide_eq_true cv]
        exact ⟨τ3, rfl, fr_trans (fr_trans g2 g4) g6⟩
      · rw [if_pos (by rw [ne_eq, iZ_eq (bd_mono (scd_bd hsc) (by decide)) (bd_mono hg (by decide))]; exact cv), decide_eq_false cv]
        exact ⟨τ3, rfl, fr_trans (fr_trans g2 g4) g6⟩
/-- what is told of the two -/
def tellW (w : Int32) (st : Int × Int) : Int64 := if w ≠ 0 then jZ st.2 else jZ st.1

theorem mrel28 (hc : CV a b M E) {N : Nat} (hN : 10000 ≤ N) {x y : Int} (hx1 : scd a b M E x) (hy1 : scd a b M E y) (k56 : Int32 → Int32 → Int32 → Int32 → Int32 → aSt → Option (Int64 × aSt)) (w : Int32) {z s : Int} (hz : 0 ≤ z ∧ z ≤ 10) (hs : bd 5 s) : ∀ (j n : Nat) (t : Int) (τ : aSt), MC a b M E τ → t + j = 6 → -5 ≤ t → j + 1 ≤ n → ∃ τ', fr fr23 τ τ' ∧ (f_M_related_l28 N k56 n (iZ x) (iZ y) w (iZ z) (iZ s) (iZ t) τ = match scanD (hitF a b M E x y (-1)) s (z - s.natAbs) j t with
      | none => k56 (iZ x) (iZ y) w (iZ z) (iZ s) τ'
      | some st => some (tellW w st, τ')) := by
  have s1 := hs.1; have s2 := hs.2
  intro j
  induction j with
  | zero =>
    intro n t τ hm ht ht5 hn
    obtain ⟨n, rfl, hn⟩ := fuel hn
    have : t = 6 := by omega
    subst this
    refine ⟨τ, fr_refl _ _, ?_⟩
    rw [f_M_related_l28, if_pos (by decide)]
    rfl
  | succ j ih =>
    intro n t τ hm ht ht5 hn
    obtain ⟨n, rfl, hn⟩ := fuel hn
    rw [f_M_related_l28, if_neg (by rw [iZ_lit, iZ_lt (bd_lit _ rfl) ⟨by omega, by omega⟩]; omega), iabs_Z ⟨by omega, by omega⟩, iabs_Z ⟨by omega, by omega⟩, iZ_add, show iZ t + (1 : Int32) = iZ (t + 1) from by rw [iZ_lit, iZ_add], scanD]
    by_cases c : (t.natAbs : Int) = z - s.natAbs
    · have cc : ¬ (iZ ((s.natAbs : Int) + (t.natAbs : Int)) ≠ iZ z) := by rw [ne_eq, iZ_eq ⟨by omega, by omega⟩ ⟨by omega, by omega⟩]; omega
      rw [if_neg cc, if_pos c]
      obtain ⟨τ1, g1, g2⟩ := isRel_ok hc hN hx1 hy1 hs (t := t) ⟨by omega, by omega⟩ hm
      rw [g1, Option.bind_some]
      by_cases h1 : hitF a b M E x y (-1) s t = true
      · rw [if_pos h1, if_pos h1, i2j (z := t) ⟨by omega, by omega⟩, i2j (z := s) ⟨by omega, by omega⟩]
        refine ⟨τ1, g2, ?_⟩
        unfold tellW
        by_cases cw : w ≠ 0
        · simp only [if_pos cw]
        · simp only [if_neg cw]
      · rw [if_neg h1, if_neg h1]
        obtain ⟨τ', q1, q2⟩ := ih n (t + 1) τ1 (MC_fr g2 ok23 hm) (by omega) (by omega) (by omega)
        exact ⟨τ', fr_trans g2 q1, q2⟩
    · have cc : iZ ((s.natAbs : Int) + (t.natAbs : Int)) ≠ iZ z := by rw [ne_eq, iZ_eq ⟨by omega, by omega⟩ ⟨by omega, by omega⟩]; omega
      rw [if_pos cc, if_neg c]
      exact ih n (t + 1) τ hm (by omega) (by omega) (by omega)
theorem mrel23 (hc : CV a b M E) {N : Nat} (hN : 10000 ≤ N) {x y : Int} (hx1 : scd a b M E x) (hy1 : scd a b M E y) (k58 : Int32 → Int32 → Int32 → Int32 → aSt → Option (Int64 × aSt)) (w : Int32) {z : Int} (hz : 0 ≤ z ∧ z ≤ 10) : ∀ (j n : Nat) (s : Int) (τ : aSt), MC a b M E τ → s + j = 6 → -5 ≤ s → j + 1 ≤ n → ∃ τ', fr fr23 τ τ' ∧ (f_M_related_l23 N k58 n (iZ x) (iZ y) w (iZ z) (iZ s) τ = match scanS (hitF a b M E x y (-1)) z j s with
      | none => k58 (iZ x) (iZ y) w (iZ z) τ'
      | some st => some (tellW w st, τ')) := by
  intro j
  induction j with
  | zero =>
    intro n s τ hm hs hs5 hn
    obtain ⟨n, rfl, hn⟩ := fuel hn
    have : s = 6 := by omega
    subst this
    refine ⟨τ, fr_refl _ _, ?_⟩
    rw [f_M_related_l23, if_pos (by decide)]
    rfl
  | succ j ih =>
    intro n s τ hm hs hs5 hn
    obtain ⟨n, rfl, hn⟩ := fuel hn
    rw [f_M_related_l23, if_neg (by rw [iZ_lit, iZ_lt (bd_lit _ rfl) ⟨by omega, by omega⟩]; omega), scanS, ← scan_pk, show (-5 : Int32) = iZ (-5) from by decide]
    obtain ⟨τ1, g1, g2⟩ := mrel28 hc hN hx1 hy1 (fun (y11 : Int32) (y12 : Int32) (y13 : Int32) (y14 : Int32) (y15 : Int32) σ16 => f_M_related_l23 N k58 n y11 y12 y13 y14 (y15 + (1 : Int32)) σ16) w (z := z) (s := s) hz ⟨by omega, by omega⟩ 11 N (-5) τ hm (by omega) (by omega) (by omega)
    cases hsc : scanD (hitF a b M E x y (-1)) s (z - s.natAbs) 11 (-5) with
    | some st =>
      exact ⟨τ1, g1, by rw [g2, hsc]⟩
    | none =>
      rw [g2, hsc]
      simp only
      rw [show iZ s + (1 : Int32) = iZ (s + 1) from by rw [iZ_lit, iZ_add]]
      obtain ⟨τ', q1, q2⟩ := ih n (s + 1) τ1 (MC_fr g1 ok23 hm) (by omega) (by omega) (by omega)
      exact ⟨τ', fr_trans g1 q1, q2⟩
theorem mrel18 (hc : CV a b M E) {N : Nat} (hN : 10000 ≤ N) {x y : Int} (hx1 : scd a b M E x) (hy1 : scd a b M E y) (w : Int32) : ∀ (j n : Nat) (z : Int) (τ : aSt), MC a b M E τ → z + j = 11 → 0 ≤ z → j + 1 ≤ n → ∃ τ', fr fr23 τ τ' ∧ (f_M_related_l18 N n (iZ x) (iZ y) w (iZ z) τ = match scanG (hitF a b M E x y (-1)) j z with
      | none => some (jZ NO, τ')
      | some st => some (tellW w st, τ')) := by
  intro j
  induction j with
  | zero =>
    intro n z τ hm hz hz0 hn
    obtain ⟨n, rfl, hn⟩ := fuel hn
    have : z = 11 := by omega
    subst this
    refine ⟨τ, fr_refl _ _, ?_⟩
    rw [f_M_related_l18, if_pos (by decide), NO_j]
    rfl
  | succ j ih =>
    intro n z τ hm hz hz0 hn
    obtain ⟨n, rfl, hn⟩ := fuel hn
    rw [f_M_related_l18, if_neg (by rw [iZ_lit, iZ_lt (bd_lit _ rfl) ⟨by omega, by omega⟩]; omega), scanG, show (-5 : Int32) = iZ (-5) from by decide]
    obtain ⟨τ1, g1, g2⟩ := mrel23 hc hN hx1 hy1 (fun (y17 : Int32) (y18 : Int32) (y19 : Int32) (y20 : Int32) σ21 => f_M_related_l18 N n y17 y18 y19 (y20 + (1 : Int32)) σ21) w (z := z) ⟨hz0, by omega⟩ 11 N (-5) τ hm (by omega) (by omega) (by omega)
    cases hsc : scanS (hitF a b M E x y (-1)) z 11 (-5) with
    | some st =>
      exact ⟨τ1, g1, by rw [g2, hsc]⟩
    | none =>
      rw [g2, hsc]
      simp only
      rw [show iZ z + (1 : Int32) = iZ (z + 1) from by rw [iZ_lit, iZ_add]]
      obtain ⟨τ', q1, q2⟩ := ih n (z + 1) τ1 (MC_fr g1 ok23 hm) (by omega) (by omega) (by omega)
      exact ⟨τ', fr_trans g1 q1, q2⟩

theorem msol32 (hc : CV a b M E) {N : Nat} (hN : 10000 ≤ N) {x y g : Int} (hx1 : scd a b M E x) (hy1 : scd a b M E y) (hg : bd 2000 g) (hg1 : g ≠ -1) (hg6 : g ≠ -6) (k56 : Int32 → Int32 → Int32 → Int32 → Int32 → Int32 → aSt → Option (Int64 × aSt)) (w : Int32) {z s : Int} (hz : 0 ≤ z ∧ z ≤ 10) (hs : bd 5 s) : ∀ (j n : Nat) (t : Int) (τ : aSt), MC a b M E τ → t + j = 6 → -5 ≤ t → j + 1 ≤ n → ∃ τ', fr fr23 τ τ' ∧ (f_M_solves_l32 N k56 n (iZ x) (iZ y) (iZ g) w (iZ z) (iZ s) (iZ t) τ = match scanD (hitF a b M E x y g) s (z - s.natAbs) j t with
      | none => k56 (iZ x) (iZ y) (iZ g) w (iZ z) (iZ s) τ'
      | some st => some (tellW w st, τ')) := by
  have s1 := hs.1; have s2 := hs.2
  intro j
  induction j with
  | zero =>
    intro n t τ hm ht ht5 hn
    obtain ⟨n, rfl, hn⟩ := fuel hn
    have : t = 6 := by omega
    subst this
    refine ⟨τ, fr_refl _ _, ?_⟩
    rw [f_M_solves_l32, if_pos (by decide)]
    rfl
  | succ j ih =>
    intro n t τ hm ht ht5 hn
    obtain ⟨n, rfl, hn⟩ := fuel hn
    rw [f_M_solves_l32, if_neg (by rw [iZ_lit, iZ_lt (bd_lit _ rfl) ⟨by omega, by omega⟩]; omega), iabs_Z ⟨by omega, by omega⟩, iabs_Z ⟨by omega, by omega⟩, iZ_add, show iZ t + (1 : Int32) = iZ (t + 1) from by rw [iZ_lit, iZ_add], scanD]
    by_cases c : (t.natAbs : Int) = z - s.natAbs
    · have cc : ¬ (iZ ((s.natAbs : Int) + (t.natAbs : Int)) ≠ iZ z) := by rw [ne_eq, iZ_eq ⟨by omega, by omega⟩ ⟨by omega, by omega⟩]; omega
      rw [if_neg cc, if_pos c]
      obtain ⟨τ1, g1, g2⟩ := isSol_ok hc hN hx1 hy1 hg hg1 hg6 hs (t := t) ⟨by omega, by omega⟩ hm
      rw [g1, Option.bind_some]
      by_cases h1 : hitF a b M E x y g s t = true
      · rw [if_pos h1, if_pos h1, i2j (z := t) ⟨by omega, by omega⟩, i2j (z := s) ⟨by omega, by omega⟩]
        refine ⟨τ1, g2, ?_⟩
        unfold tellW
        by_cases cw : w ≠ 0
        · simp only [if_pos cw]
        · simp only [if_neg cw]
      · rw [if_neg h1, if_neg h1]
        obtain ⟨τ', q1, q2⟩ := ih n (t + 1) τ1 (MC_fr g2 ok23 hm) (by omega) (by omega) (by omega)
        exact ⟨τ', fr_trans g2 q1, q2⟩
    · have cc : iZ ((s.natAbs : Int) + (t.natAbs : Int)) ≠ iZ z := by rw [ne_eq, iZ_eq ⟨by omega, by omega⟩ ⟨by omega, by omega⟩]; omega
      rw [if_pos cc, if_neg c]
      exact ih n (t + 1) τ hm (by omega) (by omega) (by omega)
theorem msol27 (hc : CV a b M E) {N : Nat} (hN : 10000 ≤ N) {x y g : Int} (hx1 : scd a b M E x) (hy1 : scd a b M E y) (hg : bd 2000 g) (hg1 : g ≠ -1) (hg6 : g ≠ -6) (k58 : Int32 → Int32 → Int32 → Int32 → Int32 → aSt → Option (Int64 × aSt)) (w : Int32) {z : Int} (hz : 0 ≤ z ∧ z ≤ 10) : ∀ (j n : Nat) (s : Int) (τ : aSt), MC a b M E τ → s + j = 6 → -5 ≤ s → j + 1 ≤ n → ∃ τ', fr fr23 τ τ' ∧ (f_M_solves_l27 N k58 n (iZ x) (iZ y) (iZ g) w (iZ z) (iZ s) τ = match scanS (hitF a b M E x y g) z j s with
      | none => k58 (iZ x) (iZ y) (iZ g) w (iZ z) τ'
      | some st => some (tellW w st, τ')) := by
  intro j
  induction j with
  | zero =>
    intro n s τ hm hs hs5 hn
    obtain ⟨n, rfl, hn⟩ := fuel hn
    have : s = 6 := by omega
    subst this
    refine ⟨τ, fr_refl _ _, ?_⟩
    rw [f_M_solves_l27, if_pos (by decide)]
    rfl
  | succ j ih =>
    intro n s τ hm hs hs5 hn
    obtain ⟨n, rfl, hn⟩ := fuel hn
    rw [f_M_solves_l27, if_neg (by rw [iZ_lit, iZ_lt (bd_lit _ rfl) ⟨by omega, by omega⟩]; omega), scanS, ← scan_pk, show (-5 : Int32) = iZ (-5) from by decide]
    obtain ⟨τ1, g1, g2⟩ := msol32 hc hN hx1 hy1 hg hg1 hg6 (fun (y12 : Int32) (y13 : Int32) (y14 : Int32) (y15 : Int32) (y16 : Int32) (y17 : Int32) σ18 => f_M_solves_l27 N k58 n y12 y13 y14 y15 y16 (y17 + (1 : Int32)) σ18) w (z := z) (s := s) hz ⟨by omega, by omega⟩ 11 N (-5) τ hm (by omega) (by omega) (by omega)
    cases hsc : scanD (hitF a b M E x y g) s (z - s.natAbs) 11 (-5) with
    | some st =>
      exact ⟨τ1, g1, by rw [g2, hsc]⟩
    | none =>
      rw [g2, hsc]
      simp only
      rw [show iZ s + (1 : Int32) = iZ (s + 1) from by rw [iZ_lit, iZ_add]]
      obtain ⟨τ', q1, q2⟩ := ih n (s + 1) τ1 (MC_fr g1 ok23 hm) (by omega) (by omega) (by omega)
      exact ⟨τ', fr_trans g1 q1, q2⟩
theorem msol22 (hc : CV a b M E) {N : Nat} (hN : 10000 ≤ N) {x y g : Int} (hx1 : scd a b M E x) (hy1 : scd a b M E y) (hg : bd 2000 g) (hg1 : g ≠ -1) (hg6 : g ≠ -6) (w : Int32) : ∀ (j n : Nat) (z : Int) (τ : aSt), MC a b M E τ → z + j = 11 → 0 ≤ z → j + 1 ≤ n → ∃ τ', fr fr23 τ τ' ∧ (f_M_solves_l22 N n (iZ x) (iZ y) (iZ g) w (iZ z) τ = match scanG (hitF a b M E x y g) j z with
      | none => some (jZ NO, τ')
      | some st => some (tellW w st, τ')) := by
  intro j
  induction j with
  | zero =>
    intro n z τ hm hz hz0 hn
    obtain ⟨n, rfl, hn⟩ := fuel hn
    have : z = 11 := by omega
    subst this
    refine ⟨τ, fr_refl _ _, ?_⟩
    rw [f_M_solves_l22, if_pos (by decide), NO_j]
    rfl
  | succ j ih =>
    intro n z τ hm hz hz0 hn
    obtain ⟨n, rfl, hn⟩ := fuel hn
    rw [f_M_solves_l22, if_neg (by rw [iZ_lit, iZ_lt (bd_lit _ rfl) ⟨by omega, by omega⟩]; omega), scanG, show (-5 : Int32) = iZ (-5) from by decide]
    obtain ⟨τ1, g1, g2⟩ := msol27 hc hN hx1 hy1 hg hg1 hg6 (fun (y19 : Int32) (y20 : Int32) (y21 : Int32) (y22 : Int32) (y23 : Int32) σ24 => f_M_solves_l22 N n y19 y20 y21 y22 (y23 + (1 : Int32)) σ24) w (z := z) ⟨hz0, by omega⟩ 11 N (-5) τ hm (by omega) (by omega) (by omega)
    cases hsc : scanS (hitF a b M E x y g) z 11 (-5) with
    | some st =>
      exact ⟨τ1, g1, by rw [g2, hsc]⟩
    | none =>
      rw [g2, hsc]
      simp only
      rw [show iZ z + (1 : Int32) = iZ (z + 1) from by rw [iZ_lit, iZ_add]]
      obtain ⟨τ', q1, q2⟩ := ih n (z + 1) τ1 (MC_fr g1 ok23 hm) (by omega) (by omega) (by omega)
      exact ⟨τ', fr_trans g1 q1, q2⟩

theorem factor_Z {σ : aSt} {st : Int × Int} (h6 : σ.1 21 6 = iZ st.1) (h7 : σ.1 21 7 = iZ st.2) (hb : bd 5 st.1 ∧ bd 5 st.2) (w : Int32) : (f_Sums_factor w σ).toInt64 = tellW w st := by
  unfold f_Sums_factor tellW
  by_cases c : w ≠ 0
  · rw [if_pos c, if_pos c, h7, i2j (bd_mono hb.2 (by decide))]
  · rw [if_neg c, if_neg c, h6, i2j (bd_mono hb.1 (by decide))]
theorem pk_bd {hit : Int → Int → Bool} {s d : Int} (hs : bd 5 s) {st : Int × Int} (h : pkD hit s d = some st) : bd 5 st.1 ∧ bd 5 st.2 := by
  unfold pkD at h
  by_cases c : d < 0 ∨ 5 < d
  · rw [if_pos c] at h; cases h
  · rw [if_neg c] at h
    by_cases c1 : hit s (-d) = true
    · rw [if_pos c1] at h; cases h; exact ⟨hs, by show -5 ≤ -d; omega, by show -d ≤ 5; omega⟩
    · rw [if_neg c1] at h
      by_cases c2 : hit s d = true
      · rw [if_pos c2] at h; cases h; exact ⟨hs, by show -5 ≤ d; omega, by show d ≤ 5; omega⟩
      · rw [if_neg c2] at h; cases h
theorem scanS_bd {hit : Int → Int → Bool} {z : Int} {st : Int × Int} : ∀ (j : Nat) (s : Int), -5 ≤ s → s + j ≤ 6 → scanS hit z j s = some st → bd 5 st.1 ∧ bd 5 st.2
  | 0, s, _, _, h => by cases h
  | j + 1, s, h1, h2, h => by
    rw [scanS] at h
    cases hp : pkD hit s (z - s.natAbs) with
    | some r => rw [hp] at h; cases h; exact pk_bd ⟨by omega, by omega⟩ hp
    | none => rw [hp] at h; exact scanS_bd j (s + 1) (by omega) (by omega) h
theorem scanG_bd {hit : Int → Int → Bool} {st : Int × Int} : ∀ (j : Nat) (z : Int), scanG hit j z = some st → bd 5 st.1 ∧ bd 5 st.2
  | 0, z, h => by cases h
  | j + 1, z, h => by
    rw [scanG] at h
    cases hp : scanS hit z 11 (-5) with
    | some r => rw [hp] at h; cases h; exact scanS_bd 11 (-5) (by omega) (by omega) hp
    | none => rw [hp] at h; exact scanG_bd j (z + 1) h
theorem related_eq {N : Nat} (hc : CV a b M E) (hN : 10000 ≤ N) {σ τ : aSt} (hx : RX a b M E σ) (ho : OR a b M E σ) (hm : RM a b M E τ) (p q w : Int32) : ∃ r σ' τ', f_X_related N p q w σ = some (r, σ') ∧ f_M_related N p q w τ = some (r, τ') ∧ fr frT σ σ' ∧ OR a b M E σ' ∧ fr fr23 τ τ' := by
  have no : ∀ r : Int64, ∃ r' σ' τ', some (r, σ) = some (r', σ') ∧ some (r, τ) = some (r', τ') ∧ fr frT σ σ' ∧ OR a b M E σ' ∧ fr fr23 τ τ' := fun r => ⟨r, σ, τ, rfl, rfl, fr_refl _ _, ho, fr_refl _ _⟩
  unfold f_X_related f_M_related
  have e1 : f_M_in w.toInt64 (0 : Int64) (1 : Int64) = decide (0 ≤ w.toInt ∧ w.toInt ≤ 1) := in_p (lo := 0) (hi := 1) (bd_lit _ rfl) (bd_lit _ rfl)
  have q1 : (w < (0 : Int32)) = (w.toInt < 0) := pl_lt (bd_lit 0 rfl)
  have q2 : (w ≤ (1 : Int32)) = (w.toInt ≤ 1) := pl_le (bd_lit 1 rfl)
  simp only [xPoint hx, mPoint hm, ite_dec, e1, q1, q2]
  by_cases c : p.toInt = 1000 ∨ (0 ≤ p.toInt ∧ p.toInt < ((hL a b M E).length : Int))
  · rw [if_pos c, if_pos c]
    by_cases c2 : q.toInt = 1000 ∨ (0 ≤ q.toInt ∧ q.toInt < ((hL a b M E).length : Int))
    · rw [if_pos c2, if_pos c2]
      by_cases c3 : 0 ≤ w.toInt ∧ w.toInt ≤ 1
      · rw [if_neg (show ¬ w.toInt < 0 by omega), if_pos c3.2, if_pos c3]
        obtain ⟨h1, -⟩ := pnt_scd (x := p.toInt) c
        obtain ⟨h3, -⟩ := pnt_scd (x := q.toInt) c2
        obtain ⟨σ', g1, g2, g3, g4⟩ := ff_ok hc hN h1 h3 (g := -1) (bd_lit _ rfl) hx.2 ho (Or.inl ⟨rfl, rfl, rfl⟩)
        obtain ⟨τ', t1, t2⟩ := mrel18 hc hN h1 h3 w 10 N 1 τ hm.2 (by omega) (by omega) (by omega)
        rw [iZ_self, iZ_self] at g3 t2
        rw [show (-1 : Int32) = iZ (-1) from by decide, show (1 : Int32) = iZ 1 from rfl]
        cases hs : scanG (hitF a b M E p.toInt q.toInt (-1)) 10 1 with
        | none =>
          rw [hs] at g3 t2
          simp only at g3 t2
          rw [g3, t2, Option.bind_some]
          exact ⟨_, σ', τ', rfl, by rw [NO_j], g1, g2, t1⟩
        | some st =>
          rw [hs] at g3 t2
          simp only at g3 t2
          rw [g3, t2, Option.bind_some]
          refine ⟨_, σ', τ', rfl, ?_, g1, g2, t1⟩
          rw [factor_Z (g4 st hs).1 (g4 st hs).2 (scanG_bd _ _ hs)]
      · rw [if_neg c3]
        by_cases c5 : w.toInt < 0
        · rw [if_pos c5]; exact no _
        · rw [if_neg c5, if_neg (show ¬ w.toInt ≤ 1 by omega)]; exact no _
    · rw [if_neg c2, if_neg c2]; exact no _
  · rw [if_neg c, if_neg c]; exact no _
theorem solves_eq {N : Nat} (hc : CV a b M E) (hN : 10000 ≤ N) {σ τ : aSt} (hx : RX a b M E σ) (ho : OR a b M E σ) (hm : RM a b M E τ) (p q k w : Int32) : ∃ r σ' τ', f_X_solves N p q k w σ = some (r, σ') ∧ f_M_solves N p q k w τ = some (r, τ') ∧ fr frT σ σ' ∧ OR a b M E σ' ∧ fr fr23 τ τ' := by
  have no : ∀ r : Int64, ∃ r' σ' τ', some (r, σ) = some (r', σ') ∧ some (r, τ) = some (r', τ') ∧ fr frT σ σ' ∧ OR a b M E σ' ∧ fr fr23 τ τ' := fun r => ⟨r, σ, τ, rfl, rfl, fr_refl _ _, ho, fr_refl _ _⟩
  unfold f_X_solves f_M_solves
  have e1 : f_M_in w.toInt64 (0 : Int64) (1 : Int64) = decide (0 ≤ w.toInt ∧ w.toInt ≤ 1) := in_p (lo := 0) (hi := 1) (bd_lit _ rfl) (bd_lit _ rfl)
  have q1 : (w < (0 : Int32)) = (w.toInt < 0) := pl_lt (bd_lit 0 rfl)
  have q2 : (w ≤ (1 : Int32)) = (w.toInt ≤ 1) := pl_le (bd_lit 1 rfl)
  simp only [xPoint hx, mPoint hm, ite_dec, e1, q1, q2]
  by_cases c : p.toInt = 1000 ∨ (0 ≤ p.toInt ∧ p.toInt < ((hL a b M E).length : Int))
  · rw [if_pos c, if_pos c]
    by_cases c2 : q.toInt = 1000 ∨ (0 ≤ q.toInt ∧ q.toInt < ((hL a b M E).length : Int))
    · rw [if_pos c2, if_pos c2]
      by_cases ck : k.toInt = 1000 ∨ (0 ≤ k.toInt ∧ k.toInt < ((hL a b M E).length : Int))
      · rw [if_pos ck, if_pos ck]
        by_cases c3 : 0 ≤ w.toInt ∧ w.toInt ≤ 1
        · rw [if_neg (show ¬ w.toInt < 0 by omega), if_pos c3.2, if_pos c3]
          obtain ⟨h1, -⟩ := pnt_scd (x := p.toInt) c
          obtain ⟨h3, -⟩ := pnt_scd (x := q.toInt) c2
          obtain ⟨h4, h5⟩ := pnt_scd (x := k.toInt) ck
          have hk1 : k.toInt ≠ -1 := by omega
          obtain ⟨σ', g1, g2, g3, g4⟩ := ff_ok hc hN h1 h3 (g := k.toInt) (bd_mono (scd_bd h4) (by decide)) hx.2 ho (Or.inr ⟨hk1, rfl, rfl⟩)
          obtain ⟨τ', t1, t2⟩ := msol22 hc hN h1 h3 (g := k.toInt) (bd_mono (scd_bd h4) (by decide)) hk1 h5 w 11 N 0 τ hm.2 (by omega) (by omega) (by omega)
          rw [iZ_self, iZ_self, iZ_self] at g3 t2
          rw [show (0 : Int32) = iZ 0 from rfl]
          cases hs : scanG (hitF a b M E p.toInt q.toInt k.toInt) 11 0 with
          | none =>
            rw [hs] at g3 t2
            simp only at g3 t2
            rw [g3, t2, Option.bind_some]
            exact ⟨_, σ', τ', rfl, by rw [NO_j], g1, g2, t1⟩
          | some st =>
            rw [hs] at g3 t2
            simp only at g3 t2
            rw [g3, t2, Option.bind_some]
            refine ⟨_, σ', τ', rfl, ?_, g1, g2, t1⟩
            rw [factor_Z (g4 st hs).1 (g4 st hs).2 (scanG_bd _ _ hs)]
        · rw [if_neg c3]
          by_cases c5 : w.toInt < 0
          · rw [if_pos c5]; exact no _
          · rw [if_neg c5, if_neg (show ¬ w.toInt ≤ 1 by omega)]; exact no _
      · rw [if_neg ck, if_neg ck]; exact no _
    · rw [if_neg c2, if_neg c2]; exact no _
  · rw [if_neg c, if_neg c]; exact no _
end OPS
