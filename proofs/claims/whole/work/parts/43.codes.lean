/-! SUMS BY NUMBERS: 0 .. of the LIST, 1000 ZERO, -6 FAR -/
section CODES
variable (a b : Int) (M E : Nat)
def scd (x : Int) : Prop := x = 1000 ∨ x = -6 ∨ (0 ≤ x ∧ x < ((hL a b M E).length : Int))
def gp (x : Int) : Pt := ((hL a b M E)[x.toNat]?).getD (0, 0, 0)
def negC (x : Int) : Int := if x = 1000 then 1000 else if x = -6 then -6 else fnd (hL a b M E) (tn (gp a b M E x))
def addC (x y : Int) : Int := if x = -6 then -6 else if y = -6 then -6 else if x = 1000 then y else if y = 1000 then x else sumI a b M E (hL a b M E) (gp a b M E x) (gp a b M E y)
def subC (x y : Int) : Int := if x = -6 then -6 else if y = -6 then -6 else if y = 1000 then x else if x = 1000 then negC a b M E y else sumI a b M E (hL a b M E) (gp a b M E x) (tn (gp a b M E y))
def mulC (x : Int) : Nat → Int
  | 0 => 1000
  | k + 1 => addC a b M E (mulC x k) x
def timC (x k : Int) : Int := if mulC a b M E x k.natAbs = -6 then -6 else if k < 0 then negC a b M E (mulC a b M E x k.natAbs) else mulC a b M E x k.natAbs
def ordA (x : Int) : Nat → Int → Nat → Nat
  | 0, _, _ => 0
  | n + 1, v, k => if addC a b M E v x = 1000 then k else if addC a b M E v x = -6 then 0 else ordA x n (addC a b M E v x) (k + 1)
def ordC (x : Int) : Nat := ordA a b M E x 12 1000 1
end CODES
section CODES
variable {a b : Int} {M E : Nat}
theorem gp_get {x : Int} (h0 : 0 ≤ x) (h1 : x < ((hL a b M E).length : Int)) : (hL a b M E)[x.toNat]? = some (gp a b M E x) := by
  obtain ⟨q, hq⟩ := get_some (L := hL a b M E) (i := x.toNat) (by omega)
  unfold gp
  rw [hq]; rfl
theorem gp_pt {x : Int} (h0 : 0 ≤ x) (h1 : x < ((hL a b M E).length : Int)) : isPt a b M E (gp a b M E x) := hL_pt (gp_get h0 h1)
theorem hL_le : (hL a b M E).length ≤ 120 := by rw [hL_len]; omega
theorem fnd_rng (L : List Pt) (t : Pt) (hs : KS L) : fnd L t = -6 ∨ (0 ≤ fnd L t ∧ fnd L t < (L.length : Int)) := by
  rcases fnd_cases hs t with ⟨i, h1, h2⟩ | ⟨h1, h2⟩
  · have := get_lt h1
    exact Or.inr ⟨by omega, by omega⟩
  · exact Or.inl h2
theorem sumI_rng {L : List Pt} (hs : KS L) (p q : Pt) : sumI a b M E L p q = 1000 ∨ sumI a b M E L p q = -6 ∨ (0 ≤ sumI a b M E L p q ∧ sumI a b M E L p q < (L.length : Int)) := by
  unfold sumI
  by_cases c : zP p q
  · rw [if_pos c]; exact Or.inl rfl
  · rw [if_neg c]
    cases sumT a b M E p q with
    | none => exact Or.inr (Or.inl rfl)
    | some t => exact Or.inr (fnd_rng L t hs)
theorem negC_scd (hc : CV a b M E) {x : Int} : scd a b M E (negC a b M E x) := by
  obtain ⟨hab, -, -, hM, -, hE⟩ := hc
  unfold negC
  by_cases c1 : x = 1000
  · rw [if_pos c1]; exact Or.inl rfl
  · rw [if_neg c1]
    by_cases c2 : x = -6
    · rw [if_pos c2]; exact Or.inr (Or.inl rfl)
    · rw [if_neg c2]; exact Or.inr (fnd_rng _ _ (hL_KS hab hM hE))
theorem addC_scd (hc : CV a b M E) {x y : Int} (hx : scd a b M E x) (hy : scd a b M E y) : scd a b M E (addC a b M E x y) := by
  obtain ⟨hab, -, -, hM, -, hE⟩ := hc
  unfold addC
  by_cases c1 : x = -6
  · rw [if_pos c1]; exact Or.inr (Or.inl rfl)
  · rw [if_neg c1]
    by_cases c2 : y = -6
    · rw [if_pos c2]; exact Or.inr (Or.inl rfl)
    · rw [if_neg c2]
      by_cases c3 : x = 1000
      · rw [if_pos c3]; exact hy
      · rw [if_neg c3]
        by_cases c4 : y = 1000
        · rw [if_pos c4]; exact hx
        · rw [if_neg c4]; exact sumI_rng (hL_KS hab hM hE) _ _
theorem mulC_scd (hc : CV a b M E) {x : Int} (hx : scd a b M E x) : ∀ k, scd a b M E (mulC a b M E x k)
  | 0 => Or.inl rfl
  | k + 1 => addC_scd hc (mulC_scd hc hx k) hx
theorem scd_bd {x : Int} (hx : scd a b M E x) : bd 1000 x := by
  have := hL_le (a := a) (b := b) (M := M) (E := E)
  rcases hx with h | h | h
  · exact ⟨by omega, by omega⟩
  · exact ⟨by omega, by omega⟩
  · exact ⟨by omega, by omega⟩
theorem scd_idx {x : Int} (hx : scd a b M E x) (h1 : x ≠ 1000) (h2 : x ≠ -6) : 0 ≤ x ∧ x < ((hL a b M E).length : Int) := by
  rcases hx with h | h | h
  · exact absurd h h1
  · exact absurd h h2
  · exact h
/-- the LIST's numbers among those held -/
theorem gpX {x : Int} (h0 : 0 ≤ x) (h1 : x < ((hL a b M E).length : Int)) : (hX a b M E)[x.toNat]? = some (gp a b M E x) := (hL_get (gp_get h0 h1)).1
theorem shownZ {σ : aSt} (hx : XC a b M E σ) : f_PointList_shown_11 σ = iZ ((hL a b M E).length : Int) := by
  unfold f_PointList_shown_11
  have hl := hx.1.2.1
  rw [hx.1.1, iZ_lit, imin_Z ⟨by omega, by omega⟩ (bd_lit _ rfl), hL_len]
  congr 1; omega
theorem sumI_shown (hc : CV a b M E) (p q : Pt) : sumI a b M E (hL a b M E) p q = if sumI a b M E (hX a b M E) p q = 1000 then 1000 else if ((hL a b M E).length : Int) ≤ sumI a b M E (hX a b M E) p q then -6 else sumI a b M E (hX a b M E) p q := by
  obtain ⟨hab, -, -, hM, -, hE⟩ := hc
  unfold sumI
  by_cases c : zP p q
  · rw [if_pos c, if_pos c, if_pos rfl]
  · rw [if_neg c, if_neg c]
    have hl := hL_len a b M E
    cases sumT a b M E p q with
    | none =>
      show (-6 : Int) = if (-6 : Int) = 1000 then 1000 else if ((hL a b M E).length : Int) ≤ -6 then -6 else -6
      rw [if_neg (by omega)]
      by_cases c : ((hL a b M E).length : Int) ≤ -6
      · rw [if_pos c]
      · rw [if_neg c]
    | some t =>
      show fnd (hL a b M E) t = if fnd (hX a b M E) t = 1000 then 1000 else if ((hL a b M E).length : Int) ≤ fnd (hX a b M E) t then -6 else fnd (hX a b M E) t
      have hr := fnd_rng _ t (hX_KS hab hM hE)
      have hxl := hX_len a b M E
      rw [fnd_shown hab hM hE, if_neg (show ¬ fnd (hX a b M E) t = 1000 by omega)]
      by_cases c2 : fnd (hX a b M E) t < 120
      · rw [if_pos c2, if_neg (by omega)]
      · rw [if_neg c2, if_pos (by omega)]
theorem shownOnly_Z {σ : aSt} (hx : XC a b M E σ) {v : Int} (hv : bd 2147483647 v) : f_Sums_shownOnly (iZ v) σ = iZ (if v = 1000 then 1000 else if ((hL a b M E).length : Int) ≤ v then -6 else v) := by
  have hl := hL_le (a := a) (b := b) (M := M) (E := E)
  unfold f_Sums_shownOnly
  rw [shownZ hx, min_6]
  simp only [iZ_lit, iZ_eq hv (bd_lit 1000 rfl), iZ_le (x := ((hL a b M E).length : Int)) ⟨by omega, by omega⟩ hv]
  by_cases c : v = 1000
  · rw [if_pos c, if_pos c, c]
  · rw [if_neg c, if_neg c]
    by_cases c2 : ((hL a b M E).length : Int) ≤ v
    · rw [if_pos c2, if_pos c2]
    · rw [if_neg c2, if_neg c2]
/-- the class: two that are held -/
theorem held_ok (hc : CV a b M E) {N : Nat} (hN : 10000 ≤ N) {σ : aSt} (hx : XC a b M E σ) {i j : Nat} {p q : Pt} (hi : (hX a b M E)[i]? = some p) (hj : (hX a b M E)[j]? = some q) : ∃ σ', f_Sums_heldTotal N (iZ i) (iZ j) σ = some (iZ (sumI a b M E (hX a b M E) p q), σ') ∧ fr fr22 σ σ' := by
  have hl := hX_len a b M E
  have l1 := get_lt hi
  have l2 := get_lt hj
  unfold f_Sums_heldTotal
  rw [min_6, if_neg (by rw [iZ_eq ⟨by omega, by omega⟩ (bd_lit _ rfl)]; omega), if_pos (by rw [ne_eq, iZ_eq ⟨by omega, by omega⟩ (bd_lit _ rfl)]; omega), if_pos (by rw [ne_eq, iZ_lit, iZ_eq ⟨by omega, by omega⟩ (bd_lit _ rfl)]; omega), if_pos (by rw [ne_eq, iZ_lit, iZ_eq ⟨by omega, by omega⟩ (bd_lit _ rfl)]; omega), lt_eq]
  obtain ⟨h1, h2⟩ := join_ok hc hx hi hj
  rw [placeIn_ok hc hN (XC_22 h2 hx) (hX_pt (List.mem_of_getElem? hi)) (hX_pt (List.mem_of_getElem? hj)) h1, Option.bind_some]
  exact ⟨_, rfl, h2⟩
theorem total_ok (hc : CV a b M E) {N : Nat} (hN : 10000 ≤ N) {σ : aSt} (hx : XC a b M E σ) {x y : Int} (hx1 : scd a b M E x) (hy1 : scd a b M E y) : ∃ σ', f_Sums_total N (iZ x) (iZ y) σ = some (iZ (addC a b M E x y), σ') ∧ fr fr22 σ σ' := by
  have hl := hL_le (a := a) (b := b) (M := M) (E := E)
  have bx := scd_bd hx1
  have by' := scd_bd hy1
  have self : ∀ v : Int, scd a b M E v → f_Sums_shownOnly (iZ v) σ = iZ v := fun v hv => by
    rw [shownOnly_Z hx (bd_mono (scd_bd hv) (by decide))]
    congr 1
    by_cases c : v = 1000
    · rw [if_pos c, c]
    · rw [if_neg c]
      by_cases c2 : v = -6
      · rw [c2]
        by_cases c3 : ((hL a b M E).length : Int) ≤ -6
        · rw [if_pos c3]
        · rw [if_neg c3]
      · have := scd_idx hv c c2
        rw [if_neg (by omega)]
  unfold f_Sums_total addC
  by_cases c1 : x = -6
  · rw [if_pos c1]
    unfold f_Sums_heldTotal
    rw [min_6, if_pos (by rw [c1]), Option.bind_some]
    exact ⟨σ, by rw [self (-6) (Or.inr (Or.inl rfl))], fr_refl _ _⟩
  · rw [if_neg c1]
    by_cases c2 : y = -6
    · rw [if_pos c2]
      unfold f_Sums_heldTotal
      rw [min_6, if_neg (by rw [iZ_eq (bd_mono bx (by decide)) (bd_lit _ rfl)]; exact c1), if_neg (by rw [c2]; exact fun h => h rfl), Option.bind_some]
      exact ⟨σ, by rw [self (-6) (Or.inr (Or.inl rfl))], fr_refl _ _⟩
    · rw [if_neg c2]
      by_cases c3 : x = 1000
      · rw [if_pos c3]
        unfold f_Sums_heldTotal
        rw [min_6, if_neg (by rw [iZ_eq (bd_mono bx (by decide)) (bd_lit _ rfl)]; exact c1), if_pos (by rw [ne_eq, iZ_eq (bd_mono by' (by decide)) (bd_lit _ rfl)]; exact c2), if_neg (by rw [c3]; exact fun h => h rfl), Option.bind_some]
        exact ⟨σ, by rw [self y hy1], fr_refl _ _⟩
      · rw [if_neg c3]
        by_cases c4 : y = 1000
        · rw [if_pos c4]
          unfold f_Sums_heldTotal
          rw [min_6, if_neg (by rw [iZ_eq (bd_mono bx (by decide)) (bd_lit _ rfl)]; exact c1), if_pos (by rw [ne_eq, iZ_eq (bd_mono by' (by decide)) (bd_lit _ rfl)]; exact c2), if_pos (by rw [ne_eq, iZ_lit, iZ_eq (bd_mono bx (by decide)) (bd_lit _ rfl)]; exact c3), if_neg (by rw [c4]; exact fun h => h rfl), Option.bind_some]
          exact ⟨σ, by rw [self x hx1], fr_refl _ _⟩
        · rw [if_neg c4]
          obtain ⟨x0, x1⟩ := scd_idx hx1 c3 c1
          obtain ⟨y0, y1⟩ := scd_idx hy1 c4 c2
          obtain ⟨σ', h1, h2⟩ := held_ok hc hN hx (gpX x0 x1) (gpX y0 y1)
          rw [show ((x.toNat : Nat) : Int) = x from by omega, show ((y.toNat : Nat) : Int) = y from by omega] at h1
          obtain ⟨hab, -, -, hM, -, hE⟩ := id hc
          have hr := sumI_rng (a := a) (b := b) (M := M) (E := E) (hX_KS hab hM hE) (gp a b M E x) (gp a b M E y)
          have hxl := hX_len a b M E
          rw [h1, Option.bind_some]
          refine ⟨σ', ?_, h2⟩
          rw [shownOnly_Z (XC_22 h2 hx) ⟨by omega, by omega⟩, sumI_shown hc]
end CODES
