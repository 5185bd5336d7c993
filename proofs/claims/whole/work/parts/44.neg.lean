/-! TURNED ONES, TIMES, ORDERS -/
def pairL (L : List Pt) : Prop := ∀ i p, L[i]? = some p → p.2.1 = 0 ∨ (p.2.1 < 0 ∧ L[i + 1]? = some (tn p)) ∨ (0 < p.2.1 ∧ 1 ≤ i ∧ L[i - 1]? = some (tn p))
theorem pair_app {B L : List Pt} (hB : pairL B) (hL : pairL L) : pairL (B ++ L) := by
  intro i p h
  rcases Nat.lt_or_ge i B.length with c | c
  · rw [List.getElem?_append_left c] at h
    rcases hB i p h with q | ⟨q1, q2⟩ | ⟨q1, q2, q3⟩
    · exact Or.inl q
    · have := get_lt q2
      exact Or.inr (Or.inl ⟨q1, by rw [List.getElem?_append_left this]; exact q2⟩)
    · have := get_lt q3
      exact Or.inr (Or.inr ⟨q1, q2, by rw [List.getElem?_append_left this]; exact q3⟩)
  · rw [List.getElem?_append_right c] at h
    rcases hL _ p h with q | ⟨q1, q2⟩ | ⟨q1, q2, q3⟩
    · exact Or.inl q
    · refine Or.inr (Or.inl ⟨q1, ?_⟩)
      rw [List.getElem?_append_right (by omega), show i + 1 - B.length = i - B.length + 1 from by omega]
      exact q2
    · refine Or.inr (Or.inr ⟨q1, by omega, ?_⟩)
      rw [List.getElem?_append_right (by omega), show i - 1 - B.length = i - B.length - 1 from by omega]
      exact q3
theorem pair_pts (a b e m : Int) : pairL (ptsAt a b e m) := by
  by_cases c : Int.gcd m e = 1 ∧ isq (pv a b m e) = true
  · by_cases c2 : rtN (pv a b m e).toNat = 0
    · rw [ptsAt_0 c c2]
      intro i p h
      have := List.mem_of_getElem? h
      rw [List.mem_singleton] at this
      subst this
      exact Or.inl rfl
    · rw [ptsAt_2 c c2]
      obtain ⟨r, hr⟩ : ∃ r, r = rtN (pv a b m e).toNat := ⟨_, rfl⟩
      rw [← hr] at c2 ⊢
      intro i p h
      match i, h with
      | 0, h =>
        cases h
        refine Or.inr (Or.inl ⟨by show -(r : Int) < 0; omega, ?_⟩)
        show some (m, (r : Int), e) = some (m, - -(r : Int), e)
        rw [Int.neg_neg]
      | 1, h =>
        cases h
        exact Or.inr (Or.inr ⟨by show 0 < (r : Int); omega, Nat.le_refl 1, rfl⟩)
      | i + 2, h => cases h
  · rw [ptsAt_no c]
    intro i p h
    cases h
theorem pair_flat : ∀ (bs : List (List Pt)), (∀ x ∈ bs, pairL x) → pairL bs.flatten
  | [], _ => fun i p h => by cases h
  | x :: bs, h => by
    rw [List.flatten_cons]
    exact pair_app (h x List.mem_cons_self) (pair_flat bs (fun y hy => h y (List.mem_cons_of_mem _ hy)))
theorem hX_pair (a b : Int) (M E : Nat) : pairL (hX a b M E) := by
  obtain ⟨j, hj⟩ := fold_pre (allB a b M E) []
  unfold hX
  rw [hj, List.nil_append]
  refine pair_flat _ (fun x hx => ?_)
  obtain ⟨e, k, -, -, -, rfl⟩ := allB_mem (List.mem_of_mem_take hx)
  exact pair_pts _ _ _ _
theorem tn_0 {p : Pt} (h : p.2.1 = 0) : tn p = p := by
  obtain ⟨m, n, e⟩ := p
  unfold tn
  simp only at h ⊢
  rw [h]; rfl
section CODES
variable {a b : Int} {M E : Nat}
/-- the class: the partner of one that is held -/
theorem neg_held (hc : CV a b M E) {σ : aSt} (hx : XC a b M E σ) {i : Nat} {p : Pt} (hi : (hX a b M E)[i]? = some p) : ∃ k : Nat, (hX a b M E)[k]? = some (tn p) ∧ f_Sums_negative (iZ i) σ = iZ k := by
  have hl := hX_len a b M E
  have l1 := get_lt hi
  obtain ⟨hab, -, -, hM, -, hE⟩ := hc
  have hn := isPt_n hab hM hE (hX_pt (List.mem_of_getElem? hi))
  unfold f_Sums_negative f_PointList_partner_11
  rw [min_6, if_neg (by rw [iZ_lit, iZ_eq ⟨by omega, by omega⟩ (bd_lit _ rfl)]; omega), if_pos (by rw [ne_eq, iZ_eq ⟨by omega, by omega⟩ (bd_lit _ rfl)]; omega), n11 hx.1 hi]
  rcases hX_pair a b M E i p hi with q | ⟨q1, q2⟩ | ⟨q1, q2, q3⟩
  · rw [if_neg (by rw [q]; exact fun h => h rfl)]
    exact ⟨i, by rw [tn_0 q]; exact hi, rfl⟩
  · rw [if_pos (by rw [ne_eq, iZ_lit, iZ_eq (bd_mono hn (by decide)) (bd_lit _ rfl)]; omega), if_neg (by rw [iZ_lit, iZ_le (bd_lit _ rfl) (bd_mono hn (by decide))]; omega), i1]
    exact ⟨i + 1, q2, rfl⟩
  · rw [if_pos (by rw [ne_eq, iZ_lit, iZ_eq (bd_mono hn (by decide)) (bd_lit _ rfl)]; omega), if_pos (by rw [iZ_lit, iZ_le (bd_lit _ rfl) (bd_mono hn (by decide))]; omega), iZ_lit, iZ_sub]
    exact ⟨i - 1, q3, by congr 1; omega⟩
theorem turn_shown (hc : CV a b M E) {σ : aSt} (hx : XC a b M E σ) {x : Int} (hx1 : scd a b M E x) : f_Sums_shownOnly (f_Sums_negative (iZ x) σ) σ = iZ (negC a b M E x) := by
  have hl := hL_le (a := a) (b := b) (M := M) (E := E)
  have bx := scd_bd hx1
  unfold negC
  by_cases c1 : x = 1000
  · rw [if_pos c1]
    unfold f_Sums_negative
    rw [if_pos (by rw [c1]; rfl), shownOnly_Z hx (bd_mono bx (by decide)), if_pos c1]
  · rw [if_neg c1]
    by_cases c2 : x = -6
    · rw [if_pos c2]
      unfold f_Sums_negative
      rw [min_6, if_neg (by rw [iZ_lit, iZ_eq (bd_mono bx (by decide)) (bd_lit _ rfl)]; exact c1), if_neg (by rw [c2]; exact fun h => h rfl), shownOnly_Z hx (bd_mono bx (by decide)), if_neg c1, if_neg (by omega), c2]
    · rw [if_neg c2]
      obtain ⟨x0, x1⟩ := scd_idx hx1 c1 c2
      obtain ⟨k, h1, h2⟩ := neg_held hc hx (gpX x0 x1)
      rw [show ((x.toNat : Nat) : Int) = x from by omega] at h2
      have hxl := hX_len a b M E
      have hk := get_lt h1
      have hlen := hL_len a b M E
      obtain ⟨hab, -, -, hM, -, hE⟩ := hc
      rw [h2, shownOnly_Z hx ⟨by omega, by omega⟩, fnd_shown hab hM hE, fnd_in (hX_KS hab hM hE) h1, if_neg (by omega)]
      by_cases c3 : k < 120
      · rw [if_neg (by omega), if_pos (by omega)]
      · rw [if_pos (by omega), if_neg (by omega)]
/-- the reference -/
theorem mturned_ok (hc : CV a b M E) {N : Nat} (hN : 10000 ≤ N) {σ : aSt} (hx : MC a b M E σ) {x : Int} (hx1 : scd a b M E x) (h6 : x ≠ -6) : f_M_turnedOf N (iZ x) σ = some (iZ (negC a b M E x)) := by
  have hl := hL_le (a := a) (b := b) (M := M) (E := E)
  have bx := scd_bd hx1
  obtain ⟨hab, -, -, hM, -, hE⟩ := hc
  unfold f_M_turnedOf negC
  by_cases c1 : x = 1000
  · rw [if_neg (by rw [c1]; exact fun h => h rfl), if_pos c1]; rfl
  · obtain ⟨x0, x1⟩ := scd_idx hx1 c1 h6
    obtain ⟨y1, y2, y3⟩ := hx.1.2.2 _ _ (gp_get x0 x1)
    have hp := gp_pt x0 x1
    have pm := isPt_m hM hp
    have pn := isPt_n hab hM hE hp
    have pe := isPt_e hE hp
    rw [if_pos (by rw [ne_eq, iZ_lit, iZ_eq (bd_mono bx (by decide)) (bd_lit _ rfl)]; exact c1), if_neg c1, if_neg h6, if_pos (by rw [iZ_lit, iZ_lit, iZ_le (bd_lit _ rfl) (bd_mono bx (by decide)), iZ_lt (bd_mono bx (by decide)) (bd_lit _ rfl)]; omega), iZ_idx x0 (by omega), y1, y2, y3, i2j (bd_mono pm (by decide)), i2j (bd_mono pe (by decide)), jZ_neg, mfind_ok hN hx.1 (fun t ht => isPt_kb hab hM hE (by obtain ⟨i, hi⟩ := List.getElem?_of_mem ht; exact hL_pt hi)) (bd_mono pm (by decide)) (bd_mono (bd_neg pn) (by decide)) (bd_mono pe (by decide)), Option.bind_some]
    rfl
theorem sgn_1 (q : Pt) : sgn 1 q = q := by unfold sgn; rw [Int.one_mul]
theorem sgn_m (q : Pt) : sgn (-1) q = tn q := by unfold sgn tn; rw [Int.neg_mul, Int.one_mul]
theorem msum_ok (hc : CV a b M E) {N : Nat} (hN : 10000 ≤ N) {σ : aSt} (hx : MC a b M E σ) {x y : Int} (hx1 : scd a b M E x) (hy1 : scd a b M E y) {s : Int} (hs : s = 1 ∨ s = -1) : ∃ σ', f_M_sumOf N (iZ x) (iZ y) (iZ s) σ = some (iZ (if s = 1 then addC a b M E x y else subC a b M E x y), σ') ∧ fr fr23 σ σ' := by
  have bx := scd_bd hx1
  have by' := scd_bd hy1
  unfold f_M_sumOf addC subC
  rw [min_6]
  by_cases c1 : x = -6
  · rw [if_pos (by rw [c1]), if_pos c1, if_pos c1]
    exact ⟨σ, by rw [ite_self], fr_refl _ _⟩
  · rw [if_neg (by rw [iZ_eq (bd_mono bx (by decide)) (bd_lit _ rfl)]; exact c1), if_neg c1, if_neg c1]
    by_cases c2 : y = -6
    · rw [if_neg (by rw [c2]; exact fun h => h rfl), if_pos c2, if_pos c2]
      exact ⟨σ, by rw [ite_self], fr_refl _ _⟩
    · rw [if_pos (by rw [ne_eq, iZ_eq (bd_mono by' (by decide)) (bd_lit _ rfl)]; exact c2), if_neg c2, if_neg c2]
      by_cases c4 : y = 1000
      · rw [if_neg (by rw [c4]; exact fun h => h rfl), if_pos c4, if_pos c4]
        refine ⟨σ, ?_, fr_refl _ _⟩
        congr 2
        by_cases c3 : x = 1000
        · rw [if_pos c3, c3, c4, ite_self]
        · rw [if_neg c3, ite_self]
      · rw [if_pos (by rw [ne_eq, iZ_lit, iZ_eq (bd_mono by' (by decide)) (bd_lit _ rfl)]; exact c4), if_neg c4, if_neg c4]
        by_cases c3 : x = 1000
        · rw [if_neg (by rw [c3]; exact fun h => h rfl), if_pos c3, if_pos c3]
          rcases hs with rfl | rfl
          · rw [if_neg (by decide), if_pos rfl]
            exact ⟨σ, rfl, fr_refl _ _⟩
          · rw [if_pos (by decide), if_neg (by decide), mturned_ok hc hN hx hy1 c2, Option.bind_some]
            exact ⟨σ, rfl, fr_refl _ _⟩
        · rw [if_pos (by rw [ne_eq, iZ_lit, iZ_eq (bd_mono bx (by decide)) (bd_lit _ rfl)]; exact c3), if_neg c3, if_neg c3]
          obtain ⟨x0, x1⟩ := scd_idx hx1 c3 c1
          obtain ⟨y0, y1⟩ := scd_idx hy1 c4 c2
          obtain ⟨σ', h1, h2, h3⟩ := joins_ok hc hN hx (gp_get x0 x1) (gp_get y0 y1) hs
          rw [show ((x.toNat : Nat) : Int) = x from by omega, show ((y.toNat : Nat) : Int) = y from by omega] at h1
          rw [h1, Option.bind_some]
          refine ⟨σ', ?_, h3⟩
          rw [h2.2.1]
          rcases hs with rfl | rfl
          · rw [if_pos rfl, sgn_1]
          · rw [if_neg (by decide), sgn_m]
theorem msum1 (hc : CV a b M E) {N : Nat} (hN : 10000 ≤ N) {σ : aSt} (hx : MC a b M E σ) {x y : Int} (hx1 : scd a b M E x) (hy1 : scd a b M E y) : ∃ σ', f_M_sumOf N (iZ x) (iZ y) (1 : Int32) σ = some (iZ (addC a b M E x y), σ') ∧ fr fr23 σ σ' := msum_ok hc hN hx hx1 hy1 (s := 1) (Or.inl rfl)
/-- TIMES, the class -/
theorem mulL (hc : CV a b M E) {N : Nat} (hN : 10000 ≤ N) {x k : Int} (hx1 : scd a b M E x) (hk : bd 20 k) : ∀ (j n s : Nat) (σ : aSt), XC a b M E σ → s + j = k.natAbs → j + 1 ≤ n → mulC a b M E x s ≠ -6 → ∃ σ', f_Sums_multiple_l4 N n (iZ x) (iZ k) (iZ (mulC a b M E x s)) (iZ s) σ = some (iZ (timC a b M E x k), σ') ∧ fr fr22 σ σ' := by
  have k1 := hk.1
  have k2 := hk.2
  intro j
  induction j with
  | zero =>
    intro n s σ hx hs hn h6
    obtain ⟨n, rfl, hn⟩ := fuel hn
    have es : s = k.natAbs := by omega
    subst es
    rw [f_Sums_multiple_l4, iabs_Z (bd_mono hk (by decide)), if_pos (Int32.le_refl _)]
    unfold timC
    rw [if_neg h6]
    by_cases c : k < 0
    · rw [if_neg (by rw [iZ_lit, iZ_le (bd_lit _ rfl) (bd_mono hk (by decide))]; omega), if_pos c, turn_shown hc hx (mulC_scd hc hx1 _)]
      exact ⟨σ, rfl, fr_refl _ _⟩
    · rw [if_pos (by rw [iZ_lit, iZ_le (bd_lit _ rfl) (bd_mono hk (by decide))]; omega), if_neg c]
      exact ⟨σ, rfl, fr_refl _ _⟩
  | succ j ih =>
    intro n s σ hx hs hn h6
    obtain ⟨n, rfl, hn⟩ := fuel hn
    rw [f_Sums_multiple_l4, iabs_Z (bd_mono hk (by decide)), if_neg (by rw [iZ_le ⟨by omega, by omega⟩ ⟨by omega, by omega⟩]; omega)]
    obtain ⟨σ1, h1, h2⟩ := total_ok hc hN hx (mulC_scd hc hx1 s) hx1
    rw [h1, Option.bind_some]
    have hsc := mulC_scd hc hx1 (s + 1)
    rw [show addC a b M E (mulC a b M E x s) x = mulC a b M E x (s + 1) from rfl, min_6]
    by_cases c : mulC a b M E x (s + 1) = -6
    · rw [if_neg (by rw [c]; exact fun h => h rfl)]
      have far : ∀ t, mulC a b M E x (s + 1 + t) = -6 := fun t => by
        induction t with
        | zero => exact c
        | succ t iht =>
          show addC a b M E (mulC a b M E x (s + 1 + t)) x = -6
          rw [iht]; exact if_pos rfl
      have : timC a b M E x k = -6 := if_pos (by rw [show k.natAbs = s + 1 + j from by omega]; exact far j)
      rw [this]
      exact ⟨σ1, rfl, h2⟩
    · rw [if_pos (by rw [ne_eq, iZ_eq (bd_mono (scd_bd hsc) (by decide)) (bd_lit _ rfl)]; exact c), i1]
      obtain ⟨σ', g1, g2⟩ := ih n (s + 1) σ1 (XC_22 h2 hx) (by omega) (by omega) c
      exact ⟨σ', g1, fr_trans h2 g2⟩
theorem multiple_ok (hc : CV a b M E) {N : Nat} (hN : 10000 ≤ N) {x k : Int} (hx1 : scd a b M E x) (hk : bd 20 k) {σ : aSt} (hx : XC a b M E σ) : ∃ σ', f_Sums_multiple N (iZ x) (iZ k) σ = some (iZ (timC a b M E x k), σ') ∧ fr fr22 σ σ' := by
  have k1 := hk.1
  have k2 := hk.2
  exact mulL hc hN hx1 hk k.natAbs N 0 σ hx (by omega) (by omega) (by show (1000 : Int) ≠ -6; decide)
/-- .. the reference -/
theorem mtimL (hc : CV a b M E) {N : Nat} (hN : 10000 ≤ N) {x k : Int} (hx1 : scd a b M E x) (hk : bd 20 k) : ∀ (j n s : Nat) (σ : aSt), MC a b M E σ → s + j = k.natAbs → j + 1 ≤ n → ∃ σ', f_M_timesOf_l4 N n (iZ x) (iZ k) (iZ (mulC a b M E x s)) (iZ s) σ = some (iZ (timC a b M E x k), σ') ∧ fr fr23 σ σ' := by
  have k1 := hk.1
  have k2 := hk.2
  intro j
  induction j with
  | zero =>
    intro n s σ hx hs hn
    obtain ⟨n, rfl, hn⟩ := fuel hn
    have es : s = k.natAbs := by omega
    subst es
    have hsc := mulC_scd hc hx1 k.natAbs
    rw [f_M_timesOf_l4, iabs_Z (bd_mono hk (by decide)), if_pos (Int32.le_refl _), min_6]
    unfold timC
    by_cases c6 : mulC a b M E x k.natAbs = -6
    · rw [if_neg (by rw [c6]; exact fun h => h rfl), if_pos c6]
      exact ⟨σ, rfl, fr_refl _ _⟩
    · rw [if_pos (by rw [ne_eq, iZ_eq (bd_mono (scd_bd hsc) (by decide)) (bd_lit _ rfl)]; exact c6), if_neg c6]
      by_cases c : k < 0
      · rw [if_neg (by rw [iZ_lit, iZ_le (bd_lit _ rfl) (bd_mono hk (by decide))]; omega), if_pos c, mturned_ok hc hN hx hsc c6, Option.bind_some]
        exact ⟨σ, rfl, fr_refl _ _⟩
      · rw [if_pos (by rw [iZ_lit, iZ_le (bd_lit _ rfl) (bd_mono hk (by decide))]; omega), if_neg c]
        exact ⟨σ, rfl, fr_refl _ _⟩
  | succ j ih =>
    intro n s σ hx hs hn
    obtain ⟨n, rfl, hn⟩ := fuel hn
    rw [f_M_timesOf_l4, iabs_Z (bd_mono hk (by decide)), if_neg (by rw [iZ_le ⟨by omega, by omega⟩ ⟨by omega, by omega⟩]; omega)]
    obtain ⟨σ1, h1, h2⟩ := msum1 hc hN hx (mulC_scd hc hx1 s) hx1
    rw [h1, Option.bind_some, i1]
    obtain ⟨σ', g1, g2⟩ := ih n (s + 1) σ1 (MC_fr h2 ok23 hx) (by omega) (by omega)
    exact ⟨σ', g1, fr_trans h2 g2⟩
theorem mtimes_ok (hc : CV a b M E) {N : Nat} (hN : 10000 ≤ N) {x k : Int} (hx1 : scd a b M E x) (hk : bd 20 k) {σ : aSt} (hx : MC a b M E σ) : ∃ σ', f_M_timesOf N (iZ x) (iZ k) σ = some (iZ (timC a b M E x k), σ') ∧ fr fr23 σ σ' := by
  have k1 := hk.1
  have k2 := hk.2
  exact mtimL hc hN hx1 hk k.natAbs N 0 σ hx (by omega) (by omega)
/-- ORDER, the reference -/
theorem mordL (hc : CV a b M E) {N : Nat} (hN : 10000 ≤ N) {x : Int} (hx1 : scd a b M E x) : ∀ (j n k : Nat) (v : Int) (σ : aSt), MC a b M E σ → scd a b M E v → k + j = 13 → j + 1 ≤ n → ∃ σ', f_M_orderOf_l4 N n (iZ x) (iZ v) (iZ k) σ = some (iZ (ordA a b M E x j v k), σ') ∧ fr fr23 σ σ' := by
  intro j
  induction j with
  | zero =>
    intro n k v σ hx hv hk hn
    obtain ⟨n, rfl, hn⟩ := fuel hn
    rw [f_M_orderOf_l4, if_pos (by rw [iZ_lit, iZ_lt (bd_lit _ rfl) ⟨by omega, by omega⟩]; omega)]
    exact ⟨σ, rfl, fr_refl _ _⟩
  | succ j ih =>
    intro n k v σ hx hv hk hn
    obtain ⟨n, rfl, hn⟩ := fuel hn
    obtain ⟨σ1, h1, h2⟩ := msum1 hc hN hx hv hx1
    have hsc := addC_scd hc hv hx1
    rw [f_M_orderOf_l4, if_neg (by rw [iZ_lit, iZ_lt (bd_lit _ rfl) ⟨by omega, by omega⟩]; omega), h1, Option.bind_some, ordA, min_6]
    by_cases c1 : addC a b M E v x = 1000
    · rw [if_neg (by rw [c1]; exact fun h => h rfl), if_pos c1]
      exact ⟨σ1, rfl, h2⟩
    · rw [if_pos (by rw [ne_eq, iZ_lit, iZ_eq (bd_mono (scd_bd hsc) (by decide)) (bd_lit _ rfl)]; exact c1), if_neg c1]
      by_cases c2 : addC a b M E v x = -6
      · rw [if_neg (by rw [c2]; exact fun h => h rfl), if_pos c2]
        exact ⟨σ1, rfl, h2⟩
      · rw [if_pos (by rw [ne_eq, iZ_eq (bd_mono (scd_bd hsc) (by decide)) (bd_lit _ rfl)]; exact c2), if_neg c2, i1]
        obtain ⟨σ', g1, g2⟩ := ih n (k + 1) _ σ1 (MC_fr h2 ok23 hx) hsc (by omega) (by omega)
        exact ⟨σ', g1, fr_trans h2 g2⟩
theorem morder_ok (hc : CV a b M E) {N : Nat} (hN : 10000 ≤ N) {x : Int} (hx1 : scd a b M E x) {σ : aSt} (hx : MC a b M E σ) : ∃ σ', f_M_orderOf N (iZ x) σ = some (iZ (ordC a b M E x), σ') ∧ fr fr23 σ σ' :=
  mordL hc hN hx1 12 N 1 1000 σ hx (Or.inl rfl) (by omega) (by omega)
/-- .. the class, which keeps them -/
def OR (a b : Int) (M E : Nat) (σ : aSt) : Prop := ∀ i : Nat, i < (hL a b M E).length → σ.1 23 i = (-1 : Int32) ∨ σ.1 23 i = iZ (ordC a b M E (i : Int))
def fr2 : Nat → Nat → Bool := fun o _ => Nat.beq o 22 || Nat.beq o 23
theorem fr22_2 {σ σ' : aSt} (h : fr fr22 σ σ') : fr fr2 σ σ' := fr_mono h (fun o k q => by
  unfold fr2 at q
  rw [Bool.or_eq_false_iff] at q
  exact q.1)
theorem XC_2 {σ σ' : aSt} (hf : fr fr2 σ σ') (h : XC a b M E σ) : XC a b M E σ' := XC_fr hf (fun _ => ⟨rfl, rfl, rfl, rfl, rfl⟩) h
theorem OR_22 {σ σ' : aSt} (hf : fr fr22 σ σ') (h : OR a b M E σ) : OR a b M E σ' := fun i hi => by rw [(hf 23 i rfl).1]; exact h i hi
theorem OR_set {σ : aSt} {i : Nat} (h : OR a b M E σ) : OR a b M E (s_i σ 23 i (iZ (ordC a b M E (i : Int)))) := fun k hk => by
  by_cases c : k = i
  · subst c; rw [si_eq]; exact Or.inr rfl
  · rw [si_ne (Or.inr c)]; exact h k hk
theorem ordStore (hc : CV a b M E) {σ : aSt} (hx : XC a b M E σ) (ho : OR a b M E σ) {i : Nat} (hi : i < (hL a b M E).length) {v : Int} (hv : v = ordC a b M E (i : Int)) : ∃ σ', (lt (f_store σ 23 (iZ i) (iZ v)) fun x4 => some (iZ v, x4)) = some (iZ (ordC a b M E (i : Int)), σ') ∧ fr fr2 σ σ' ∧ OR a b M E σ' := by
  have hl := hL_le (a := a) (b := b) (M := M) (E := E)
  subst hv
  rw [lt_eq, store_in (by decide) (by decide) (by omega) (by show (i : Int) < (120 : Nat); omega)]
  exact ⟨_, rfl, fr_si rfl, by rw [show ((i : Nat) : Int).toNat = i from by omega]; exact OR_set ho⟩
theorem ordL (hc : CV a b M E) {N : Nat} (hN : 10000 ≤ N) {i : Nat} (hi : i < (hL a b M E).length) : ∀ (j n k : Nat) (v : Int) (σ : aSt), XC a b M E σ → OR a b M E σ → scd a b M E v → v ≠ -6 → k + j = 13 → 1 ≤ k → j + 2 ≤ n → ordA a b M E (i : Int) j v k = ordC a b M E (i : Int) → ∃ σ', f_Sums_orderOf_l21 N n (iZ i) (0 : Int32) (iZ v) (iZ k) σ = some (iZ (ordC a b M E (i : Int)), σ') ∧ fr fr2 σ σ' ∧ OR a b M E σ' := by
  have hl := hL_le (a := a) (b := b) (M := M) (E := E)
  have hsi : scd a b M E (i : Int) := Or.inr (Or.inr ⟨by omega, by omega⟩)
  intro j
  induction j with
  | zero =>
    intro n k v σ hx ho hv h6 hk hk1 hn he
    obtain ⟨n, rfl, hn⟩ := fuel hn
    rw [f_Sums_orderOf_l21, if_pos (by rw [iZ_lit, iZ_lt (bd_lit _ rfl) ⟨by omega, by omega⟩]; omega)]
    exact ordStore hc hx ho hi (v := 0) (by rw [← he]; rfl)
  | succ j ih =>
    intro n k v σ hx ho hv h6 hk hk1 hn he
    obtain ⟨n, rfl, hn⟩ := fuel hn
    obtain ⟨σ1, h1, h2⟩ := total_ok hc hN hx hv hsi
    have hsc := addC_scd hc hv hsi
    have hx1 := XC_22 h2 hx
    have ho1 := OR_22 h2 ho
    rw [f_Sums_orderOf_l21, if_neg (by rw [iZ_lit, iZ_lt (bd_lit _ rfl) ⟨by omega, by omega⟩]; omega), if_neg (fun h => h rfl), min_6, if_neg (by rw [iZ_eq (bd_mono (scd_bd hv) (by decide)) (bd_lit _ rfl)]; exact h6), h1, Option.bind_some]
    rw [ordA] at he
    by_cases c1 : addC a b M E v (i : Int) = 1000
    · rw [if_neg (by rw [c1]; exact fun h => h rfl), c1]
      rw [if_pos c1] at he
      obtain ⟨n, rfl, hn⟩ := fuel (n := n) (k := j + 1) (by omega)
      rw [f_Sums_orderOf_l21, min_6]
      have key := ordStore hc hx1 ho1 hi (v := (k : Int)) (by rw [← he])
      obtain ⟨σ', g1, g2, g3⟩ := key
      have fin : ∃ σ', (lt (f_store σ1 23 (iZ (i : Int)) (iZ (k : Int))) fun x4 => some (iZ (k : Int), x4)) = some (iZ (ordC a b M E (i : Int)), σ') ∧ fr fr2 σ σ' ∧ OR a b M E σ' := ⟨σ', g1, fr_trans (fr22_2 h2) g2, g3⟩
      rw [i1]
      by_cases c12 : 12 < k + 1
      · rw [if_pos (by rw [iZ_lit, iZ_lt (bd_lit _ rfl) ⟨by omega, by omega⟩]; omega)]
        exact fin
      · rw [if_neg (by rw [iZ_lit, iZ_lt (bd_lit _ rfl) ⟨by omega, by omega⟩]; omega)]
        rw [if_pos (by rw [ne_eq, iZ_lit, iZ_eq ⟨by omega, by omega⟩ (bd_lit _ rfl)]; omega)]
        exact fin
    · rw [if_pos (by rw [ne_eq, iZ_lit, iZ_eq (bd_mono (scd_bd hsc) (by decide)) (bd_lit _ rfl)]; exact c1), i1]
      rw [if_neg c1] at he
      by_cases c2 : addC a b M E v (i : Int) = -6
      · rw [if_pos c2] at he
        obtain ⟨n, rfl, hn⟩ := fuel (n := n) (k := j + 1) (by omega)
        obtain ⟨σ', g1, g2, g3⟩ := ordStore hc hx1 ho1 hi (v := 0) (by rw [← he]; rfl)
        have fin : ∃ σ', (lt (f_store σ1 23 (iZ (i : Int)) (0 : Int32)) fun x4 => some ((0 : Int32), x4)) = some (iZ (ordC a b M E (i : Int)), σ') ∧ fr fr2 σ σ' ∧ OR a b M E σ' := ⟨σ', g1, fr_trans (fr22_2 h2) g2, g3⟩
        rw [f_Sums_orderOf_l21, min_6]
        by_cases c12 : 12 < k + 1
        · rw [if_pos (by rw [iZ_lit, iZ_lt (bd_lit _ rfl) ⟨by omega, by omega⟩]; omega)]
          exact fin
        · rw [if_neg (by rw [iZ_lit, iZ_lt (bd_lit _ rfl) ⟨by omega, by omega⟩]; omega), if_neg (fun h => h rfl), if_pos (by rw [c2])]
          exact fin
      · rw [if_neg c2] at he
        obtain ⟨σ', g1, g2, g3⟩ := ih n (k + 1) _ σ1 hx1 ho1 hsc c2 (by omega) (by omega) (by omega) he
        exact ⟨σ', g1, fr_trans (fr22_2 h2) g2, g3⟩
theorem order_ok (hc : CV a b M E) {N : Nat} (hN : 10000 ≤ N) {x : Int} (hx1 : scd a b M E x) (h6 : x ≠ -6) {σ : aSt} (hx : XC a b M E σ) (ho : OR a b M E σ) : ∃ σ', f_Sums_orderOf N (iZ x) σ = some (iZ (ordC a b M E x), σ') ∧ fr fr2 σ σ' ∧ OR a b M E σ' := by
  have hl := hL_le (a := a) (b := b) (M := M) (E := E)
  unfold f_Sums_orderOf
  by_cases c : x = 1000
  · rw [if_neg (by rw [c]; exact fun h => h rfl), c]
    have e0 : addC a b M E 1000 1000 = 1000 := by
      unfold addC
      rw [if_neg (by decide), if_neg (by decide), if_pos rfl]
    have : ordC a b M E 1000 = 1 := by
      unfold ordC
      rw [ordA, if_pos e0]
    rw [this]
    exact ⟨σ, rfl, fr_refl _ _, ho⟩
  · obtain ⟨x0, x1⟩ := scd_idx hx1 c h6
    obtain ⟨i, rfl⟩ : ∃ i : Nat, x = i := ⟨x.toNat, by omega⟩
    rw [if_pos (by rw [ne_eq, iZ_lit, iZ_eq ⟨by omega, by omega⟩ (bd_lit _ rfl)]; exact c), pick_in (by decide) (by decide) (by omega) (by show (i : Int) < (120 : Nat); omega), show ((i : Nat) : Int).toNat = i from by omega]
    by_cases ck : σ.1 23 i = (-1 : Int32)
    · rw [if_pos ck]
      have he : ordA a b M E (i : Int) 11 (i : Int) 2 = ordC a b M E (i : Int) := by
        unfold ordC
        have e1 : addC a b M E 1000 (i : Int) = (i : Int) := by
          unfold addC
          rw [if_neg (by decide), if_neg (by omega), if_pos rfl]
        have e2 : ordA a b M E (i : Int) 12 1000 1 = ordA a b M E (i : Int) 11 (i : Int) 2 := by
          rw [ordA, e1, if_neg c, if_neg h6]
        exact e2.symm
      exact ordL hc hN (by omega) 11 N 2 (i : Int) σ hx ho hx1 h6 (by omega) (by omega) (by omega) he
    · rw [if_neg ck]
      rcases ho i (by omega) with q | q
      · exact absurd q ck
      · rw [q]; exact ⟨σ, rfl, fr_refl _ _, ho⟩
end CODES
