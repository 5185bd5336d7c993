/-! THE LIST, as mathematics: a POINT is (m, n, e) -/
abbrev Pt : Type := Int × Int × Int
def pv (a b m e : Int) : Int := m * (m * m + a * m * (e * e) + b * (e * e) * (e * e))
/-- the POINTS with one m and e -/
def ptsAt (a b e m : Int) : List Pt := if Int.gcd m e = 1 ∧ isq (pv a b m e) = true then (if rtN (pv a b m e).toNat = 0 then [(m, 0, e)] else [(m, -(rtN (pv a b m e).toNat : Int), e), (m, (rtN (pv a b m e).toNat : Int), e)]) else []
/-- those with one e, by m -/
def rowB (a b : Int) (M : Nat) (e : Int) : List (List Pt) := (List.range' 0 (2 * M + 1)).map (fun k : Nat => ptsAt a b e ((k : Int) - M))
def allB (a b : Int) (M E : Nat) : List (List Pt) := (List.range' 1 E).flatMap (fun e : Nat => rowB a b M (e : Int))
def stp (L x : List Pt) : List Pt := if L.length < 120 then L ++ x else L
/-- what the class holds: whole blocks, till there are 120 -/
def hX (a b : Int) (M E : Nat) : List Pt := (allB a b M E).foldl stp []
/-- the LIST -/
def hL (a b : Int) (M E : Nat) : List Pt := ((allB a b M E).flatten).take 120
theorem take_app {α : Type} (n : Nat) (A B : List α) : (A.take n ++ B).take n = (A ++ B).take n := by
  rcases Nat.le_total A.length n with q | q
  · rw [List.take_of_length_le q]
  · rw [List.take_append_of_le_length (by rw [List.length_take]; omega), List.take_append_of_le_length q, List.take_take]
    congr 1
    omega
theorem fold_full : ∀ (bs : List (List Pt)) (L : List Pt), 120 ≤ L.length → bs.foldl stp L = L
  | [], L, _ => rfl
  | b :: bs, L, h => by
    rw [List.foldl_cons, show stp L b = L from if_neg (by omega)]
    exact fold_full bs L h
theorem fold_take : ∀ (bs : List (List Pt)) (L : List Pt), (bs.foldl stp L).take 120 = (L ++ bs.flatten).take 120
  | [], L => by rw [List.foldl_nil, List.flatten_nil, List.append_nil]
  | b :: bs, L => by
    rw [List.foldl_cons, List.flatten_cons]
    by_cases c : L.length < 120
    · rw [show stp L b = L ++ b from if_pos c, fold_take bs (L ++ b), List.append_assoc]
    · rw [fold_full bs (stp L b) (by rw [show stp L b = L from if_neg c]; omega), show stp L b = L from if_neg c, List.take_append_of_le_length (by omega)]
theorem hX_take (a b : Int) (M E : Nat) : (hX a b M E).take 120 = hL a b M E := fold_take _ []
/-- blocks that are empty don't count -/
theorem fold_filter {α : Type} (f : α → List Pt) (p : α → Bool) : ∀ (l : List α) (L : List Pt), (∀ x ∈ l, p x = false → f x = []) → ((l.filter p).map f).foldl stp L = (l.map f).foldl stp L
  | [], L, _ => rfl
  | x :: l, L, h => by
    have ih := fun L => fold_filter f p l L (fun y hy => h y (List.mem_cons_of_mem _ hy))
    cases q : p x with
    | true => rw [List.filter_cons_of_pos q, List.map_cons, List.map_cons, List.foldl_cons, List.foldl_cons, ih]
    | false =>
      have e : stp L (f x) = L := by
        rw [h x List.mem_cons_self q]
        unfold stp
        rw [List.append_nil]
        by_cases c : L.length < 120
        · rw [if_pos c]
        · rw [if_neg c]
      rw [List.filter_cons_of_neg (by rw [q]; decide), List.map_cons, List.foldl_cons, e, ih]
/-- a prefix of the blocks -/
theorem fold_pre : ∀ (bs : List (List Pt)) (L : List Pt), ∃ j, bs.foldl stp L = L ++ (bs.take j).flatten
  | [], L => ⟨0, by rw [List.foldl_nil, List.take_nil, List.flatten_nil, List.append_nil]⟩
  | b :: bs, L => by
    rw [List.foldl_cons]
    by_cases c : L.length < 120
    · obtain ⟨j, hj⟩ := fold_pre bs (L ++ b)
      exact ⟨j + 1, by rw [show stp L b = L ++ b from if_pos c, hj, List.take_succ_cons, List.flatten_cons, List.append_assoc]⟩
    · exact ⟨0, by rw [show stp L b = L from if_neg c, fold_full bs L (by omega), List.take_zero, List.flatten_nil, List.append_nil]⟩
theorem fold_len : ∀ (bs : List (List Pt)) (L : List Pt), L.length ≤ 121 → (∀ b ∈ bs, b.length ≤ 2) → (bs.foldl stp L).length ≤ 121
  | [], L, h, _ => h
  | b :: bs, L, h, hb => by
    rw [List.foldl_cons]
    refine fold_len bs _ ?_ (fun x hx => hb x (List.mem_cons_of_mem _ hx))
    have := hb b List.mem_cons_self
    unfold stp
    by_cases c : L.length < 120
    · rw [if_pos c, List.length_append]; omega
    · rw [if_neg c]; exact h
theorem ptsAt_len (a b e m : Int) : (ptsAt a b e m).length ≤ 2 := by
  unfold ptsAt
  by_cases c : Int.gcd m e = 1 ∧ isq (pv a b m e) = true
  · rw [if_pos c]
    by_cases c2 : rtN (pv a b m e).toNat = 0
    · rw [if_pos c2]; exact Nat.le_succ 1
    · rw [if_neg c2]; exact Nat.le_refl 2
  · rw [if_neg c]; exact Nat.zero_le 2
theorem get_snoc {α : Type} {L : List α} {p q : α} {i : Nat} (h : (L ++ [p])[i]? = some q) : (i < L.length ∧ L[i]? = some q) ∨ (i = L.length ∧ q = p) := by
  rcases Nat.lt_or_ge i L.length with c | c
  · rw [List.getElem?_append_left c] at h
    exact Or.inl ⟨c, h⟩
  · rw [List.getElem?_append_right c] at h
    have h2 : i - L.length = 0 := by
      rcases Nat.eq_zero_or_pos (i - L.length) with z | z
      · exact z
      · rw [List.getElem?_eq_none (by show 1 ≤ i - L.length; omega)] at h
        cases h
    rw [h2] at h
    exact Or.inr ⟨by omega, by cases h; rfl⟩
theorem get_lt {α : Type} {L : List α} {q : α} {i : Nat} (h : L[i]? = some q) : i < L.length := by
  rcases Nat.lt_or_ge i L.length with c | c
  · exact c
  · rw [List.getElem?_eq_none c] at h
    cases h
theorem get_some {α : Type} {L : List α} {i : Nat} (h : i < L.length) : ∃ q, L[i]? = some q := ⟨L[i], List.getElem?_eq_getElem h⟩
/-- bounds within which all is done -/
def inB (a b : Int) : Prop := bd 120 a ∧ bd 4400 b
theorem pv_bd {a b m e : Int} (hab : inB a b) (hm : bd 1000 m) (he : bd 6 e) : bd 20000000000 (pv a b m e) := by
  unfold pv
  have he2 := bd_mul he he
  exact bd_mono (bd_mul hm (bd_add (bd_add (bd_mul hm hm) (bd_mul (bd_mul hab.1 hm) he2)) (bd_mul (bd_mul hab.2 he2) he2))) (by decide)
theorem rt_bd {v : Nat} (h : v ≤ 20000000000) : rtN v ≤ 141422 := by
  have h1 := (rtN_ok v).1
  have : rtN v < 141423 := sq_lt (by omega)
  omega
theorem isq_iff {z : Int} : isq z = true ↔ 0 ≤ z ∧ rtN z.toNat * rtN z.toNat = z.toNat := by
  unfold isq
  rw [Bool.and_eq_true, decide_eq_true_eq, decide_eq_true_eq]
theorem isq_of {n z : Int} (h : n * n = z) : isq z = true := by
  rw [isq_iff]
  have e : z = ((n.natAbs * n.natAbs : Nat) : Int) := by
    rw [← h, Int.natCast_mul, ← Int.natAbs_mul_self' n]
  rw [e]
  refine ⟨by omega, ?_⟩
  rw [Int.toNat_natCast, rtN_sq]
/-- what every POINT of a list is -/
def isPt (a b : Int) (M E : Nat) (p : Pt) : Prop := bd M p.1 ∧ 1 ≤ p.2.2 ∧ p.2.2 ≤ E ∧ Int.gcd p.1 p.2.2 = 1 ∧ p.2.1 * p.2.1 = pv a b p.1 p.2.2
theorem ptsAt_mem {a b e m : Int} {p : Pt} (h : p ∈ ptsAt a b e m) : p.1 = m ∧ p.2.2 = e ∧ Int.gcd m e = 1 ∧ p.2.1 * p.2.1 = pv a b m e := by
  unfold ptsAt at h
  by_cases c : Int.gcd m e = 1 ∧ isq (pv a b m e) = true
  · rw [if_pos c] at h
    obtain ⟨c0, c1⟩ := c
    rw [isq_iff] at c1
    have e1 : ((rtN (pv a b m e).toNat : Nat) : Int) * ((rtN (pv a b m e).toNat : Nat) : Int) = pv a b m e := by
      rw [← Int.natCast_mul, c1.2]; omega
    by_cases c2 : rtN (pv a b m e).toNat = 0
    · rw [if_pos c2] at h
      have := List.mem_singleton.mp h
      subst this
      rw [c2] at e1
      exact ⟨rfl, rfl, c0, e1⟩
    · rw [if_neg c2] at h
      rcases List.mem_cons.mp h with h | h
      · subst h
        refine ⟨rfl, rfl, c0, ?_⟩
        show -((rtN (pv a b m e).toNat : Nat) : Int) * -((rtN (pv a b m e).toNat : Nat) : Int) = _
        rw [Int.neg_mul_neg]; exact e1
      · have := List.mem_singleton.mp h
        subst this
        exact ⟨rfl, rfl, c0, e1⟩
  · rw [if_neg c] at h
    cases h
theorem allB_mem {a b : Int} {M E : Nat} {x : List Pt} (h : x ∈ allB a b M E) : ∃ e k : Nat, 1 ≤ e ∧ e ≤ E ∧ k < 2 * M + 1 ∧ x = ptsAt a b e ((k : Int) - M) := by
  unfold allB at h
  obtain ⟨e, he, hx⟩ := List.mem_flatMap.mp h
  unfold rowB at hx
  obtain ⟨k, hk, hx⟩ := List.mem_map.mp hx
  rw [List.mem_range'_1] at he hk
  exact ⟨e, k, he.1, by omega, by omega, hx.symm⟩
theorem hX_mem {a b : Int} {M E : Nat} {p : Pt} (h : p ∈ hX a b M E) : ∃ x ∈ allB a b M E, p ∈ x := by
  obtain ⟨j, hj⟩ := fold_pre (allB a b M E) []
  unfold hX at h
  rw [hj, List.nil_append] at h
  obtain ⟨x, hx, hp⟩ := List.mem_flatten.mp h
  exact ⟨x, List.mem_of_mem_take hx, hp⟩
theorem hX_pt {a b : Int} {M E : Nat} {p : Pt} (h : p ∈ hX a b M E) : isPt a b M E p := by
  obtain ⟨x, hx, hp⟩ := hX_mem h
  obtain ⟨e, k, h1, h2, h3, rfl⟩ := allB_mem hx
  obtain ⟨a1, a2, a3, a4⟩ := ptsAt_mem hp
  unfold isPt
  rw [a1, a2]
  exact ⟨⟨by omega, by omega⟩, by omega, by omega, a3, a4⟩
theorem hX_len (a b : Int) (M E : Nat) : (hX a b M E).length ≤ 121 := fold_len _ [] (Nat.zero_le _) (fun x hx => by
  obtain ⟨e, k, _, _, _, rfl⟩ := allB_mem hx
  exact ptsAt_len _ _ _ _)
/-- where there are POINTS, m is a square times a divisor of b without squares -/
theorem sieve_ok {a b e m : Int} (hb : b ≠ 0) (hm : m ≠ 0) (hm2 : bd 1000 m) (h : ptsAt a b e m ≠ []) : ∃ d r : Nat, 0 < d ∧ 0 < r ∧ sqf d ∧ m.natAbs = d * (r * r) ∧ (d : Int) ∣ b := by
  obtain ⟨p, hp⟩ := List.exists_mem_of_ne_nil _ h
  obtain ⟨-, -, hg, hn⟩ := ptsAt_mem hp
  have hm3 : m.natAbs < 10000 := by have := hm2.1; have := hm2.2; omega
  obtain ⟨s1, s2, s3, r, s4, s5⟩ := sfp_ok (v := m.natAbs) (by omega) hm3
  refine ⟨sfp m.natAbs, r, s1, s5, s3, s4, ?_⟩
  have hdm : sfp m.natAbs ∣ m.natAbs := ⟨r * r, s4⟩
  have key : sfp m.natAbs ∣ b.natAbs := by
    refine sieve_nat (r := r) (w := (m * m + a * m * (e * e) + b * (e * e) * (e * e)).natAbs) (n := p.2.1.natAbs) (e := e.natAbs) s1 s5 s3 ?_ ?_ ?_
    · rw [← s4, ← Int.natAbs_mul, ← Int.natAbs_mul, hn]
      rfl
    · exact Nat.Coprime.coprime_dvd_left hdm hg
    · intro c hc hw
      have i1 : (c : Int) ∣ m * m + a * m * (e * e) + b * (e * e) * (e * e) := Int.ofNat_dvd_left.mpr hw
      have i2 : (c : Int) ∣ m := Int.ofNat_dvd_left.mpr (Nat.dvd_trans hc hdm)
      have i3 : (c : Int) ∣ m * (m + a * (e * e)) := Int.dvd_trans i2 ⟨_, rfl⟩
      have i4 : (c : Int) ∣ b * (e * e * (e * e)) := by
        have e4 : b * (e * e * (e * e)) = (m * m + a * m * (e * e) + b * (e * e) * (e * e)) - m * (m + a * (e * e)) := by grind
        rw [e4]
        exact Int.dvd_sub i1 i3
      have i5 := Int.ofNat_dvd_left.mp i4
      rw [Int.natAbs_mul, Int.natAbs_mul, Int.natAbs_mul] at i5
      exact i5
  exact Int.ofNat_dvd_left.mpr key
