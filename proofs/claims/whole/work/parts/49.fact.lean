/-! related, solves -/
/-- of one s and size d of t, the first that hits -/
def pkD (hit : Int → Int → Bool) (s d : Int) : Option (Int × Int) := if d < 0 ∨ 5 < d then none else if hit s (-d) = true then some (s, -d) else if hit s d = true then some (s, d) else none
def scanD (hit : Int → Int → Bool) (s d : Int) : Nat → Int → Option (Int × Int)
  | 0, _ => none
  | j + 1, t => if (t.natAbs : Int) = d then (if hit s t = true then some (s, t) else scanD hit s d j (t + 1)) else scanD hit s d j (t + 1)
def scanS (hit : Int → Int → Bool) (g : Int) : Nat → Int → Option (Int × Int)
  | 0, _ => none
  | j + 1, s => match pkD hit s (g - s.natAbs) with
    | some r => some r
    | none => scanS hit g j (s + 1)
def scanG (hit : Int → Int → Bool) : Nat → Int → Option (Int × Int)
  | 0, _ => none
  | j + 1, g => match scanS hit g 11 (-5) with
    | some r => some r
    | none => scanG hit j (g + 1)
theorem scan_out {hit : Int → Int → Bool} {s d : Int} : ∀ (j : Nat) (t : Int), (∀ u : Int, t ≤ u → u < t + j → (u.natAbs : Int) ≠ d) → scanD hit s d j t = none
  | 0, _, _ => rfl
  | j + 1, t, h => by
    rw [scanD, if_neg (h t (Int.le_refl _) (by omega))]
    exact scan_out j (t + 1) (fun u h1 h2 => h u (by omega) (by omega))
theorem scan_pk (hit : Int → Int → Bool) (s d : Int) : scanD hit s d 11 (-5) = pkD hit s d := by
  unfold pkD
  by_cases c : d < 0 ∨ 5 < d
  · rw [if_pos c]
    exact scan_out 11 (-5) (fun u h1 h2 => by omega)
  · rw [if_neg c]
    have hd : d = 0 ∨ d = 1 ∨ d = 2 ∨ d = 3 ∨ d = 4 ∨ d = 5 := by omega
    rcases hd with rfl | rfl | rfl | rfl | rfl | rfl <;> (simp [scanD]; try (cases hit s 0 <;> rfl))
section OPS
variable {a b : Int} {M E : Nat}
def hitF (a b : Int) (M E : Nat) (x y g s t : Int) : Bool := if g = -1 then decide (addC a b M E (timC a b M E x s) (timC a b M E y t) ≠ -6 ∧ 0 < ordC a b M E (addC a b M E (timC a b M E x s) (timC a b M E y t))) else decide (addC a b M E (timC a b M E x s) (timC a b M E y t) = g)
theorem timC_scd (hc : CV a b M E) {x : Int} (hx : scd a b M E x) (k : Int) : scd a b M E (timC a b M E x k) := by
  unfold timC
  by_cases c : mulC a b M E x k.natAbs = -6
  · rw [if_pos c]; exact Or.inr (Or.inl rfl)
  · rw [if_neg c]
    by_cases c2 : k < 0
    · rw [if_pos c2]; exact negC_scd hc
    · rw [if_neg c2]; exact mulC_scd hc hx _
def frT : Nat → Nat → Bool := fun o k => Nat.beq o 22 || Nat.beq o 23 || Nat.beq o 24 || Nat.beq o 25 || (Nat.beq o 21 && (Nat.beq k 6 || Nat.beq k 7))
theorem fr22_T {σ σ' : aSt} (h : fr fr22 σ σ') : fr frT σ σ' := fr_mono h (fun o k q => by
  unfold frT at q
  rw [Bool.or_eq_false_iff, Bool.or_eq_false_iff, Bool.or_eq_false_iff, Bool.or_eq_false_iff] at q
  exact q.1.1.1.1)
theorem fr2_T {σ σ' : aSt} (h : fr fr2 σ σ') : fr frT σ σ' := fr_mono h (fun o k q => by
  unfold frT at q
  rw [Bool.or_eq_false_iff, Bool.or_eq_false_iff, Bool.or_eq_false_iff] at q
  unfold fr2
  exact q.1.1.1)
theorem XC_T {σ σ' : aSt} (hf : fr frT σ σ') (h : XC a b M E σ) : XC a b M E σ' := XC_fr hf (fun _ => ⟨rfl, rfl, rfl, rfl, rfl⟩) h
/-- the rows of TIMES -/
def TM (a b : Int) (M E : Nat) (x y : Int) (σ : aSt) (lo : Int) : Prop := ∀ k : Int, -5 ≤ k → k < lo → σ.1 24 (k + 5).toNat = iZ (timC a b M E x k) ∧ σ.1 25 (k + 5).toNat = iZ (timC a b M E y k)
theorem TM_fr {S : Nat → Nat → Bool} {σ σ' : aSt} {x y lo : Int} (hf : fr S σ σ') (hS : ∀ k, S 24 k = false ∧ S 25 k = false) (h : TM a b M E x y σ lo) : TM a b M E x y σ' lo := fun k h1 h2 => by
  rw [(hf 24 _ (hS _).1).1, (hf 25 _ (hS _).2).1]; exact h k h1 h2
theorem fillL (hc : CV a b M E) {N : Nat} (hN : 10000 ≤ N) {x y : Int} (hx1 : scd a b M E x) (hy1 : scd a b M E y) : ∀ (j n : Nat) (k : Int) (σ : aSt), XC a b M E σ → OR a b M E σ → k + j = 6 → -5 ≤ k → j + 1 ≤ n → TM a b M E x y σ k → ∃ σ', f_Sums_fillTimes_l2 N n (iZ x) (iZ y) (iZ k) σ = some σ' ∧ fr frT σ σ' ∧ OR a b M E σ' ∧ TM a b M E x y σ' 6 := by
  intro j
  induction j with
  | zero =>
    intro n k σ hx ho hk hk5 hn ht
    obtain ⟨n, rfl, hn⟩ := fuel hn
    have : k = 6 := by omega
    subst this
    rw [f_Sums_fillTimes_l2, if_pos (by decide)]
    exact ⟨σ, rfl, fr_refl _ _, ho, ht⟩
  | succ j ih =>
    intro n k σ hx ho hk hk5 hn ht
    obtain ⟨n, rfl, hn⟩ := fuel hn
    obtain ⟨σ1, g1, g2⟩ := multiple_ok hc hN hx1 (k := k) ⟨by omega, by omega⟩ hx
    rw [f_Sums_fillTimes_l2, if_neg (by rw [iZ_lit, iZ_lt (bd_lit _ rfl) ⟨by omega, by omega⟩]; omega), g1, Option.bind_some, lt_eq, iZ_lit 5, iZ_add]
    simp only
    rw [store_in (row := 24) (i := k + 5) (by decide) (by decide) (by omega) (by show k + 5 < ((11 : Nat) : Int); omega)]
    have hx2 : XC a b M E (s_i σ1 24 (k + 5).toNat (iZ (timC a b M E x k))) := XC_T (fr_trans (fr22_T g2) (fr_si rfl)) hx
    obtain ⟨σ2, g3, g4⟩ := multiple_ok hc hN hy1 (k := k) ⟨by omega, by omega⟩ hx2
    rw [g3, Option.bind_some, lt_eq]
    simp only
    rw [store_in (row := 25) (i := k + 5) (by decide) (by decide) (by omega) (by show k + 5 < ((11 : Nat) : Int); omega), show iZ k + (1 : Int32) = iZ (k + 1) from by rw [iZ_lit, iZ_add]]
    have f3 : fr frT σ (s_i σ2 25 (k + 5).toNat (iZ (timC a b M E y k))) := fr_trans (fr_trans (fr_trans (fr22_T g2) (fr_si rfl)) (fr22_T g4)) (fr_si rfl)
    have ho3 : OR a b M E (s_i σ2 25 (k + 5).toNat (iZ (timC a b M E y k))) := fun i hi => by
      rw [si_ne (Or.inl (by decide)), (g4 23 i rfl).1, si_ne (Or.inl (by decide)), (g2 23 i rfl).1]; exact ho i hi
    have ht3 : TM a b M E x y (s_i σ2 25 (k + 5).toNat (iZ (timC a b M E y k))) (k + 1) := fun u h1 h2 => by
      by_cases cu : u = k
      · subst cu
        rw [si_eq, si_ne (Or.inl (by decide)), (g4 24 _ rfl).1, si_eq]
        exact ⟨rfl, rfl⟩
      · obtain ⟨t1, t2⟩ := ht u h1 (by omega)
        rw [si_ne (Or.inl (by decide)), (g4 24 _ rfl).1, si_ne (Or.inr (by omega)), (g2 24 _ rfl).1, si_ne (Or.inr (by omega)), (g4 25 _ rfl).1, si_ne (Or.inl (by decide)), (g2 25 _ rfl).1]
        exact ⟨t1, t2⟩
    obtain ⟨σ', e1, e2, e3, e4⟩ := ih n (k + 1) _ (XC_T f3 hx) ho3 (by omega) (by omega) (by omega) ht3
    exact ⟨σ', e1, fr_trans f3 e2, e3, e4⟩
theorem reaches_ok (hc : CV a b M E) {N : Nat} (hN : 10000 ≤ N) {x y g : Int} (hx1 : scd a b M E x) (hy1 : scd a b M E y) (hg : bd 2000 g) {s t : Int} (hs : bd 5 s) (ht : bd 5 t) {σ : aSt} (hx : XC a b M E σ) (ho : OR a b M E σ) (htm : TM a b M E x y σ 6) : ∃ σ', f_Sums_reaches N (iZ s) (iZ t) (iZ g) σ = some (hitF a b M E x y g s t, σ') ∧ fr frT σ σ' ∧ OR a b M E σ' ∧ TM a b M E x y σ' 6 ∧ σ'.1 21 6 = iZ s ∧ σ'.1 21 7 = iZ t := by
  have s1 := hs.1; have s2 := hs.2; have t1 := ht.1; have t2 := ht.2
  obtain ⟨σ0, hσ0⟩ : ∃ σ0, σ0 = s_i (s_i σ 21 6 (iZ s)) 21 7 (iZ t) := ⟨_, rfl⟩
  have f0 : fr frT σ σ0 := by rw [hσ0]; exact fr_trans (fr_si rfl) (fr_si rfl)
  have c6 : σ0.1 21 6 = iZ s := by rw [hσ0]; rfl
  have c7 : σ0.1 21 7 = iZ t := by rw [hσ0]; rfl
  have p1 : f_pick σ0 24 (iZ s + (5 : Int32)) = iZ (timC a b M E x s) := by
    rw [iZ_lit, iZ_add, pick_in (by decide) (by decide) (by omega) (by show s + 5 < ((11 : Nat) : Int); omega), hσ0, si_ne (Or.inl (by decide)), si_ne (Or.inl (by decide))]
    exact (htm s (by omega) (by omega)).1
  have p2 : f_pick σ0 25 (iZ t + (5 : Int32)) = iZ (timC a b M E y t) := by
    rw [iZ_lit, iZ_add, pick_in (by decide) (by decide) (by omega) (by show t + 5 < ((11 : Nat) : Int); omega), hσ0, si_ne (Or.inl (by decide)), si_ne (Or.inl (by decide))]
    exact (htm t (by omega) (by omega)).2
  have ho0 : OR a b M E σ0 := fun i hi => by rw [hσ0, si_ne (Or.inl (by decide)), si_ne (Or.inl (by decide))]; exact ho i hi
  have htm0 : TM a b M E x y σ0 6 := fun u h1 h2 => by
    rw [hσ0, si_ne (Or.inl (by decide)), si_ne (Or.inl (by decide)), si_ne (Or.inl (by decide)), si_ne (Or.inl (by decide))]; exact htm u h1 h2
  have hx0 := XC_T f0 hx
  obtain ⟨σ1, g1, g2⟩ := total_ok hc hN hx0 (timC_scd hc hx1 s) (timC_scd hc hy1 t)
  unfold f_Sums_reaches
  rw [← hσ0, p1, p2, g1, Option.bind_some]
  have ho1 := OR_22 g2 ho0
  have htm1 : TM a b M E x y σ1 6 := TM_fr g2 (fun _ => ⟨rfl, rfl⟩) htm0
  have hsc := addC_scd hc (timC_scd hc hx1 s) (timC_scd hc hy1 t)
  have k6 : σ1.1 21 6 = iZ s := by rw [(g2 21 6 rfl).1]; exact c6
  have k7 : σ1.1 21 7 = iZ t := by rw [(g2 21 7 rfl).1]; exact c7
  have f1 := fr_trans f0 (fr22_T g2)
  unfold hitF
  obtain ⟨v, hv⟩ : ∃ v, v = addC a b M E (timC a b M E x s) (timC a b M E y t) := ⟨_, rfl⟩
  rw [← hv] at hsc ⊢
  simp only
  have m1 : (-1 : Int32) = iZ (-1) := by decide
  rw [m1, min_6]
  by_cases cg : g = -1
  · rw [if_neg (by rw [cg]; exact fun h => h rfl), if_pos cg]
    by_cases c6' : v = -6
    · rw [if_pos (by rw [c6']), decide_eq_false (fun h => h.1 c6')]
      exact ⟨σ1, rfl, f1, ho1, htm1, k6, k7⟩
    · rw [if_neg (by rw [iZ_eq (bd_mono (scd_bd hsc) (by decide)) (bd_lit _ rfl)]; exact c6')]
      obtain ⟨σ2, e1, e2, e3⟩ := order_ok hc hN hsc c6' (XC_22 g2 hx0) ho1
      have hob : ordC a b M E v < 2147483648 := by
        have : ∀ (n : Nat) (v : Int) (k : Nat), ordA a b M E v n v k ≤ ordA a b M E v n v k := fun _ _ _ => Nat.le_refl _
        have h12 : ∀ (n : Nat) (x w : Int) (k : Nat), ordA a b M E x n w k ≤ k + n := by
          intro n
          induction n with
          | zero => intro x w k; exact Nat.zero_le _
          | succ n ihn =>
            intro x w k
            rw [ordA]
            by_cases q1 : addC a b M E w x = 1000
            · rw [if_pos q1]; omega
            · rw [if_neg q1]
              by_cases q2 : addC a b M E w x = -6
              · rw [if_pos q2]; omega
              · rw [if_neg q2]
                have := ihn x (addC a b M E w x) (k + 1)
                omega
        have := h12 12 v 1000 1
        unfold ordC
        omega
      rw [e1, Option.bind_some]
      have k6' : σ2.1 21 6 = iZ s := by rw [(e2 21 6 rfl).1]; exact k6
      have k7' : σ2.1 21 7 = iZ t := by rw [(e2 21 7 rfl).1]; exact k7
      have htm2 : TM a b M E x y σ2 6 := TM_fr e2 (fun _ => ⟨rfl, rfl⟩) htm1
      simp only
      by_cases c0 : 0 < ordC a b M E v
      · rw [if_neg (by rw [iZ_lit, iZ_le ⟨by omega, by omega⟩ (bd_lit _ rfl)]; omega), decide_eq_true ⟨c6', c0⟩]
        exact ⟨σ2, rfl, fr_trans f1 (fr2_T e2), e3, htm2, k6', k7'⟩
      · rw [if_pos (by rw [iZ_lit, iZ_le ⟨by omega, by omega⟩ (bd_lit _ rfl)]; omega), decide_eq_false (fun h => c0 h.2)]
        exact ⟨σ2, rfl, fr_trans f1 (fr2_T e2), e3, htm2, k6', k7'⟩
  · rw [if_pos (by rw [ne_eq, iZ_eq (bd_mono hg (by decide)) (bd_lit _ rfl)]; exact cg), if_neg cg]
    by_cases cv : v = g
    · rw [if_neg (by rw [cv]; exact fun h => h rfl), decide_eq_true cv]
      exact ⟨σ1, rfl, f1, ho1, htm1, k6, k7⟩
    · rw [if_pos (by rw [ne_eq, iZ_eq (bd_mono (scd_bd hsc) (by decide)) (bd_mono hg (by decide))]; exact cv), decide_eq_false cv]
      exact ⟨σ1, rfl, f1, ho1, htm1, k6, k7⟩
end OPS
