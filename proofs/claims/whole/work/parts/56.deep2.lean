/-! deep: the recursion, the class -/
section DEEP
variable {a b : Int} {M E : Nat}
theorem isM_of (hc : CV a b M E) {S : Nat → Bool} {i w : Nat} (hi : i < (hL a b M E).length) (h : isMl a b M E S i (hL a b M E).length w) : isM a b M E S i w := by
  constructor
  · rcases h.1 with h0 | ⟨q, h1, h2, h3, h4, h5⟩
    · rw [h0]; exact Aw_0 hi
    · have := (Aw_succ hc hi (S := S) (t := w - 1)).mpr ⟨q, h1, h2, h3, h4, h5⟩
      by_cases cw : w = 0
      · rw [cw]; exact Aw_0 hi
      · rw [show w - 1 + 1 = w from by omega] at this; exact this
  · intro t ht
    cases t with
    | zero => exact Nat.zero_le _
    | succ t =>
      obtain ⟨q, h1, h2, h3, h4, h5⟩ := (Aw_succ hc hi).mp ht
      exact h.2 q t h1 h2 h3 h4 h5
theorem isM_lt (hc : CV a b M E) {S : Nat → Bool} {i w : Nat} (hi : i < (hL a b M E).length) (h : isM a b M E S i w) : w < (hL a b M E).length := by
  obtain ⟨j, h1, h2, h3⟩ := h.1
  exact way_lt hc h1 hi h2 (fun s hs => (h3 s hs).1)
theorem isM_congr {S S' : Nat → Bool} (h : ∀ m, m < (hL a b M E).length → S m = S' m) {i w : Nat} (hA : isM a b M E S i w) : isM a b M E S' i w := ⟨Aw_congr h hA.1, fun t ht => hA.2 t (Aw_congr (fun m hm => (h m hm).symm) ht)⟩
theorem deepOf_ok (hc : CV a b M E) {N : Nat} (hN : 10000 ≤ N) : ∀ (D i : Nat) (S : Nat → Bool) (τ : aSt), i < (hL a b M E).length → S i = false → MC a b M E τ → (∀ m, m < (hL a b M E).length → τ.2.2 83 m = S m) → 121 ≤ cnt S (hL a b M E).length + D → ∃ (v : Nat) (τ' : aSt), f_M_deepOf N D (iZ i) τ = some (iZ (v + 1 : Int), τ') ∧ fr frD τ τ' ∧ v < 120 ∧ isM a b M E S i v ∧ ∀ m, m < (hL a b M E).length → τ'.2.2 83 m = S m := by
  have hl := hL_le (a := a) (b := b) (M := M) (E := E)
  intro D
  induction D with
  | zero =>
    intro i S τ hi hSi hm hS hD
    have := cnt_le S (hL a b M E).length
    omega
  | succ D ih =>
    intro i S τ hi hSi hm hS hD
    rw [f_M_deepOf]
    unfold f_M_deepOf_body
    rw [if_pos (by rw [iZ_lit, iZ_lit, iZ_le (bd_lit _ rfl) ⟨by omega, by omega⟩, iZ_lt ⟨by omega, by omega⟩ (bd_lit _ rfl)]; omega), iZ_idx (by omega) (by omega), Int.toNat_natCast]
    have f0 : fr frD τ (s_b τ 83 i true) := fr_sb rfl
    have hS0 : ∀ m, m < (hL a b M E).length → (s_b τ 83 i true).2.2 83 m = (S m || decide (m = i)) := fun m hmm => by
      by_cases c : m = i
      · subst c; rw [sb_eq, decide_eq_true rfl, Bool.or_true]
      · rw [sb_ne (Or.inr c), hS m hmm, decide_eq_false c, Bool.or_false]
    have hcn : cnt (fun m => S m || decide (m = i)) (hL a b M E).length = cnt S (hL a b M E).length + 1 := by
      refine cnt_add (v := i) hSi (by show (S i || decide (i = i)) = true; rw [decide_eq_true rfl, Bool.or_true]) (fun k hk => ?_) _ hi
      show S k = (S k || decide (k = i))
      rw [decide_eq_false hk, Bool.or_false]
    obtain ⟨w, τ', q1, q2, q3, q4, q5⟩ := deepL hc hN hi hSi (f_M_deepOf N D) (fun q τq hq hqi hSq hmq hSq2 => by
      obtain ⟨v, τ2, e1, e2, e3, e4, e5⟩ := ih q (fun m => S m || decide (m = i)) τq hq (by show (S q || decide (q = i)) = false; rw [hSq, decide_eq_false hqi]; rfl) hmq hSq2 (by rw [hcn]; omega)
      exact ⟨v, τ2, e1, e2, e3, e4, e5⟩) (hL a b M E).length N 0 0 (s_b τ 83 i true) (MC_fr f0 okD hm) hS0 (Nat.zero_add _) (by omega) (by omega) ⟨Or.inl rfl, fun q t h => by omega⟩
    have hM := isM_of hc hi q3
    have := isM_lt hc hi hM
    exact ⟨w, τ', q1, fr_trans f0 q2, by omega, hM, q5⟩
theorem mdeepL (hc : CV a b M E) {N : Nat} (hN : 10000 ≤ N) {i : Nat} (hi : i < (hL a b M E).length) : ∀ (j n k : Nat) (τ : aSt), MC a b M E τ → k + j = 120 → j + 1 ≤ n → (∀ m, m < k → τ.2.2 83 m = false) → ∃ (v : Nat) (τ' : aSt), f_M_deep_l8 N n (iZ i) (iZ k) τ = some (iZ (v + 1 : Int), τ') ∧ fr frD τ τ' ∧ isM a b M E (fun _ => false) i v := by
  have hl := hL_le (a := a) (b := b) (M := M) (E := E)
  intro j
  induction j with
  | zero =>
    intro n k τ hm hk hn hS
    obtain ⟨n, rfl, hn⟩ := fuel hn
    rw [f_M_deep_l8, if_pos (by rw [iZ_lit, iZ_le (bd_lit _ rfl) ⟨by omega, by omega⟩]; omega)]
    obtain ⟨v, τ', q1, q2, q3, q4, q5⟩ := deepOf_ok hc hN 121 i (fun _ => false) τ hi rfl hm (fun m hmm => hS m (by omega)) (by omega)
    rw [q1, Option.bind_some]
    exact ⟨v, τ', rfl, q2, q4⟩
  | succ j ih =>
    intro n k τ hm hk hn hS
    obtain ⟨n, rfl, hn⟩ := fuel hn
    rw [f_M_deep_l8, if_neg (by rw [iZ_lit, iZ_le (bd_lit _ rfl) ⟨by omega, by omega⟩]; omega), if_pos (by rw [iZ_lit, iZ_lit, iZ_le (bd_lit _ rfl) ⟨by omega, by omega⟩, iZ_lt ⟨by omega, by omega⟩ (bd_lit _ rfl)]; omega), iZ_idx (by omega) (by omega), Int.toNat_natCast, i1]
    have f0 : fr frD τ (s_b τ 83 k false) := fr_sb rfl
    obtain ⟨v, τ', q1, q2, q3⟩ := ih n (k + 1) _ (MC_fr f0 okD hm) (by omega) (by omega) (fun m hmm => by
      by_cases c : m = k
      · subst c; exact sb_eq _ _ _ _
      · rw [sb_ne (Or.inr c)]; exact hS m (by omega))
    exact ⟨v, τ', q1, fr_trans f0 q2, q3⟩
/-- the class: how often one is doubled -/
theorem dblL (hc : CV a b M E) {N : Nat} (hN : 10000 ≤ N) {i j : Nat} (hi : i < (hL a b M E).length) (hj : j < (hL a b M E).length) : ∀ (k n t : Nat) (σ : aSt), XC a b M E σ → t + k = 120 → k + 1 ≤ n → (∀ s, s < t → itd a b M E (j : Int) s ≠ (i : Int)) → (0 ≤ itd a b M E (j : Int) t ∧ itd a b M E (j : Int) t < ((hL a b M E).length : Int)) → ∃ (z : Int) (σ' : aSt), f_Sums_doublingsTo_l4 N n (iZ i) (iZ (itd a b M E (j : Int) t)) (iZ t) σ = some (iZ z, σ') ∧ fr fr22 σ σ' ∧ ((z = -1 ∧ ∀ s, itd a b M E (j : Int) s ≠ (i : Int)) ∨ (0 ≤ z ∧ z < 120 ∧ itd a b M E (j : Int) z.toNat = (i : Int) ∧ ∀ s, s < z.toNat → itd a b M E (j : Int) s ≠ (i : Int))) := by
  have hl := hL_le (a := a) (b := b) (M := M) (E := E)
  have m1 : (-1 : Int32) = iZ (-1) := by decide
  intro k
  induction k with
  | zero =>
    intro n t σ hx ht hn hno hrng
    obtain ⟨n, rfl, hn⟩ := fuel hn
    rw [f_Sums_doublingsTo_l4, if_pos (by rw [iZ_lit, iZ_le (bd_lit _ rfl) ⟨by omega, by omega⟩]; omega), m1]
    refine ⟨-1, σ, rfl, fr_refl _ _, Or.inl ⟨rfl, ?_⟩⟩
    -- no first time from 120 on
    have : ∀ s, (∀ r, r < s → itd a b M E (j : Int) r ≠ (i : Int)) → itd a b M E (j : Int) s ≠ (i : Int) := fun s hs e => by
      have := way_lt hc hj hi e hs
      exact hno s (by omega) e
    intro s
    exact Nat.strongRecOn s (fun s ih => this s ih)
  | succ k ih =>
    intro n t σ hx ht hn hno hrng
    obtain ⟨n, rfl, hn⟩ := fuel hn
    obtain ⟨r, hr⟩ : ∃ r, r = itd a b M E (j : Int) t := ⟨_, rfl⟩
    have hsr : scd a b M E r := by rw [hr]; exact Or.inr (Or.inr hrng)
    rw [f_Sums_doublingsTo_l4, if_neg (by rw [iZ_lit, iZ_le (bd_lit _ rfl) ⟨by omega, by omega⟩]; omega), ← hr, m1, min_6]
    rw [← hr] at hrng
    by_cases c1 : r = (i : Int)
    · rw [if_neg (by rw [c1]; exact fun h => h rfl)]
      exact ⟨t, σ, rfl, fr_refl _ _, Or.inr ⟨by omega, by omega, by rw [Int.toNat_natCast, ← hr]; exact c1, fun s hs => hno s (by rw [Int.toNat_natCast] at hs; exact hs)⟩⟩
    · rw [if_pos (by rw [ne_eq, iZ_eq ⟨by omega, by omega⟩ ⟨by omega, by omega⟩]; exact c1)]
      obtain ⟨σ1, g1, g2⟩ := total_ok hc hN hx hsr hsr
      rw [g1, Option.bind_some, i1]
      have hnx : addC a b M E r r = itd a b M E (j : Int) (t + 1) := by rw [hr]; rfl
      have hsc := addC_scd hc hsr hsr
      have hno1 : ∀ s, s < t + 1 → itd a b M E (j : Int) s ≠ (i : Int) := fun s hs => by
        by_cases cs : s = t
        · rw [cs, ← hr]; exact c1
        · exact hno s (by omega)
      have dead : (addC a b M E r r = -6 ∨ addC a b M E r r = 1000) → ∀ s, itd a b M E (j : Int) s ≠ (i : Int) := fun hd s => by
        rcases Nat.lt_or_ge s (t + 1) with cs | cs
        · exact hno1 s cs
        · have := itd_far (a := a) (b := b) (M := M) (E := E) hd (s - (t + 1))
          rw [hnx, ← itd_add, show t + 1 + (s - (t + 1)) = s from by omega] at this
          rw [this, ← hnx]
          omega
      simp only
      by_cases c6 : addC a b M E r r = -6
      · rw [if_pos (by rw [c6])]
        exact ⟨-1, σ1, rfl, g2, Or.inl ⟨rfl, dead (Or.inl c6)⟩⟩
      · rw [if_neg (by rw [iZ_eq (bd_mono (scd_bd hsc) (by decide)) (bd_lit _ rfl)]; exact c6)]
        by_cases c0 : addC a b M E r r = 1000
        · rw [if_neg (by rw [c0]; exact fun h => h rfl)]
          exact ⟨-1, σ1, rfl, g2, Or.inl ⟨rfl, dead (Or.inr c0)⟩⟩
        · rw [if_pos (by rw [ne_eq, iZ_lit, iZ_eq (bd_mono (scd_bd hsc) (by decide)) (bd_lit _ rfl)]; exact c0), hnx]
          rw [hnx] at hsc c6 c0
          obtain ⟨z, σ', q1, q2, q3⟩ := ih n (t + 1) σ1 (XC_22 g2 hx) (by omega) (by omega) hno1 (scd_idx hsc c0 c6)
          exact ⟨z, σ', q1, fr_trans g2 q2, q3⟩
theorem xdeepL (hc : CV a b M E) {N : Nat} (hN : 10000 ≤ N) {i : Nat} (hi : i < (hL a b M E).length) : ∀ (k n j v : Nat) (σ : aSt), XC a b M E σ → j + k = (hL a b M E).length → k + 1 ≤ n → v < 121 → Aw a b M E (fun _ => false) i v → (∀ (q t : Nat), q < j → itd a b M E (q : Int) t = (i : Int) → (∀ s, s < t → itd a b M E (q : Int) s ≠ (i : Int)) → t ≤ v) → ∃ (w : Nat) (σ' : aSt), f_X_deep_l10 N n (iZ i) (iZ (v + 1 : Int)) (iZ j) σ = some (iZ (w + 1 : Int), σ') ∧ fr fr22 σ σ' ∧ isM a b M E (fun _ => false) i w := by
  have hl := hL_le (a := a) (b := b) (M := M) (E := E)
  intro k
  induction k with
  | zero =>
    intro n j v σ hx hj hn hv hA hmx
    obtain ⟨n, rfl, hn⟩ := fuel hn
    rw [f_X_deep_l10, shownZ hx, if_pos (stop (by omega))]
    refine ⟨v, σ, rfl, fr_refl _ _, hA, fun t ht => ?_⟩
    obtain ⟨q, h1, h2, h3⟩ := ht
    exact hmx q t (by omega) h2 (fun s hs => (h3 s hs).1)
  | succ k ih =>
    intro n j v σ hx hj hn hv hA hmx
    obtain ⟨n, rfl, hn⟩ := fuel hn
    rw [f_X_deep_l10, shownZ hx, if_neg (ngo (by omega)), i1]
    unfold f_Sums_doublingsTo
    obtain ⟨z, σ1, g1, g2, g3⟩ := dblL hc hN hi (j := j) (by omega) 120 N 0 σ hx (by omega) (by omega) (fun s hs => by omega) (by show (0 : Int) ≤ (j : Int) ∧ (j : Int) < _; omega)
    rw [show f_Sums_doublingsTo_l4 N N (iZ (i : Int)) (iZ (j : Int)) (0 : Int32) σ = some (iZ z, σ1) from g1, Option.bind_some]
    simp only
    rw [show iZ z + (1 : Int32) = iZ (z + 1) from by rw [iZ_lit, iZ_add]]
    have hz : z < 120 ∧ -1 ≤ z := by rcases g3 with ⟨q, -⟩ | ⟨q1, q2, -⟩ <;> omega
    rw [imax_Z ⟨by omega, by omega⟩ ⟨by omega, by omega⟩]
    rcases g3 with ⟨q1, q2⟩ | ⟨q1, q2, q3, q4⟩
    · rw [show max ((v : Int) + 1) (z + 1) = (v : Int) + 1 from by omega]
      obtain ⟨w, σ', e1, e2, e3⟩ := ih n (j + 1) v σ1 (XC_22 g2 hx) (by omega) (by omega) hv hA (fun q t h1 h2 h3 => by
        by_cases cq : q = j
        · subst cq; exact absurd h2 (q2 t)
        · exact hmx q t (by omega) h2 h3)
      exact ⟨w, σ', e1, fr_trans g2 e2, e3⟩
    · rw [show max ((v : Int) + 1) (z + 1) = ((max v z.toNat : Nat) : Int) + 1 from by omega]
      obtain ⟨w, σ', e1, e2, e3⟩ := ih n (j + 1) (max v z.toNat) σ1 (XC_22 g2 hx) (by omega) (by omega) (by omega) (by
        by_cases cm : v ≤ z.toNat
        · rw [show max v z.toNat = z.toNat from by omega]
          exact ⟨j, by omega, q3, fun s hs => ⟨q4 s hs, fun m _ h => by cases h⟩⟩
        · rw [show max v z.toNat = v from by omega]; exact hA) (fun q t h1 h2 h3 => by
        by_cases cq : q = j
        · subst cq
          have : t = z.toNat := by
            rcases Nat.lt_trichotomy t z.toNat with r | r | r
            · exact absurd h2 (q4 t r)
            · exact r
            · exact absurd q3 (h3 z.toNat r)
          omega
        · have := hmx q t (by omega) h2 h3
          omega)
      exact ⟨w, σ', e1, fr_trans g2 e2, e3⟩
theorem deep_eq {N : Nat} (hc : CV a b M E) (hN : 10000 ≤ N) {σ τ : aSt} (hx : RX a b M E σ) (hm : RM a b M E τ) (p : Int32) : ∃ r σ' τ', f_X_deep N p σ = some (r, σ') ∧ f_M_deep N p τ = some (r, τ') ∧ fr fr22 σ σ' ∧ fr frD τ τ' := by
  have hl := hL_le (a := a) (b := b) (M := M) (E := E)
  unfold f_X_deep f_M_deep
  simp only [xListed hx, mListed hm, ite_dec]
  by_cases c : 0 ≤ p.toInt ∧ p.toInt < ((hL a b M E).length : Int)
  · rw [if_pos c, if_pos c]
    obtain ⟨i, q, rfl, hiq⟩ := listed c
    have hi := get_lt hiq
    obtain ⟨w, σ', e1, e2, e3⟩ := xdeepL hc hN hi (hL a b M E).length N 0 0 σ hx.2 (Nat.zero_add _) (by omega) (by omega) (Aw_0 hi) (fun q t h => by omega)
    obtain ⟨v, τ', q1, q2, q3⟩ := mdeepL hc hN hi 120 N 0 τ hm.2 (by omega) (by omega) (fun m h => by omega)
    have := isM_uniq e3 q3
    subst this
    exact ⟨_, σ', τ', e1, q1, e2, q2⟩
  · rw [if_neg c, if_neg c]
    exact ⟨_, σ, τ, rfl, rfl, fr_refl _ _, fr_refl _ _⟩
end DEEP
