/-! deep -/
theorem pigeon : ∀ (L n : Nat) (f : Nat → Nat), (∀ i, i < n → f i < L) → (∀ i j, i < n → j < n → f i = f j → i = j) → n ≤ L := by
  intro L
  induction L with
  | zero =>
    intro n f h1 h2
    rcases Nat.eq_zero_or_pos n with q | q
    · omega
    · have := h1 0 q; omega
  | succ L ih =>
    intro n f h1 h2
    rcases Classical.em (∃ i0, i0 < n ∧ f i0 = L) with ⟨i0, hi0, hf⟩ | hno
    · have := ih (n - 1) (fun i => if i < i0 then f i else f (i + 1)) (fun i hi => by
        show (if i < i0 then f i else f (i + 1)) < L
        by_cases c : i < i0
        · rw [if_pos c]
          have := h1 i (by omega)
          have : f i ≠ L := fun q => by have := h2 i i0 (by omega) hi0 (by omega); omega
          omega
        · rw [if_neg c]
          have := h1 (i + 1) (by omega)
          have : f (i + 1) ≠ L := fun q => by have := h2 (i + 1) i0 (by omega) hi0 (by omega); omega
          omega) (fun i j hi hj hij => by
        have hij : (if i < i0 then f i else f (i + 1)) = (if j < i0 then f j else f (j + 1)) := hij
        by_cases ci : i < i0
        · rw [if_pos ci] at hij
          by_cases cj : j < i0
          · rw [if_pos cj] at hij; exact h2 i j (by omega) (by omega) hij
          · rw [if_neg cj] at hij; have := h2 i (j + 1) (by omega) (by omega) hij; omega
        · rw [if_neg ci] at hij
          by_cases cj : j < i0
          · rw [if_pos cj] at hij; have := h2 (i + 1) j (by omega) (by omega) hij; omega
          · rw [if_neg cj] at hij; have := h2 (i + 1) (j + 1) (by omega) (by omega) hij; omega)
      omega
    · have := ih n f (fun i hi => by
        have := h1 i hi
        have : f i ≠ L := fun q => hno ⟨i, hi, q⟩
        omega) h2
      omega
section DEEP
variable {a b : Int} {M E : Nat}
/-- doubled again and again -/
def itd (a b : Int) (M E : Nat) (x : Int) : Nat → Int
  | 0 => x
  | t + 1 => addC a b M E (itd a b M E x t) (itd a b M E x t)
theorem itd_add (x : Int) (s : Nat) : ∀ t, itd a b M E x (s + t) = itd a b M E (itd a b M E x s) t
  | 0 => rfl
  | t + 1 => by
    show addC a b M E (itd a b M E x (s + t)) (itd a b M E x (s + t)) = _
    rw [itd_add x s t]; rfl
theorem itd_scd (hc : CV a b M E) {x : Int} (hx : scd a b M E x) : ∀ t, scd a b M E (itd a b M E x t)
  | 0 => hx
  | t + 1 => addC_scd hc (itd_scd hc hx t) (itd_scd hc hx t)
theorem itd_far {x : Int} (h : x = -6 ∨ x = 1000) : ∀ t, itd a b M E x t = x
  | 0 => rfl
  | t + 1 => by
    show addC a b M E (itd a b M E x t) (itd a b M E x t) = x
    rw [itd_far h t]
    rcases h with h | h
    · rw [h]; exact if_pos rfl
    · rw [h]
      unfold addC
      rw [if_neg (by decide), if_neg (by decide), if_pos rfl]
/-- one comes to i by t doublings, and meets i and what is barred no earlier -/
def Aw (a b : Int) (M E : Nat) (S : Nat → Bool) (i t : Nat) : Prop := ∃ j : Nat, j < (hL a b M E).length ∧ itd a b M E (j : Int) t = (i : Int) ∧ ∀ s, s < t → itd a b M E (j : Int) s ≠ (i : Int) ∧ ∀ m : Nat, m < (hL a b M E).length → S m = true → itd a b M E (j : Int) s ≠ (m : Int)
/-- the most -/
def isM (a b : Int) (M E : Nat) (S : Nat → Bool) (i v : Nat) : Prop := Aw a b M E S i v ∧ ∀ t, Aw a b M E S i t → t ≤ v
theorem isM_uniq {S : Nat → Bool} {i v w : Nat} (h1 : isM a b M E S i v) (h2 : isM a b M E S i w) : v = w := by
  have := h1.2 w h2.1
  have := h2.2 v h1.1
  omega
theorem itd_listed (hc : CV a b M E) {x : Int} (hx : scd a b M E x) {t s : Nat} {i : Nat} (h : itd a b M E x t = (i : Int)) (hi : i < (hL a b M E).length) (hs : s ≤ t) : 0 ≤ itd a b M E x s ∧ itd a b M E x s < ((hL a b M E).length : Int) := by
  have hl := hL_le (a := a) (b := b) (M := M) (E := E)
  rcases itd_scd hc hx s with q | q | q
  · have := itd_far (a := a) (b := b) (M := M) (E := E) (Or.inr q) (t - s)
    rw [← itd_add, show s + (t - s) = t from by omega, h, q] at this
    omega
  · have := itd_far (a := a) (b := b) (M := M) (E := E) (Or.inl q) (t - s)
    rw [← itd_add, show s + (t - s) = t from by omega, h, q] at this
    omega
  · exact q
/-- a way without i ahead of its end is no longer than the LIST -/
theorem way_lt (hc : CV a b M E) {j i t : Nat} (hj : j < (hL a b M E).length) (hi : i < (hL a b M E).length) (h : itd a b M E (j : Int) t = (i : Int)) (hn : ∀ s, s < t → itd a b M E (j : Int) s ≠ (i : Int)) : t < (hL a b M E).length := by
  have hsc : scd a b M E (j : Int) := Or.inr (Or.inr ⟨by omega, by omega⟩)
  have := pigeon (hL a b M E).length (t + 1) (fun s => (itd a b M E (j : Int) s).toNat) (fun s hs => by
    have := itd_listed hc hsc h hi (s := s) (by omega)
    show (itd a b M E (j : Int) s).toNat < _
    omega) (fun s s' hs hs' e => by
    have l1 := itd_listed hc hsc h hi (s := s) (by omega)
    have l2 := itd_listed hc hsc h hi (s := s') (by omega)
    have e : itd a b M E (j : Int) s = itd a b M E (j : Int) s' := by
      have e : (itd a b M E (j : Int) s).toNat = (itd a b M E (j : Int) s').toNat := e
      omega
    rcases Nat.lt_trichotomy s s' with q | q | q
    · exfalso
      refine hn (s + (t - s')) (by omega) ?_
      rw [itd_add, e, ← itd_add, show s' + (t - s') = t from by omega]; exact h
    · exact q
    · exfalso
      refine hn (s' + (t - s)) (by omega) ?_
      rw [itd_add, ← e, ← itd_add, show s + (t - s) = t from by omega]; exact h)
  omega
/-- one more: by a half that isn't barred -/
theorem Aw_succ (hc : CV a b M E) {S : Nat → Bool} {i t : Nat} (hi : i < (hL a b M E).length) : Aw a b M E S i (t + 1) ↔ ∃ q : Nat, q < (hL a b M E).length ∧ q ≠ i ∧ S q = false ∧ addC a b M E (q : Int) (q : Int) = (i : Int) ∧ Aw a b M E (fun m => S m || decide (m = i)) q t := by
  constructor
  · rintro ⟨j, hj, h1, h2⟩
    have hsc : scd a b M E (j : Int) := Or.inr (Or.inr ⟨by omega, by omega⟩)
    obtain ⟨l0, l1⟩ := itd_listed hc hsc h1 hi (s := t) (by omega)
    obtain ⟨q, hq⟩ : ∃ q : Nat, itd a b M E (j : Int) t = q := ⟨(itd a b M E (j : Int) t).toNat, by omega⟩
    obtain ⟨n1, n2⟩ := h2 t (by omega)
    refine ⟨q, by omega, fun e => n1 (by rw [hq, e]), ?_, by rw [← hq]; exact h1, j, hj, hq, fun s hs => ⟨fun e => ?_, fun m hm hSm => ?_⟩⟩
    · cases hS : S q with
      | false => rfl
      | true => exact absurd hq (n2 q (by omega) hS)
    · -- q earlier: then i earlier
      refine (h2 (s + 1) (by omega)).1 ?_
      show addC a b M E (itd a b M E (j : Int) s) (itd a b M E (j : Int) s) = _
      rw [e, ← hq]; exact h1
    · have hSm : (S m || decide (m = i)) = true := hSm
      rw [Bool.or_eq_true, decide_eq_true_eq] at hSm
      rcases hSm with q1 | q1
      · exact (h2 s (by omega)).2 m hm q1
      · rw [q1]; exact (h2 s (by omega)).1
  · rintro ⟨q, hq, hqi, hS, hd, j, hj, h1, h2⟩
    refine ⟨j, hj, ?_, fun s hs => ?_⟩
    · show addC a b M E (itd a b M E (j : Int) t) (itd a b M E (j : Int) t) = _
      rw [h1]; exact hd
    · by_cases c : s = t
      · subst c
        rw [h1]
        refine ⟨by omega, fun m hm hSm => fun e => ?_⟩
        have : q = m := by omega
        subst this
        rw [hS] at hSm; cases hSm
      · obtain ⟨n1, n2⟩ := h2 s (by omega)
        refine ⟨n2 i hi (by show (S i || decide (i = i)) = true; rw [decide_eq_true rfl, Bool.or_true]), fun m hm hSm => n2 m hm (by show (S m || decide (m = i)) = true; rw [hSm, Bool.true_or])⟩
theorem Aw_0 {S : Nat → Bool} {i : Nat} (hi : i < (hL a b M E).length) : Aw a b M E S i 0 := ⟨i, hi, rfl, fun s hs => by omega⟩
/-- the most of the halves' ways seen so far -/
def isMl (a b : Int) (M E : Nat) (S : Nat → Bool) (i l v : Nat) : Prop := (v = 0 ∨ ∃ q : Nat, q < l ∧ q ≠ i ∧ S q = false ∧ addC a b M E (q : Int) (q : Int) = (i : Int) ∧ Aw a b M E (fun m => S m || decide (m = i)) q (v - 1)) ∧ ∀ q t : Nat, q < l → q ≠ i → S q = false → addC a b M E (q : Int) (q : Int) = (i : Int) → Aw a b M E (fun m => S m || decide (m = i)) q t → t + 1 ≤ v
def frD : Nat → Nat → Bool := fun o k => fr23 o k || Nat.beq o 83
theorem okD : okM frD := ⟨rfl, rfl, rfl, rfl, rfl, fun _ => ⟨rfl, rfl, rfl⟩⟩
theorem fr23_D {τ τ' : aSt} (h : fr fr23 τ τ') : fr frD τ τ' := fr_mono h (fun o k q => by
  unfold frD at q
  rw [Bool.or_eq_false_iff] at q
  exact q.1)
theorem Aw_congr {S S' : Nat → Bool} (h : ∀ m, m < (hL a b M E).length → S m = S' m) {i t : Nat} (hA : Aw a b M E S i t) : Aw a b M E S' i t := by
  obtain ⟨j, h1, h2, h3⟩ := hA
  exact ⟨j, h1, h2, fun s hs => ⟨(h3 s hs).1, fun m hm hS => (h3 s hs).2 m hm (by rw [h m hm]; exact hS)⟩⟩
/-- the reference's loop at one POINT -/
theorem deepL (hc : CV a b M E) {N : Nat} (hN : 10000 ≤ N) {S : Nat → Bool} {i : Nat} (hi : i < (hL a b M E).length) (hSi : S i = false) (rec : Int32 → aSt → Option (Int32 × aSt)) (hrec : ∀ (q : Nat) (τ : aSt), q < (hL a b M E).length → q ≠ i → S q = false → MC a b M E τ → (∀ m, m < (hL a b M E).length → τ.2.2 83 m = (S m || decide (m = i))) → ∃ (v : Nat) (τ' : aSt), rec (iZ q) τ = some (iZ (v + 1 : Int), τ') ∧ fr frD τ τ' ∧ v < 120 ∧ isM a b M E (fun m => S m || decide (m = i)) q v ∧ ∀ m, m < (hL a b M E).length → τ'.2.2 83 m = (S m || decide (m = i))) : ∀ (j n l v : Nat) (τ : aSt), MC a b M E τ → (∀ m, m < (hL a b M E).length → τ.2.2 83 m = (S m || decide (m = i))) → l + j = (hL a b M E).length → j + 1 ≤ n → v ≤ 120 → isMl a b M E S i l v → ∃ (w : Nat) (τ' : aSt), f_M_deepOf_l9 N rec n (iZ i) (iZ v) (iZ l) τ = some (iZ (w + 1 : Int), τ') ∧ fr frD τ τ' ∧ isMl a b M E S i (hL a b M E).length w ∧ w ≤ 120 ∧ ∀ m, m < (hL a b M E).length → τ'.2.2 83 m = S m := by
  have hl := hL_le (a := a) (b := b) (M := M) (E := E)
  intro j
  induction j with
  | zero =>
    intro n l v τ hm hS hlj hn hv hM
    obtain ⟨n, rfl, hn⟩ := fuel hn
    have e : l = (hL a b M E).length := by omega
    rw [f_M_deepOf_l9, len_m hm, if_pos (stop e), if_pos (by rw [iZ_lit, iZ_lit, iZ_le (bd_lit _ rfl) ⟨by omega, by omega⟩, iZ_lt ⟨by omega, by omega⟩ (bd_lit _ rfl)]; omega), iZ_idx (by omega) (by omega), Int.toNat_natCast, iZ_lit, iZ_add]
    refine ⟨v, _, rfl, fr_sb rfl, by rw [← e]; exact hM, hv, fun m hmm => ?_⟩
    by_cases c : m = i
    · subst c; rw [sb_eq, hSi]
    · rw [sb_ne (Or.inr c), hS m hmm, decide_eq_false c, Bool.or_false]
  | succ j ih =>
    intro n l v τ hm hS hlj hn hv hM
    obtain ⟨n, rfl, hn⟩ := fuel hn
    have hsl : scd a b M E (l : Int) := Or.inr (Or.inr ⟨by omega, by omega⟩)
    rw [f_M_deepOf_l9, len_m hm, if_neg (ngo (by omega)), if_pos (by rw [iZ_lit, iZ_lit, iZ_le (bd_lit _ rfl) ⟨by omega, by omega⟩, iZ_lt ⟨by omega, by omega⟩ (bd_lit _ rfl)]; omega), iZ_idx (by omega) (by omega), Int.toNat_natCast, hS l (by omega), i1]
    have skip : (l ≠ i → S l = false → addC a b M E (l : Int) (l : Int) = (i : Int) → False) → isMl a b M E S i (l + 1) v := fun hno => by
      refine ⟨hM.1.imp id (fun ⟨q, h1, h2⟩ => ⟨q, by omega, h2⟩), fun q t h1 h2 h3 h4 h5 => ?_⟩
      by_cases cq : q = l
      · subst cq; exact (hno h2 h3 h4).elim
      · exact hM.2 q t (by omega) h2 h3 h4 h5
    by_cases c1 : (S l || decide (l = i)) = true
    · rw [if_pos c1]
      refine ih n (l + 1) v τ hm hS (by omega) (by omega) hv (skip (fun h1 h2 _ => ?_))
      rw [h2, decide_eq_false h1] at c1; cases c1
    · rw [if_neg c1]
      have hne : l ≠ i := fun e => c1 (by rw [decide_eq_true e, Bool.or_true])
      have hSl : S l = false := by
        cases hq : S l with
        | false => rfl
        | true => exact absurd (by rw [hq, Bool.true_or]) c1
      obtain ⟨τ1, g1, g2⟩ := msum1 hc hN hm hsl hsl
      have hsc := addC_scd hc hsl hsl
      rw [g1, Option.bind_some]
      have hm1 := MC_fr g2 ok23 hm
      have hS1 : ∀ m, m < (hL a b M E).length → τ1.2.2 83 m = (S m || decide (m = i)) := fun m hmm => by rw [(g2 83 m rfl).2.2]; exact hS m hmm
      have r0 : (iZ (addC a b M E (l : Int) (l : Int)) = iZ (i : Int)) = (addC a b M E (l : Int) (l : Int) = (i : Int)) := iZ_eq (bd_mono (scd_bd hsc) (by decide)) ⟨by omega, by omega⟩
      simp only [ne_eq, r0]
      by_cases c2 : addC a b M E (l : Int) (l : Int) = (i : Int)
      · rw [if_neg (fun h => h c2)]
        obtain ⟨u, τ2, e1, e2, e3, e4, e5⟩ := hrec l τ1 (by omega) hne hSl hm1 hS1
        rw [e1, Option.bind_some]
        simp only
        have f2 := fr_trans (fr23_D g2) e2
        rw [imax_Z ⟨by omega, by omega⟩ ⟨by omega, by omega⟩, show max (v : Int) (u + 1 : Int) = ((max v (u + 1) : Nat) : Int) from by omega]
        obtain ⟨w, τ', q1, q2, q3, q4, q5⟩ := ih n (l + 1) (max v (u + 1)) τ2 (MC_fr f2 okD hm) e5 (by omega) (by omega) (by omega) (by
          constructor
          · right
            by_cases cm : v ≤ u + 1
            · exact ⟨l, by omega, hne, hSl, c2, by rw [show max v (u + 1) - 1 = u from by omega]; exact e4.1⟩
            · rcases hM.1 with h0 | ⟨q, h1, h2, h3, h4, h5⟩
              · omega
              · exact ⟨q, by omega, h2, h3, h4, by rw [show max v (u + 1) - 1 = v - 1 from by omega]; exact h5⟩
          · intro q t h1 h2 h3 h4 h5
            by_cases cq : q = l
            · subst cq
              have := e4.2 t h5
              omega
            · have := hM.2 q t (by omega) h2 h3 h4 h5
              omega)
        exact ⟨w, τ', q1, fr_trans f2 q2, q3, q4, q5⟩
      · rw [if_pos c2]
        obtain ⟨w, τ', q1, q2, q3, q4, q5⟩ := ih n (l + 1) v τ1 hm1 hS1 (by omega) (by omega) hv (skip (fun _ _ h => c2 h))
        exact ⟨w, τ', q1, fr_trans (fr23_D g2) q2, q3, q4, q5⟩
end DEEP
