/-! MADE BY, the reference -/
section CLO
variable {a b : Int} {M E : Nat}
/-- place of a number, number of a place -/
def pl (x : Int) : Nat := if x = 1000 then 120 else x.toNat
def cvk (k : Nat) : Int := if k = 120 then 1000 else (k : Int)
theorem pl_cvk {k : Nat} (h : k ≤ 120) : pl (cvk k) = k := by
  unfold pl cvk
  by_cases c : k = 120
  · rw [if_pos c, if_pos rfl, c]
  · rw [if_neg c, if_neg (by omega), Int.toNat_natCast]
theorem cvk_pl {x : Int} (h : pnt a b M E x) : cvk (pl x) = x ∧ pl x ≤ 120 := by
  have hl := hL_le (a := a) (b := b) (M := M) (E := E)
  unfold pl cvk
  rcases h with h | h
  · rw [if_pos h, if_pos rfl, h]; exact ⟨rfl, Nat.le_refl _⟩
  · rw [if_neg (show ¬ x = 1000 by omega), if_neg (show ¬ x.toNat = 120 by omega)]; omega
theorem placeOf_Z {x : Int} (h : pnt a b M E x) (τ : aSt) : f_M_placeOf (iZ x) τ = iZ (pl x : Int) ∧ (0 ≤ iZ (pl x : Int) ∧ iZ (pl x : Int) < (121 : Int32)) ∧ (iZ (pl x : Int)).toNatClampNeg = pl x := by
  have hl := hL_le (a := a) (b := b) (M := M) (E := E)
  have hp := (cvk_pl h).2
  have bx := scd_bd (pnt_scd h).1
  refine ⟨?_, ?_, by rw [iZ_idx (by omega) (by omega), Int.toNat_natCast]⟩
  · unfold f_M_placeOf pl
    rcases h with h | h
    · rw [if_neg (by rw [h]; exact fun q => q rfl), if_pos h]; rfl
    · rw [if_pos (by rw [ne_eq, iZ_lit, iZ_eq (bd_mono bx (by decide)) (bd_lit _ rfl)]; omega), if_neg (by omega)]
      congr 1; omega
  · rw [iZ_lit, iZ_lit, iZ_le (bd_lit _ rfl) ⟨by omega, by omega⟩, iZ_lt ⟨by omega, by omega⟩ (bd_lit _ rfl)]; omega
/-- told makers, and what is in -/
def TD (a b : Int) (M E : Nat) (mk : List Int) (τ : aSt) : Prop := τ.1 66 55 = iZ mk.length ∧ mk.length ≤ 120 ∧ (∀ i m, mk[i]? = some m → τ.1 85 i = iZ m) ∧ (∀ m ∈ mk, pnt a b M E m)
def SN (a b : Int) (M E : Nat) (mk : List Int) (τ : aSt) : Prop := ∀ k, k ≤ 120 → τ.2.2 84 k = true → pnt a b M E (cvk k) ∧ Der a b M E mk (cvk k)
def frI : Nat → Nat → Bool := fun o k => fr23 o k || Nat.beq o 84
theorem okI : okM frI := ⟨rfl, rfl, rfl, rfl, rfl, fun _ => ⟨rfl, rfl, rfl⟩⟩
theorem fr23_I {τ τ' : aSt} (h : fr fr23 τ τ') : fr frI τ τ' := fr_mono h (fun o k q => by
  unfold frI at q
  rw [Bool.or_eq_false_iff] at q
  exact q.1)
theorem TD_I {mk : List Int} {τ τ' : aSt} (hf : fr frI τ τ') (h : TD a b M E mk τ) : TD a b M E mk τ' := ⟨by rw [(hf 66 55 rfl).1]; exact h.1, h.2.1, fun i m hi => by rw [(hf 85 i rfl).1]; exact h.2.2.1 i m hi, h.2.2.2⟩
def cT (τ : aSt) : Nat := cnt (fun k => τ.2.2 84 k) 121
/-- closed at one place -/
def clP (a b : Int) (M E : Nat) (mk : List Int) (τ : aSt) (k : Nat) : Prop := τ.2.2 84 k = true → ∀ m ∈ mk, (addC a b M E (cvk k) m = -6 ∨ τ.2.2 84 (pl (addC a b M E (cvk k) m)) = true) ∧ (subC a b M E (cvk k) m = -6 ∨ τ.2.2 84 (pl (subC a b M E (cvk k) m)) = true)
theorem scd_pnt {x : Int} (h : scd a b M E x) (h6 : x ≠ -6) : pnt a b M E x := by
  rcases h with h | h | h
  · exact Or.inl h
  · exact absurd h h6
  · exact Or.inr h
theorem cT_set {τ : aSt} {k : Nat} (hk : k ≤ 120) (h : τ.2.2 84 k = false) : cT (s_b τ 84 k true) = cT τ + 1 := by
  unfold cT
  refine cnt_add (v := k) h (sb_eq τ 84 k true) (fun i hi => ?_) 121 (by omega)
  exact (sb_ne (Or.inr hi)).symm
/-- one step's end: what comes by a SUM -/
theorem in48 (hc : CV a b M E) {N : Nat} (k103 : Int32 → Int32 → aSt → Option aSt) {mk : List Int} {k n : Nat} {t' : Int32} {w : Int} (hw : scd a b M E w) {τ : aSt} (hd : w ≠ -6 → Der a b M E mk w) (hs : SN a b M E mk τ) (v : Int32) : ∃ (v' : Int32) (τ' : aSt), (if iZ w = (-6 : Int32) then f_M_laysIn_l48 N k103 n v (iZ k) t' τ else (if 0 ≤ (f_M_placeOf (iZ w) τ) ∧ (f_M_placeOf (iZ w) τ) < (121 : Int32) then (if (τ.2.2 84 (f_M_placeOf (iZ w) τ).toNatClampNeg) = true then f_M_laysIn_l48 N k103 n v (iZ k) t' τ else f_M_laysIn_l48 N k103 n (1 : Int32) (iZ k) t' (s_b τ 84 (f_M_placeOf (iZ w) τ).toNatClampNeg true)) else none)) = f_M_laysIn_l48 N k103 n v' (iZ k) t' τ' ∧ fr frI τ τ' ∧ SN a b M E mk τ' ∧ (w = -6 ∨ τ'.2.2 84 (pl w) = true) ∧ (∀ j, τ.2.2 84 j = true → τ'.2.2 84 j = true) ∧ ((v' = v ∧ ∀ j, τ'.2.2 84 j = τ.2.2 84 j) ∨ (v' = 1 ∧ cT τ' = cT τ + 1)) := by
  by_cases c : w = -6
  · rw [if_pos (by rw [c]; decide)]
    exact ⟨v, τ, rfl, fr_refl _ _, hs, Or.inl c, fun _ h => h, Or.inl ⟨rfl, fun _ => rfl⟩⟩
  · rw [if_neg (by rw [min_6, iZ_eq (bd_mono (scd_bd hw) (by decide)) (bd_lit _ rfl)]; exact c)]
    have hp := scd_pnt hw c
    obtain ⟨p1, p2, p3⟩ := placeOf_Z hp τ
    rw [p1, if_pos p2, p3]
    by_cases ci : τ.2.2 84 (pl w) = true
    · rw [if_pos ci]
      exact ⟨v, τ, rfl, fr_refl _ _, hs, Or.inr ci, fun _ h => h, Or.inl ⟨rfl, fun _ => rfl⟩⟩
    · rw [if_neg ci]
      have hpl := (cvk_pl hp).2
      refine ⟨1, _, rfl, fr_sb rfl, fun j hj hjt => ?_, Or.inr (sb_eq _ _ _ _), fun j hj => ?_, Or.inr ⟨rfl, cT_set hpl (by cases q : τ.2.2 84 (pl w) with | false => rfl | true => exact absurd q ci)⟩⟩
      · by_cases cj : j = pl w
        · subst cj
          rw [(cvk_pl hp).1]
          exact ⟨hp, hd c⟩
        · rw [sb_ne (Or.inr cj)] at hjt
          exact hs j hj hjt
      · by_cases cj : j = pl w
        · subst cj; exact sb_eq _ _ _ _
        · rw [sb_ne (Or.inr cj)]; exact hj
theorem l48 (hc : CV a b M E) {N : Nat} (hN : 10000 ≤ N) (k103 : Int32 → Int32 → aSt → Option aSt) {mk : List Int} {k : Nat} (hk : k ≤ 120) : ∀ (j n t : Nat) (v : Int32) (τ : aSt), MC a b M E τ → TD a b M E mk τ → SN a b M E mk τ → t + j = 2 * mk.length → j + 1 ≤ n → ∃ (v' : Int32) (τ' : aSt), f_M_laysIn_l48 N k103 n v (iZ k) (iZ t) τ = k103 v' (iZ k) τ' ∧ fr frI τ τ' ∧ SN a b M E mk τ' ∧ (∀ j, τ.2.2 84 j = true → τ'.2.2 84 j = true) ∧ ((v' = v ∧ (∀ j, τ'.2.2 84 j = τ.2.2 84 j) ∧ (τ.2.2 84 k = true → ∀ i m, mk[i]? = some m → (t ≤ 2 * i → addC a b M E (cvk k) m = -6 ∨ τ'.2.2 84 (pl (addC a b M E (cvk k) m)) = true) ∧ (t ≤ 2 * i + 1 → subC a b M E (cvk k) m = -6 ∨ τ'.2.2 84 (pl (subC a b M E (cvk k) m)) = true))) ∨ (v' = 1 ∧ cT τ < cT τ')) := by
  intro j
  induction j with
  | zero =>
    intro n t v τ hm ht hs hj hn
    obtain ⟨n, rfl, hn⟩ := fuel hn
    have hml := ht.2.1
    have e2 : ((2 : Int32) * iZ (mk.length : Int)) = iZ (2 * (mk.length : Int)) := by rw [iZ_lit, iZ_mul]
    rw [f_M_laysIn_l48, ht.1, e2, if_pos (by rw [iZ_le ⟨by omega, by omega⟩ ⟨by omega, by omega⟩]; omega)]
    refine ⟨v, τ, rfl, fr_refl _ _, hs, fun _ h => h, Or.inl ⟨rfl, fun _ => rfl, fun _ i m hi => ?_⟩⟩
    have := get_lt hi
    exact ⟨fun q => by omega, fun q => by omega⟩
  | succ j ih =>
    intro n t v τ hm ht hs hj hn
    obtain ⟨n, rfl, hn⟩ := fuel hn
    have hml := ht.2.1
    have e2 : ((2 : Int32) * iZ (mk.length : Int)) = iZ (2 * (mk.length : Int)) := by rw [iZ_lit, iZ_mul]
    have eidx : (iZ (k : Int)).toNatClampNeg = k := by rw [iZ_idx (by omega) (by omega), Int.toNat_natCast]
    have hin : 0 ≤ iZ (k : Int) ∧ iZ (k : Int) < (121 : Int32) := by rw [iZ_lit, iZ_lit, iZ_le (bd_lit _ rfl) ⟨by omega, by omega⟩, iZ_lt ⟨by omega, by omega⟩ (bd_lit _ rfl)]; omega
    rw [f_M_laysIn_l48, ht.1, e2, if_neg (by rw [iZ_le ⟨by omega, by omega⟩ ⟨by omega, by omega⟩]; omega), if_pos hin, eidx]
    by_cases ck : τ.2.2 84 k = true
    · rw [if_pos ck]
      obtain ⟨pk, dk⟩ := hs k hk ck
      have eh : iZ (t : Int) / (2 : Int32) = iZ ((t / 2 : Nat) : Int) := by
        rw [iZ_lit, iZ_div ⟨by omega, by omega⟩ (bd_lit _ rfl)]
        exact congrArg iZ (nat_div (a := t) (b := 2))
      have er : irem (iZ (t : Int)) (2 : Int32) = iZ ((t % 2 : Nat) : Int) := by
        rw [iZ_lit, iZ_rem ⟨by omega, by omega⟩ (bd_lit _ rfl)]
        exact congrArg iZ (nat_rem (a := t) (b := 2))
      have hh : 0 ≤ iZ ((t / 2 : Nat) : Int) ∧ iZ ((t / 2 : Nat) : Int) < (120 : Int32) := by rw [iZ_lit, iZ_lit, iZ_le (bd_lit _ rfl) ⟨by omega, by omega⟩, iZ_lt ⟨by omega, by omega⟩ (bd_lit _ rfl)]; omega
      obtain ⟨m, hmm⟩ := get_some (L := mk) (i := t / 2) (by omega)
      have pm := ht.2.2.2 m (List.mem_of_getElem? hmm)
      have em : τ.1 85 (iZ ((t / 2 : Nat) : Int)).toNatClampNeg = iZ m := by
        rw [iZ_idx (by omega) (by omega), Int.toNat_natCast]; exact ht.2.2.1 _ m hmm
      rw [eh, er, if_pos hh, if_pos hh, em, i1]
      have ecv : ∀ X Y : Option aSt, (iZ (k : Int) = iZ (cvk k) → X = Y) → True := fun _ _ _ => trivial
      -- the SUM that is made
      have step : ∀ s : Int, (s = 1 ∨ s = -1) → (s = 1 ↔ t % 2 = 0) → ∃ (v' : Int32) (τ' : aSt), ((f_M_sumOf N (iZ (cvk k)) (iZ m) (iZ s) τ).bind fun x11 => (if x11.1 = (-6 : Int32) then f_M_laysIn_l48 N k103 n v (iZ k) (iZ ((t + 1 : Nat) : Int)) x11.2 else (if 0 ≤ (f_M_placeOf x11.1 x11.2) ∧ (f_M_placeOf x11.1 x11.2) < (121 : Int32) then (if (x11.2.2.2 84 (f_M_placeOf x11.1 x11.2).toNatClampNeg) = true then f_M_laysIn_l48 N k103 n v (iZ k) (iZ ((t + 1 : Nat) : Int)) x11.2 else f_M_laysIn_l48 N k103 n (1 : Int32) (iZ k) (iZ ((t + 1 : Nat) : Int)) (s_b x11.2 84 (f_M_placeOf x11.1 x11.2).toNatClampNeg true)) else none))) = k103 v' (iZ k) τ' ∧ fr frI τ τ' ∧ SN a b M E mk τ' ∧ (∀ j, τ.2.2 84 j = true → τ'.2.2 84 j = true) ∧ ((v' = v ∧ (∀ j, τ'.2.2 84 j = τ.2.2 84 j) ∧ (τ.2.2 84 k = true → ∀ i m, mk[i]? = some m → (t ≤ 2 * i → addC a b M E (cvk k) m = -6 ∨ τ'.2.2 84 (pl (addC a b M E (cvk k) m)) = true) ∧ (t ≤ 2 * i + 1 → subC a b M E (cvk k) m = -6 ∨ τ'.2.2 84 (pl (subC a b M E (cvk k) m)) = true))) ∨ (v' = 1 ∧ cT τ < cT τ')) := fun s hss hse => by
        obtain ⟨τ1, g1, g2⟩ := msum_ok hc hN hm (pnt_scd pk).1 (pnt_scd pm).1 hss
        rw [g1, Option.bind_some]
        simp only
        obtain ⟨w, hw⟩ : ∃ w, w = (if s = 1 then addC a b M E (cvk k) m else subC a b M E (cvk k) m) := ⟨_, rfl⟩
        rw [← hw]
        have hws : scd a b M E w := by
          rw [hw]
          by_cases cs : s = 1
          · rw [if_pos cs]; exact addC_scd hc (pnt_scd pk).1 (pnt_scd pm).1
          · rw [if_neg cs]; exact subC_scd hc (pnt_scd pk).1 (pnt_scd pm).1
        have hmem : m ∈ mk := List.mem_of_getElem? hmm
        have hs1 : SN a b M E mk τ1 := fun j hj hjt => hs j hj (by rw [← (g2 84 j rfl).2.2]; exact hjt)
        obtain ⟨v1, τ2, q1, q2, q3, q4, q5, q6⟩ := in48 hc (N := N) k103 (mk := mk) (k := k) (n := n) (t' := iZ ((t + 1 : Nat) : Int)) hws (τ := τ1) (fun h6 => by
          rw [hw] at h6 ⊢
          by_cases cs : s = 1
          · rw [if_pos cs] at h6 ⊢; exact Der_a hmem dk h6
          · rw [if_neg cs] at h6 ⊢; exact Der_s hmem dk h6) hs1 v
        rw [q1]
        have f2 := fr_trans (fr23_I g2) q2
        obtain ⟨v2, τ3, r1, r2, r3, r4, r5⟩ := ih n (t + 1) v1 τ2 (MC_fr f2 okI hm) (TD_I f2 ht) q3 (by omega) (by omega)
        have g84 : ∀ j, τ1.2.2 84 j = τ.2.2 84 j := fun j => (g2 84 j rfl).2.2
        have hcT1 : cT τ1 = cT τ := cnt_congr 121 (fun j _ => g84 j)
        refine ⟨v2, τ3, r1, fr_trans f2 r2, r3, fun j hj => r4 j (q5 j (by rw [g84]; exact hj)), ?_⟩
        have mono3 : cT τ2 ≤ cT τ3 := by
          rcases r5 with ⟨-, z2, -⟩ | ⟨-, z2⟩
          · exact Nat.le_of_eq (cnt_congr 121 (fun j _ => (z2 j).symm))
          · omega
        rcases q6 with ⟨z1, z2⟩ | ⟨z1, z2⟩
        · rcases r5 with ⟨y1, y2, y3⟩ | ⟨y1, y2⟩
          · refine Or.inl ⟨y1.trans z1, fun j => by rw [y2, z2, g84], fun hk1 i m' hi => ?_⟩
            have old := y3 (by rw [z2, g84]; exact hk1) i m' hi
            have now : w = -6 ∨ τ3.2.2 84 (pl w) = true := by
              rcases q4 with q | q
              · exact Or.inl q
              · exact Or.inr (r4 _ q)
            constructor
            · intro hle
              by_cases ci : t + 1 ≤ 2 * i
              · exact old.1 ci
              · have hi2 : i = t / 2 := by omega
                have hs1 : s = 1 := hse.mpr (by omega)
                rw [hi2, hmm] at hi
                have := Option.some.inj hi
                subst this
                rw [hw, if_pos hs1] at now
                exact now
            · intro hle
              by_cases ci : t + 1 ≤ 2 * i + 1
              · exact old.2 ci
              · have hi2 : i = t / 2 := by omega
                have hs1 : ¬ s = 1 := fun q => by have := hse.mp q; omega
                rw [hi2, hmm] at hi
                have := Option.some.inj hi
                subst this
                rw [hw, if_neg hs1] at now
                exact now
          · refine Or.inr ⟨y1, ?_⟩
            have : cT τ2 = cT τ1 := cnt_congr 121 (fun j _ => z2 j)
            omega
        · have hv2 : v2 = 1 := by
            rcases r5 with ⟨y1, -, -⟩ | ⟨y1, -⟩
            · exact y1.trans z1
            · exact y1
          exact Or.inr ⟨hv2, by omega⟩
      have codd : (iZ ((t % 2 : Nat) : Int) ≠ 0) = (t % 2 ≠ 0) := by
        rw [ne_eq, iZ_lit, iZ_eq ⟨by omega, by omega⟩ (bd_lit _ rfl)]
        exact propext (by omega)
      have s1 := step 1 (Or.inl rfl)
      have s2 := step (-1) (Or.inr rfl)
      simp only [codd]
      by_cases c120 : k = 120
      · rw [if_neg (by rw [c120]; exact fun h => h rfl)]
        have ecv : iZ (cvk k) = (1000 : Int32) := by rw [c120]; rfl
        rw [ecv] at s1 s2
        by_cases codd : t % 2 ≠ 0
        · rw [if_pos codd]
          exact s2 (by omega)
        · rw [if_neg codd]
          exact s1 (by omega)
      · rw [if_pos (by rw [ne_eq, iZ_lit, iZ_eq ⟨by omega, by omega⟩ (bd_lit _ rfl)]; omega)]
        have ecv : iZ (cvk k) = iZ (k : Int) := by unfold cvk; rw [if_neg c120]
        rw [ecv] at s1 s2
        by_cases codd : t % 2 ≠ 0
        · rw [if_pos codd]
          exact s2 (by omega)
        · rw [if_neg codd]
          exact s1 (by omega)
    · rw [if_neg ck]
      exact ⟨v, τ, rfl, fr_refl _ _, hs, fun _ h => h, Or.inl ⟨rfl, fun _ => rfl, fun h => absurd h ck⟩⟩
theorem l43 (hc : CV a b M E) {N : Nat} (hN : 10000 ≤ N) (k105 : Int32 → aSt → Option aSt) {mk : List Int} : ∀ (j n k : Nat) (v : Int32) (τ : aSt), MC a b M E τ → TD a b M E mk τ → SN a b M E mk τ → k + j = 121 → j + 1 ≤ n → ∃ (v' : Int32) (τ' : aSt), f_M_laysIn_l43 N k105 n v (iZ k) τ = k105 v' τ' ∧ fr frI τ τ' ∧ SN a b M E mk τ' ∧ (∀ j, τ.2.2 84 j = true → τ'.2.2 84 j = true) ∧ ((v' = v ∧ (∀ j, τ'.2.2 84 j = τ.2.2 84 j) ∧ ∀ i, k ≤ i → i ≤ 120 → clP a b M E mk τ' i) ∨ (v' = 1 ∧ cT τ < cT τ')) := by
  intro j
  induction j with
  | zero =>
    intro n k v τ hm ht hs hk hn
    obtain ⟨n, rfl, hn⟩ := fuel hn
    rw [f_M_laysIn_l43, if_pos (by rw [iZ_lit, iZ_lt (bd_lit _ rfl) ⟨by omega, by omega⟩]; omega)]
    exact ⟨v, τ, rfl, fr_refl _ _, hs, fun _ h => h, Or.inl ⟨rfl, fun _ => rfl, fun i h1 h2 => by omega⟩⟩
  | succ j ih =>
    intro n k v τ hm ht hs hk hn
    obtain ⟨n, rfl, hn⟩ := fuel hn
    have hml := ht.2.1
    rw [f_M_laysIn_l43, if_neg (by rw [iZ_lit, iZ_lt (bd_lit _ rfl) ⟨by omega, by omega⟩]; omega)]
    obtain ⟨v1, τ1, q1, q2, q3, q4, q5⟩ := l48 hc hN (fun (y29 : Int32) (y30 : Int32) σ31 => f_M_laysIn_l43 N k105 n y29 (y30 + (1 : Int32)) σ31) (mk := mk) (k := k) (by omega) (2 * mk.length) N 0 v τ hm ht hs (by omega) (by omega)
    rw [show (0 : Int32) = iZ ((0 : Nat) : Int) from rfl, q1]
    show ∃ v' τ', f_M_laysIn_l43 N k105 n v1 (iZ (k : Int) + (1 : Int32)) τ1 = _ ∧ _
    rw [i1]
    obtain ⟨v2, τ2, r1, r2, r3, r4, r5⟩ := ih n (k + 1) v1 τ1 (MC_fr q2 okI hm) (TD_I q2 ht) q3 (by omega) (by omega)
    refine ⟨v2, τ2, r1, fr_trans q2 r2, r3, fun j hj => r4 j (q4 j hj), ?_⟩
    have mono : cT τ1 ≤ cT τ2 := by
      rcases r5 with ⟨-, z2, -⟩ | ⟨-, z2⟩
      · exact Nat.le_of_eq (cnt_congr 121 (fun j _ => (z2 j).symm))
      · omega
    rcases q5 with ⟨z1, z2, z3⟩ | ⟨z1, z2⟩
    · rcases r5 with ⟨y1, y2, y3⟩ | ⟨y1, y2⟩
      · refine Or.inl ⟨y1.trans z1, fun j => by rw [y2, z2], fun i h1 h2 => ?_⟩
        by_cases ci : i = k
        · subst ci
          intro hik m hmem
          obtain ⟨l, hl⟩ := List.getElem?_of_mem hmem
          obtain ⟨w1, w2⟩ := z3 (by rw [← z2, ← y2]; exact hik) l m hl
          refine ⟨(w1 (Nat.zero_le _)).imp id (fun q => by rw [y2]; exact q), (w2 (Nat.zero_le _)).imp id (fun q => by rw [y2]; exact q)⟩
        · exact y3 i (by omega) h2
      · refine Or.inr ⟨y1, ?_⟩
        have : cT τ1 = cT τ := cnt_congr 121 (fun j _ => z2 j)
        omega
    · have hv2 : v2 = 1 := by
        rcases r5 with ⟨y1, -, -⟩ | ⟨y1, -⟩
        · exact y1.trans z1
        · exact y1
      exact Or.inr ⟨hv2, by omega⟩
theorem l37 (hc : CV a b M E) {N : Nat} (hN : 10000 ≤ N) {mk : List Int} : ∀ (j n : Nat) (τ : aSt), MC a b M E τ → TD a b M E mk τ → SN a b M E mk τ → 122 ≤ cT τ + j → j + 2 ≤ n → ∃ τ', f_M_laysIn_l37 N n (1 : Int32) τ = some τ' ∧ fr frI τ τ' ∧ SN a b M E mk τ' ∧ (∀ j, τ.2.2 84 j = true → τ'.2.2 84 j = true) ∧ ∀ i, i ≤ 120 → clP a b M E mk τ' i := by
  intro j
  induction j with
  | zero =>
    intro n τ hm ht hs hj hn
    have := cnt_le (fun k => τ.2.2 84 k) 121
    unfold cT at hj
    omega
  | succ j ih =>
    intro n τ hm ht hs hj hn
    obtain ⟨n, rfl, hn⟩ := fuel hn
    rw [f_M_laysIn_l37, if_neg (by decide)]
    obtain ⟨v1, τ1, q1, q2, q3, q4, q5⟩ := l43 hc hN (fun (y32 : Int32) σ33 => f_M_laysIn_l37 N n y32 σ33) (mk := mk) 121 N 0 (0 : Int32) τ hm ht hs (by omega) (by omega)
    rw [show f_M_laysIn_l43 N (fun (y32 : Int32) σ33 => f_M_laysIn_l37 N n y32 σ33) N (0 : Int32) (0 : Int32) τ = f_M_laysIn_l37 N n v1 τ1 from q1]
    rcases q5 with ⟨z1, z2, z3⟩ | ⟨z1, z2⟩
    · subst z1
      obtain ⟨n, rfl, hn⟩ := fuel (n := n) (k := 0) (by omega)
      rw [f_M_laysIn_l37, if_pos rfl]
      exact ⟨τ1, rfl, q2, q3, q4, fun i hi => z3 i (Nat.zero_le _) hi⟩
    · subst z1
      obtain ⟨τ', r1, r2, r3, r4, r5⟩ := ih n τ1 (MC_fr q2 okI hm) (TD_I q2 ht) q3 (by omega) (by omega)
      exact ⟨τ', r1, fr_trans q2 r2, r3, fun j hj => r4 j (q4 j hj), r5⟩
theorem l19 (hc : CV a b M E) {N : Nat} (hN : 10000 ≤ N) {mk : List Int} : ∀ (j n k : Nat) (τ : aSt), MC a b M E τ → TD a b M E mk τ → SN a b M E mk τ → k + j = mk.length → j + 1 ≤ n → (∀ i m, i < k → mk[i]? = some m → τ.2.2 84 (pl m) = true) → ∃ τ', f_M_laysIn_l19 N n (iZ k) τ = some τ' ∧ fr frI τ τ' ∧ SN a b M E mk τ' ∧ (∀ j, τ.2.2 84 j = true → τ'.2.2 84 j = true) ∧ (∀ m ∈ mk, τ'.2.2 84 (pl m) = true) ∧ ∀ i, i ≤ 120 → clP a b M E mk τ' i := by
  intro j
  induction j with
  | zero =>
    intro n k τ hm ht hs hk hn hp
    obtain ⟨n, rfl, hn⟩ := fuel hn
    have hml := ht.2.1
    rw [f_M_laysIn_l19, ht.1, if_pos (by rw [iZ_le ⟨by omega, by omega⟩ ⟨by omega, by omega⟩]; omega)]
    obtain ⟨τ', q1, q2, q3, q4, q5⟩ := l37 hc hN (mk := mk) 122 N τ hm ht hs (by omega) (by omega)
    refine ⟨τ', q1, q2, q3, q4, fun m hmem => ?_, q5⟩
    obtain ⟨i, hi⟩ := List.getElem?_of_mem hmem
    exact q4 _ (hp i m (by have := get_lt hi; omega) hi)
  | succ j ih =>
    intro n k τ hm ht hs hk hn hp
    obtain ⟨n, rfl, hn⟩ := fuel hn
    have hml := ht.2.1
    obtain ⟨m, hmm⟩ := get_some (L := mk) (i := k) (by omega)
    have hmem := List.mem_of_getElem? hmm
    have pm := ht.2.2.2 m hmem
    obtain ⟨p1, p2, p3⟩ := placeOf_Z pm τ
    have em : τ.1 85 (iZ (k : Int)).toNatClampNeg = iZ m := by
      rw [iZ_idx (by omega) (by omega), Int.toNat_natCast]; exact ht.2.2.1 _ m hmm
    rw [f_M_laysIn_l19, ht.1, if_neg (by rw [iZ_le ⟨by omega, by omega⟩ ⟨by omega, by omega⟩]; omega), if_pos (by rw [iZ_lit, iZ_lit, iZ_le (bd_lit _ rfl) ⟨by omega, by omega⟩, iZ_lt ⟨by omega, by omega⟩ (bd_lit _ rfl)]; omega), em, p1, if_pos p2, p3, i1]
    have f1 : fr frI τ (s_b τ 84 (pl m) true) := fr_sb rfl
    have up : ∀ j, τ.2.2 84 j = true → (s_b τ 84 (pl m) true).2.2 84 j = true := fun j hj => by
      by_cases cj : j = pl m
      · subst cj; exact sb_eq _ _ _ _
      · rw [sb_ne (Or.inr cj)]; exact hj
    obtain ⟨τ', q1, q2, q3, q4, q5, q6⟩ := ih n (k + 1) _ (MC_fr f1 okI hm) (TD_I f1 ht) (fun j hj hjt => by
      by_cases cj : j = pl m
      · subst cj
        rw [(cvk_pl pm).1]
        exact ⟨pm, Der_m hmem⟩
      · rw [sb_ne (Or.inr cj)] at hjt
        exact hs j hj hjt) (by omega) (by omega) (fun i m' hi hm' => by
      by_cases ci : i = k
      · subst ci
        rw [hmm] at hm'
        have := Option.some.inj hm'
        subst this
        exact sb_eq _ _ _ _
      · exact up _ (hp i m' (by omega) hm'))
    exact ⟨τ', q1, fr_trans f1 q2, q3, fun j hj => q4 j (up j hj), q5, q6⟩
theorem l2 (hc : CV a b M E) {N : Nat} (hN : 10000 ≤ N) {mk : List Int} : ∀ (j n k : Nat) (τ : aSt), MC a b M E τ → TD a b M E mk τ → k + j = 121 → j + 1 ≤ n → (∀ i, i < k → τ.2.2 84 i = decide (i = 120)) → ∃ τ', f_M_laysIn_l2 N n (iZ k) τ = some τ' ∧ fr frI τ τ' ∧ SN a b M E mk τ' ∧ τ'.2.2 84 120 = true ∧ (∀ m ∈ mk, τ'.2.2 84 (pl m) = true) ∧ ∀ i, i ≤ 120 → clP a b M E mk τ' i := by
  intro j
  induction j with
  | zero =>
    intro n k τ hm ht hk hn hp
    obtain ⟨n, rfl, hn⟩ := fuel hn
    rw [f_M_laysIn_l2, if_pos (by rw [iZ_lit, iZ_lt (bd_lit _ rfl) ⟨by omega, by omega⟩]; omega)]
    obtain ⟨τ', q1, q2, q3, q4, q5, q6⟩ := l19 hc hN (mk := mk) mk.length N 0 τ hm ht (fun i hi hit => by
      rw [hp i (by omega), decide_eq_true_eq] at hit
      subst hit
      exact ⟨Or.inl rfl, Der_0 mk⟩) (by omega) (by have := ht.2.1; omega) (fun i m hi => by omega)
    exact ⟨τ', q1, q2, q3, q4 120 (by rw [hp 120 (by omega)]; rfl), q5, q6⟩
  | succ j ih =>
    intro n k τ hm ht hk hn hp
    obtain ⟨n, rfl, hn⟩ := fuel hn
    have hin : 0 ≤ iZ (k : Int) ∧ iZ (k : Int) < (121 : Int32) := by rw [iZ_lit, iZ_lit, iZ_le (bd_lit _ rfl) ⟨by omega, by omega⟩, iZ_lt ⟨by omega, by omega⟩ (bd_lit _ rfl)]; omega
    have eidx : (iZ (k : Int)).toNatClampNeg = k := by rw [iZ_idx (by omega) (by omega), Int.toNat_natCast]
    rw [f_M_laysIn_l2, if_neg (by rw [iZ_lit, iZ_lt (bd_lit _ rfl) ⟨by omega, by omega⟩]; omega), if_pos hin, if_pos hin, eidx, i1]
    have go : ∀ v : Bool, v = decide (k = 120) → ∃ τ', f_M_laysIn_l2 N n (iZ ((k + 1 : Nat) : Int)) (s_b τ 84 k v) = some τ' ∧ fr frI τ τ' ∧ SN a b M E mk τ' ∧ τ'.2.2 84 120 = true ∧ (∀ m ∈ mk, τ'.2.2 84 (pl m) = true) ∧ ∀ i, i ≤ 120 → clP a b M E mk τ' i := fun v hv => by
      have f1 : fr frI τ (s_b τ 84 k v) := fr_sb rfl
      obtain ⟨τ', q1, q2, q3⟩ := ih n (k + 1) _ (MC_fr f1 okI hm) (TD_I f1 ht) (by omega) (by omega) (fun i hi => by
        by_cases ci : i = k
        · subst ci; rw [sb_eq]; exact hv
        · rw [sb_ne (Or.inr ci)]; exact hp i (by omega))
      exact ⟨τ', q1, fr_trans f1 q2, q3⟩
    by_cases c : k = 120
    · rw [if_neg (by rw [c]; exact fun h => h rfl)]
      exact go true (by rw [decide_eq_true c])
    · rw [if_pos (by rw [ne_eq, iZ_lit, iZ_eq ⟨by omega, by omega⟩ (bd_lit _ rfl)]; omega)]
      exact go false (by rw [decide_eq_false c])
theorem laysIn_ok (hc : CV a b M E) {N : Nat} (hN : 10000 ≤ N) {mk : List Int} {τ : aSt} (hm : MC a b M E τ) (ht : TD a b M E mk τ) : ∃ τ', f_M_laysIn N τ = some τ' ∧ fr frI τ τ' ∧ TD a b M E mk τ' ∧ ∀ k, k ≤ 120 → (τ'.2.2 84 k = true ↔ (pnt a b M E (cvk k) ∧ Der a b M E mk (cvk k))) := by
  unfold f_M_laysIn
  obtain ⟨τ', q1, q2, q3, q4, q5, q6⟩ := l2 hc hN (mk := mk) 121 N 0 τ hm ht (by omega) (by omega) (fun i hi => by omega)
  refine ⟨τ', q1, q2, TD_I q2 ht, fun k hk => ⟨fun h => q3 k hk h, fun h => ?_⟩⟩
  have key := h.2 (fun x => pnt a b M E x ∧ τ'.2.2 84 (pl x) = true) ⟨Or.inl rfl, q4⟩ (fun m hmem => ⟨ht.2.2.2 m hmem, q5 m hmem⟩) (fun y m hmem hy => by
    obtain ⟨hy1, hy2⟩ := hy
    obtain ⟨e1, e2⟩ := cvk_pl hy1
    have hcl := q6 (pl y) e2 hy2 m hmem
    rw [e1] at hcl
    have sy := (pnt_scd hy1).1
    have sm := (pnt_scd (ht.2.2.2 m hmem)).1
    exact ⟨fun h6 => ⟨scd_pnt (addC_scd hc sy sm) h6, hcl.1.resolve_left h6⟩, fun h6 => ⟨scd_pnt (subC_scd hc sy sm) h6, hcl.2.resolve_left h6⟩⟩)
  rw [pl_cvk hk] at key
  exact key.2
/-- how many are in -/
theorem madeL (N : Nat) {τ : aSt} : ∀ (j n k s : Nat), k + j = 121 → s ≤ k → j + 1 ≤ n → f_M_made_l29 N n (iZ s) (iZ k) τ = some (iZ ((s + (cnt (fun i => τ.2.2 84 i) 121 - cnt (fun i => τ.2.2 84 i) k) : Nat) : Int), τ) := by
  have mono : ∀ (f : Nat → Bool) (n k : Nat), k ≤ n → cnt f k ≤ cnt f n := by
    intro f n
    induction n with
    | zero => intro k hk; rw [show k = 0 from by omega]; exact Nat.le_refl _
    | succ n ih =>
      intro k hk
      by_cases c : k = n + 1
      · rw [c]; exact Nat.le_refl _
      · have := ih k (by omega)
        rw [cnt]; omega
  intro j
  induction j with
  | zero =>
    intro n k s hk hs hn
    obtain ⟨n, rfl, hn⟩ := fuel hn
    have : k = 121 := by omega
    subst this
    rw [f_M_made_l29, if_pos (by decide), Nat.sub_self, Nat.add_zero]
  | succ j ih =>
    intro n k s hk hs hn
    obtain ⟨n, rfl, hn⟩ := fuel hn
    have hin : 0 ≤ iZ (k : Int) ∧ iZ (k : Int) < (121 : Int32) := by rw [iZ_lit, iZ_lit, iZ_le (bd_lit _ rfl) ⟨by omega, by omega⟩, iZ_lt ⟨by omega, by omega⟩ (bd_lit _ rfl)]; omega
    have eidx : (iZ (k : Int)).toNatClampNeg = k := by rw [iZ_idx (by omega) (by omega), Int.toNat_natCast]
    have hmo := mono (fun i => τ.2.2 84 i) 121 (k + 1) (by omega)
    rw [f_M_made_l29, if_neg (by rw [iZ_lit, iZ_lt (bd_lit _ rfl) ⟨by omega, by omega⟩]; omega), if_pos hin, eidx, Int32.add_zero, i1, i1]
    rw [cnt] at hmo
    by_cases c : τ.2.2 84 k = true
    · have ec : cnt (fun i => τ.2.2 84 i) (k + 1) = cnt (fun i => τ.2.2 84 i) k + 1 := by rw [cnt, if_pos c]
      rw [if_pos c, ih n (k + 1) (s + 1) (by omega) (by omega) (by omega), ec]
      rw [if_pos c] at hmo
      congr 4; omega
    · have ec : cnt (fun i => τ.2.2 84 i) (k + 1) = cnt (fun i => τ.2.2 84 i) k := by rw [cnt, if_neg c]; rfl
      rw [if_neg c, ih n (k + 1) s (by omega) (by omega) (by omega), ec]
/-- made -/
def frJ : Nat → Nat → Bool := fun o k => frI o k || Nat.beq o 85 || (Nat.beq o 66 && Nat.beq k 55)
theorem okJ : okM frJ := ⟨rfl, rfl, rfl, rfl, rfl, fun _ => ⟨rfl, rfl, rfl⟩⟩
theorem frI_J {τ τ' : aSt} (h : fr frI τ τ') : fr frJ τ τ' := fr_mono h (fun o k q => by
  unfold frJ at q
  rw [Bool.or_eq_false_iff, Bool.or_eq_false_iff] at q
  exact q.1.1)
theorem cnt_split {f : Nat → Bool} {L : Nat} (hL : L ≤ 120) (h : ∀ i, L ≤ i → i < 120 → f i = false) (h120 : f 120 = true) : cnt f 121 = 1 + cnt f L := by
  have : ∀ n, L ≤ n → n ≤ 120 → cnt f n = cnt f L := by
    intro n
    induction n with
    | zero => intro h1 _; rw [show L = 0 from by omega]
    | succ n ih =>
      intro h1 h2
      by_cases c : L = n + 1
      · rw [c]
      · rw [cnt, ih (by omega) (by omega), if_neg (by rw [h n (by omega) (by omega)]; decide)]; rfl
  rw [cnt, this 120 hL (by omega), if_pos h120]
  omega
theorem made_eq {N : Nat} (hc : CV a b M E) (hN : 10000 ≤ N) {σ τ : aSt} (hx : RX a b M E σ) (hm : RM a b M E τ) (p q : Int32) : ∃ r σ' τ', f_X_made N p q σ = some (r, σ') ∧ f_M_made N p q τ = some (r, τ') ∧ fr frC30 σ σ' ∧ fr frJ τ τ' := by
  have no : ∀ r : Int32, ∃ r' σ' τ', some (r, σ) = some (r', σ') ∧ some (r, τ) = some (r', τ') ∧ fr frC30 σ σ' ∧ fr frJ τ τ' := fun r => ⟨r, σ, τ, rfl, rfl, fr_refl _ _, fr_refl _ _⟩
  have hl := hL_le (a := a) (b := b) (M := M) (E := E)
  unfold f_X_made f_M_made
  simp only [xPoint hx, mPoint hm, ite_dec]
  by_cases c : p.toInt = 1000 ∨ (0 ≤ p.toInt ∧ p.toInt < ((hL a b M E).length : Int))
  · rw [if_pos c, if_pos c]
    by_cases c2 : q.toInt = 1000 ∨ (0 ≤ q.toInt ∧ q.toInt < ((hL a b M E).length : Int))
    · rw [if_pos c2, if_pos c2]
      obtain ⟨x, hxe⟩ : ∃ x, x = p.toInt := ⟨_, rfl⟩
      obtain ⟨y, hye⟩ : ∃ y, y = q.toInt := ⟨_, rfl⟩
      have ep : p = iZ x := lit32 hxe.symm
      have eq : q = iZ y := lit32 hye.symm
      rw [← hxe] at c; rw [← hye] at c2
      have hpx : pnt a b M E x := c
      have hpy : pnt a b M E y := c2
      rw [ep, eq, lt_eq]
      -- the class
      obtain ⟨k1, k2, -⟩ := forget30 (a := a) (b := b) (M := M) (E := E) (σ := σ)
      have hx0 := XC_C30 k2 hx.2
      obtain ⟨t1, σ1, g1, g2, g3, g4, g5, g6⟩ := add30 hc hN hx0 k1 List.mem_cons_self hpx (by decide) (fun z hz => by rw [List.mem_singleton] at hz; subst hz; exact Der_0 _) (fun z hz m hmm => by cases hmm)
      have f1 := fr_trans k2 g3
      rw [g1, Option.bind_some]
      obtain ⟨t2, σ2, e1, e2, e3, e4, e5, e6⟩ := add30 hc hN (XC_C30 f1 hx.2) g2 (List.mem_append_left _ List.mem_cons_self) hpy (by show 1 < 120; omega) g4 g5
      rw [e1, Option.bind_some]
      unfold f_Closure_size_30
      rw [e2.2.2.2.1, e2.2.2.2.2.1]
      obtain ⟨mem, hmem⟩ : ∃ mem, mem = [1000] ++ t1 ++ t2 := ⟨_, rfl⟩
      rw [← hmem] at e4 e5 e6 ⊢
      have all := Der_iff (mk := [] ++ [x] ++ [y]) (mem := mem) (by rw [hmem]; exact List.mem_append_left _ (List.mem_append_left _ List.mem_cons_self)) (fun m hmm => by
        rcases List.mem_append.mp hmm with hq | hq
        · rw [List.nil_append, List.mem_singleton] at hq
          subst hq
          rw [hmem]; exact List.mem_append_left _ g6
        · rw [List.mem_singleton] at hq
          subst hq; exact e6) e5 e4
      -- the reference
      obtain ⟨τ0, hτ0⟩ : ∃ τ0, τ0 = s_i (s_i (s_i τ 85 0 (iZ x)) 85 1 (iZ y)) 66 55 (2 : Int32) := ⟨_, rfl⟩
      rw [← hτ0]
      have hJ85 : ∀ k, frJ 85 k = true := fun k => rfl
      have fτ : fr frJ τ τ0 := by rw [hτ0]; exact fr_trans (fr_trans (fr_si (hJ85 _)) (fr_si (hJ85 _))) (fr_si rfl)
      have htd : TD a b M E ([] ++ [x] ++ [y]) τ0 := by
        refine ⟨by rw [hτ0]; rfl, by show 2 ≤ 120; omega, fun i m hi => ?_, fun m hmm => ?_⟩
        · match i, hi with
          | 0, hi => cases hi; rw [hτ0]; rfl
          | 1, hi => cases hi; rw [hτ0]; rfl
          | i + 2, hi => cases hi
        · rcases List.mem_append.mp hmm with hq | hq
          · rw [List.nil_append, List.mem_singleton] at hq
            subst hq; exact hpx
          · rw [List.mem_singleton] at hq
            subst hq; exact hpy
      obtain ⟨τ1, r1, r2, r3, r4⟩ := laysIn_ok hc hN (MC_fr fτ okJ hm.2) htd
      rw [r1, Option.bind_some]
      have key := madeL N (τ := τ1) 121 N 0 0 (by omega) (by omega) (by omega)
      rw [show (0 : Int32) = iZ ((0 : Nat) : Int) from rfl, key]
      refine ⟨_, σ2, τ1, rfl, ?_, fr_trans f1 e3, fr_trans fτ (frI_J r2)⟩
      congr 4
      have h120 : (fun i => τ1.2.2 84 i) 120 = true := (r4 120 (by omega)).mpr ⟨Or.inl rfl, Der_0 _⟩
      have hout : ∀ i, (hL a b M E).length ≤ i → i < 120 → (fun i => τ1.2.2 84 i) i = false := fun i h1 h2 => by
        show τ1.2.2 84 i = false
        cases hq : τ1.2.2 84 i with
        | false => rfl
        | true =>
          have := ((r4 i (by omega)).mp hq).1
          unfold cvk at this
          rw [if_neg (by omega)] at this
          rcases this with z | z <;> omega
      rw [cnt_split (L := (hL a b M E).length) hl hout h120, Nat.zero_add]
      show 1 + cnt (fun i => τ1.2.2 84 i) (hL a b M E).length - 0 = _
      rw [Nat.sub_zero]
      congr 1
      refine cnt_congr _ (fun i hi => ?_)
      have hcv : cvk i = (i : Int) := by unfold cvk; rw [if_neg (by omega)]
      have h4 := r4 i (by omega)
      rw [hcv] at h4
      have h5 := all (i : Int)
      have hpn : pnt a b M E (i : Int) := Or.inr ⟨by omega, by omega⟩
      by_cases ci : (i : Int) ∈ mem
      · rw [decide_eq_true ci]
        exact h4.mpr ⟨hpn, h5.mp ci⟩
      · rw [decide_eq_false ci]
        cases hq : τ1.2.2 84 i with
        | false => rfl
        | true => exact absurd (h5.mpr (h4.mp hq).2) ci
    · rw [if_neg c2, if_neg c2]; exact no _
  · rw [if_neg c, if_neg c]; exact no _
end CLO
