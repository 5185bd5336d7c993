/-! THE SIEVE of the class -/
def SV (sp : List Int) (σ : aSt) : Prop := σ.1 8 2 = iZ sp.length ∧ sp.length ≤ 2001 ∧ ∀ i z, sp[i]? = some z → σ.1 10 i = iZ z
def MK (M : Nat) (σ σ' : aSt) : Prop := fr (fun o _ => Nat.beq o 9) σ σ' ∧ (∀ k, σ.1 9 k ≠ 0 → σ'.1 9 k ≠ 0) ∧ (∀ k, 2 * M < k → σ'.1 9 k = σ.1 9 k)
theorem MK_refl (M : Nat) (σ : aSt) : MK M σ σ := ⟨fr_refl _ _, fun _ h => h, fun _ _ => rfl⟩
theorem MK_trans {M : Nat} {σ σ' σ'' : aSt} (h : MK M σ σ') (h' : MK M σ' σ'') : MK M σ σ'' := ⟨fr_trans h.1 h'.1, fun k q => h'.2.1 k (h.2.1 k q), fun k q => (h'.2.2 k q).trans (h.2.2 k q)⟩
theorem one_ne : (1 : Int32) ≠ 0 := by decide
theorem MK_set {M k : Nat} (σ : aSt) (hk : k ≤ 2 * M) : MK M σ (s_i σ 9 k 1) := by
  refine ⟨fr_si rfl, fun j h => ?_, fun j h => si_ne (Or.inr (by omega))⟩
  by_cases c : j = k
  · subst c; rw [si_eq]; exact one_ne
  · rw [si_ne (Or.inr c)]; exact h
theorem mark_ok (N : Nat) {d M : Nat} (hd : 1 ≤ d) (hd2 : d ≤ 1000) (hM : M ≤ 1000) : ∀ (k n r : Nat) (σ : aSt), k + r = 33 → 1 ≤ r → k + 1 ≤ n → ∃ σ', f_Sieve_mark_l2 N n (iZ d) (iZ M) (iZ r) σ = some σ' ∧ MK M σ σ' ∧ ∀ t, r ≤ t → d * (t * t) ≤ M → σ'.1 9 (M - d * (t * t)) ≠ 0 ∧ σ'.1 9 (M + d * (t * t)) ≠ 0 := by
  intro k
  have mono : ∀ r t : Nat, r ≤ t → d * (r * r) ≤ d * (t * t) := fun r t h => Nat.mul_le_mul_left _ (Nat.mul_le_mul h h)
  induction k with
  | zero =>
    intro n r σ hk hr hn
    obtain ⟨n, rfl, hn⟩ := fuel hn
    have : r = 33 := by omega
    subst this
    refine ⟨σ, ?_, MK_refl _ _, fun t ht h => ?_⟩
    · rw [f_Sieve_mark_l2, iZ_mul, iZ_mul, if_pos (by rw [iZ_lt ⟨by omega, by omega⟩ ⟨by omega, by omega⟩]; omega)]
    · have := mono 33 t ht
      omega
  | succ k ih =>
    intro n r σ hk hr hn
    obtain ⟨n, rfl, hn⟩ := fuel hn
    have hq : d * (r * r) ≤ 1000 * (33 * 33) := Nat.mul_le_mul hd2 (Nat.mul_le_mul (by omega) (by omega))
    have eq : (d : Int) * r * r = ((d * (r * r) : Nat) : Int) := by rw [Int.mul_assoc, Int.natCast_mul, Int.natCast_mul]
    rw [f_Sieve_mark_l2, iZ_mul, iZ_mul, eq]
    obtain ⟨q, hqq⟩ : ∃ q, q = d * (r * r) := ⟨_, rfl⟩
    rw [← hqq] at hq ⊢
    by_cases c : M < q
    · refine ⟨σ, by rw [if_pos (by rw [iZ_lt ⟨by omega, by omega⟩ ⟨by omega, by omega⟩]; omega)], MK_refl _ _, fun t ht h => ?_⟩
      have := mono r t ht
      omega
    · rw [if_neg (by rw [iZ_lt ⟨by omega, by omega⟩ ⟨by omega, by omega⟩]; omega), lt_eq, lt_eq, iZ_sub, iZ_add, i1]
      have ho : oln 9 = 2001 := rfl
      rw [store_in (by decide) (by rw [ho]; decide) (by omega) (by rw [ho]; omega), store_in (by decide) (by rw [ho]; decide) (by omega) (by rw [ho]; omega)]
      rw [show ((M : Int) - q).toNat = M - q from by omega, show ((M : Int) + q).toNat = M + q from by omega]
      obtain ⟨σ', h1, h2, h3⟩ := ih n (r + 1) (s_i (s_i σ 9 (M - q) 1) 9 (M + q) 1) (by omega) (by omega) (by omega)
      have m1 := MK_set (M := M) (k := M - q) σ (by omega)
      have m2 := MK_set (M := M) (k := M + q) (s_i σ 9 (M - q) 1) (by omega)
      refine ⟨σ', h1, MK_trans (MK_trans m1 m2) h2, fun t ht h => ?_⟩
      by_cases ct : t = r
      · subst ct
        rw [← hqq]
        exact ⟨h2.2.1 _ (m2.2.1 _ (by rw [si_eq]; exact one_ne)), h2.2.1 _ (by rw [si_eq]; exact one_ne)⟩
      · exact h3 t (by omega) h
theorem tmod0 {b : Int} {d : Nat} : b.tmod d = 0 ↔ (d : Int) ∣ b := ⟨Int.dvd_of_tmod_eq_zero, Int.tmod_eq_zero_of_dvd⟩
theorem tmod_bd {b : Int} {A : Int} (d : Int) (h : bd A b) : bd A (b.tmod d) := by
  have h1 : (b.tmod d).natAbs ≤ b.natAbs := by rw [Int.natAbs_tmod]; exact Nat.mod_le _ _
  have := h.1
  have := h.2
  exact ⟨by omega, by omega⟩
theorem gather12 {N : Nat} (hN : 10000 ≤ N) {b : Int} {M last : Nat} (hb : bd 4400 b) (hM : M ≤ 1000) (hl : last ≤ M) : ∀ (k n d : Nat) (σ : aSt), k + d = last + 1 → 1 ≤ d → k + 1 ≤ n → ∃ σ', f_Sieve_gather_l12 N n (iZ b) (iZ M) (iZ last) (iZ d) σ = f_Sieve_gather_l34 N N (iZ M) (0 : Int32) (s_i σ' 8 2 (0 : Int32)) ∧ MK M σ σ' ∧ ∀ d' t, d ≤ d' → d' ≤ last → (d' : Int) ∣ b → sqf d' → 1 ≤ t → d' * (t * t) ≤ M → σ'.1 9 (M - d' * (t * t)) ≠ 0 ∧ σ'.1 9 (M + d' * (t * t)) ≠ 0 := by
  intro k
  induction k with
  | zero =>
    intro n d σ hk hd hn
    obtain ⟨n, rfl, hn⟩ := fuel hn
    refine ⟨σ, ?_, MK_refl _ _, fun d' t h1 h2 => by omega⟩
    rw [f_Sieve_gather_l12, if_pos (by rw [iZ_lt ⟨by omega, by omega⟩ ⟨by omega, by omega⟩]; omega)]
  | succ k ih =>
    intro n d σ hk hd hn
    obtain ⟨n, rfl, hn⟩ := fuel hn
    have hbt := tmod_bd (d : Int) hb
    have ebt : iZ (b.tmod d) = 0 ↔ (d : Int) ∣ b := by
      rw [iZ_lit, iZ_eq (bd_mono hbt (by decide)) (bd_lit 0 rfl)]
      exact tmod0
    have hws : f_Whole_withoutSquares N (iZ (d : Int)) = some (iZ (sfp d : Int)) := withoutSquares_Z hN false (v := d) (by omega)
    rw [f_Sieve_gather_l12, if_neg (by rw [iZ_lt ⟨by omega, by omega⟩ ⟨by omega, by omega⟩]; omega), if_pos (by rw [iZ_lit, iZ_eq ⟨by omega, by omega⟩ (bd_lit 0 rfl)]; omega), iZ_rem (bd_mono hb (by decide)) ⟨by omega, by omega⟩, i1]
    by_cases c : (d : Int) ∣ b
    · rw [if_neg (fun h => h (ebt.mpr c)), hws, Option.bind_some]
      by_cases c2 : sfp d = d
      · rw [if_neg (fun h => h (by rw [c2]))]
        obtain ⟨σ1, a1, a2, a3⟩ := mark_ok N hd (by omega) hM 32 N 1 σ rfl (by omega) (by omega)
        rw [show f_Sieve_mark N (iZ (d : Int)) (iZ (M : Int)) σ = some σ1 from a1, Option.bind_some]
        obtain ⟨σ', h1, h2, h3⟩ := ih n (d + 1) σ1 (by omega) (by omega) (by omega)
        refine ⟨σ', h1, MK_trans a2 h2, fun d' t q1 q2 q3 q4 q5 q6 => ?_⟩
        by_cases ct : d' = d
        · subst ct
          obtain ⟨z1, z2⟩ := a3 t q5 q6
          exact ⟨h2.2.1 _ z1, h2.2.1 _ z2⟩
        · exact h3 d' t (by omega) q2 q3 q4 q5 q6
      · have hsl := (sfp_ok (v := d) (by omega) (by omega)).2.1
        rw [if_pos (by rw [ne_eq, iZ_eq ⟨by omega, by omega⟩ ⟨by omega, by omega⟩]; omega)]
        obtain ⟨σ', h1, h2, h3⟩ := ih n (d + 1) σ (by omega) (by omega) (by omega)
        refine ⟨σ', h1, h2, fun d' t q1 q2 q3 q4 q5 q6 => ?_⟩
        by_cases ct : d' = d
        · subst ct
          exact absurd (sfp_self (by omega) (by omega) q4) c2
        · exact h3 d' t (by omega) q2 q3 q4 q5 q6
    · rw [if_pos (fun h => c (ebt.mp h))]
      obtain ⟨σ', h1, h2, h3⟩ := ih n (d + 1) σ (by omega) (by omega) (by omega)
      refine ⟨σ', h1, h2, fun d' t q1 q2 q3 q4 q5 q6 => ?_⟩
      by_cases ct : d' = d
      · subst ct
        exact absurd q3 c
      · exact h3 d' t (by omega) q2 q3 q4 q5 q6
def frS : Nat → Nat → Bool := fun o k => Nat.beq o 9 || Nat.beq o 10 || (Nat.beq o 8 && Nat.beq k 2)
theorem SV_snoc {sp : List Int} {σ : aSt} {z : Int} {σ1 : aSt} (h : SV sp σ) (hl : sp.length ≤ 2000) (e2 : σ1.1 8 2 = iZ ((sp.length + 1 : Nat) : Int)) (e10 : ∀ i, i < sp.length → σ1.1 10 i = σ.1 10 i) (ez : σ1.1 10 sp.length = iZ z) : SV (sp ++ [z]) σ1 := by
  refine ⟨by rw [e2, List.length_append]; rfl, by rw [List.length_append]; show sp.length + 1 ≤ 2001; omega, fun i w hi => ?_⟩
  rcases get_snoc hi with ⟨q1, q2⟩ | ⟨q1, q2⟩
  · rw [e10 i q1]; exact h.2.2 i w q2
  · subst q1; subst q2; exact ez
theorem gather34 (N : Nat) {M : Nat} (hM : M ≤ 1000) : ∀ (j n k : Nat) (sp : List Int) (σ : aSt), k + j = 2 * M + 1 → j + 1 ≤ n → SV sp σ → sp.length ≤ k → ∃ σ', f_Sieve_gather_l34 N n (iZ M) (iZ k) σ = some σ' ∧ SV (sp ++ ((List.range' k j).filter (fun i => decide (σ.1 9 i ≠ 0))).map (fun i : Nat => (i : Int) - M)) σ' ∧ fr frS σ σ' ∧ (∀ i, k ≤ i → i ≤ 2 * M → σ'.1 9 i = 0) ∧ (∀ i, i < k ∨ 2 * M < i → σ'.1 9 i = σ.1 9 i) := by
  intro j
  induction j with
  | zero =>
    intro n k sp σ hk hn hs hl
    obtain ⟨n, rfl, hn⟩ := fuel hn
    refine ⟨σ, ?_, ?_, fr_refl _ _, fun i h1 h2 => by omega, fun i _ => rfl⟩
    · rw [f_Sieve_gather_l34, iZ_lit, iZ_mul, if_pos (by rw [iZ_lt ⟨by omega, by omega⟩ ⟨by omega, by omega⟩]; omega)]
    · rw [List.range'_zero, List.filter_nil, List.map_nil, List.append_nil]; exact hs
  | succ j ih =>
    intro n k sp σ hk hn hs hl
    obtain ⟨n, rfl, hn⟩ := fuel hn
    rw [f_Sieve_gather_l34, show ((2 : Int32) * iZ (M : Int)) = iZ (2 * (M : Int)) from by rw [iZ_lit, iZ_mul], if_neg (by rw [iZ_lt ⟨by omega, by omega⟩ ⟨by omega, by omega⟩]; omega), if_neg (by rw [iZ_lit, iZ_le (bd_lit _ rfl) ⟨by omega, by omega⟩]; omega), if_pos (by rw [iZ_lit, iZ_lit, iZ_le (bd_lit _ rfl) ⟨by omega, by omega⟩, iZ_lt ⟨by omega, by omega⟩ (bd_lit _ rfl)]; omega), iZ_idx (by omega) (by omega), show ((k : Int)).toNat = k from by omega, List.range'_succ, i1]
    by_cases c : σ.1 9 k ≠ 0
    · rw [if_pos c, lt_eq, hs.1, iZ_sub, store_in (by decide) (by decide) (by omega) (by show (sp.length : Int) < (2001 : Nat); omega), show ((sp.length : Nat) : Int).toNat = sp.length from by omega, List.filter_cons_of_pos (by rw [decide_eq_true_eq]; exact c), List.map_cons]
      have e8 : (s_i (s_i σ 9 k (0 : Int32)) 10 sp.length (iZ ((k : Int) - M))).1 8 2 = iZ sp.length := hs.1
      rw [e8, i1]
      obtain ⟨σ1, hσ1⟩ : ∃ σ1, σ1 = s_i (s_i (s_i σ 9 k (0 : Int32)) 10 sp.length (iZ ((k : Int) - M))) 8 2 (iZ ((sp.length + 1 : Nat) : Int)) := ⟨_, rfl⟩
      rw [← hσ1]
      have r9 : ∀ i, i ≠ k → σ1.1 9 i = σ.1 9 i := fun i hi => by
        rw [hσ1, si_ne (Or.inl (by decide)), si_ne (Or.inl (by decide)), si_ne (Or.inr hi)]
      have r9k : σ1.1 9 k = 0 := by
        rw [hσ1, si_ne (Or.inl (by decide)), si_ne (Or.inl (by decide)), si_eq]
      have hs1 : SV (sp ++ [(k : Int) - M]) σ1 := by
        refine SV_snoc hs (by omega) (by rw [hσ1, si_eq]) (fun i hi => ?_) ?_
        · rw [hσ1, si_ne (Or.inl (by decide)), si_ne (Or.inr (by omega)), si_ne (Or.inl (by decide))]
        · rw [hσ1, si_ne (Or.inl (by decide)), si_eq]
      have hf1 : fr frS σ σ1 := by
        rw [hσ1]
        exact fr_trans (fr_trans (fr_si rfl) (fr_si rfl)) (fr_si rfl)
      obtain ⟨σ', h1, h2, h3, h4, h5⟩ := ih n (k + 1) (sp ++ [(k : Int) - M]) σ1 (by omega) (by omega) hs1 (by rw [List.length_append]; show sp.length + 1 ≤ k + 1; omega)
      refine ⟨σ', h1, ?_, fr_trans hf1 h3, fun i q1 q2 => ?_, fun i q => ?_⟩
      · rw [List.append_assoc] at h2
        rw [show (List.range' (k + 1) j).filter (fun i => decide (σ1.1 9 i ≠ 0)) = (List.range' (k + 1) j).filter (fun i => decide (σ.1 9 i ≠ 0)) from List.filter_congr (fun i hi => by
          rw [List.mem_range'_1] at hi
          rw [r9 i (by omega)])] at h2
        exact h2
      · by_cases ci : i = k
        · subst ci
          rw [h5 i (Or.inl (by omega))]; exact r9k
        · exact h4 i (by omega) q2
      · rw [h5 i (by omega)]; exact r9 i (by omega)
    · rw [if_neg c, List.filter_cons_of_neg (by rw [decide_eq_true_eq]; exact c)]
      obtain ⟨σ', h1, h2, h3, h4, h5⟩ := ih n (k + 1) sp σ (by omega) (by omega) hs (by omega)
      refine ⟨σ', h1, h2, h3, fun i q1 q2 => ?_, fun i q => h5 i (by omega)⟩
      by_cases ci : i = k
      · subst ci
        rw [h5 i (Or.inl (by omega))]
        exact Classical.byContradiction c
      · exact h4 i (by omega) q2
/-- all marks are off -/
def Z9 (σ : aSt) : Prop := ∀ k, k ≤ 2000 → σ.1 9 k = 0
theorem gather_ok {N : Nat} (hN : 10000 ≤ N) {b : Int} {M : Nat} (hb : bd 4400 b) (hb0 : b ≠ 0) (hM : M ≤ 1000) {σ : aSt} (hz : Z9 σ) : ∃ (σ' : aSt) (mk : Nat → Bool), f_Sieve_gather N (iZ b) (iZ M) σ = some σ' ∧ SV (((List.range' 0 (2 * M + 1)).filter mk).map (fun i : Nat => (i : Int) - M)) σ' ∧ (∀ a e : Int, ∀ i ∈ List.range' 0 (2 * M + 1), mk i = false → ptsAt a b e ((i : Int) - M) = []) ∧ fr frS σ σ' ∧ Z9 σ' := by
  have hb1 := hb.1
  have hb2 := hb.2
  unfold f_Sieve_gather
  rw [lt_eq, store_in (by decide) (by decide) (by omega) (by show (M : Int) < (2001 : Nat); omega), iabs_Z (bd_mono hb (by decide)), imin_Z ⟨by omega, by omega⟩ ⟨by omega, by omega⟩, show ((M : Int)).toNat = M from by omega, show min (M : Int) (b.natAbs : Int) = ((min M b.natAbs : Nat) : Int) from by omega]
  obtain ⟨σ1, h1, h2, h3⟩ := gather12 hN hb hM (last := min M b.natAbs) (by omega) (min M b.natAbs) N 1 (s_i σ 9 M 1) (by omega) (by omega) (by omega)
  have e1 : (1 : Int32) = iZ ((1 : Nat) : Int) := rfl
  rw [show f_Sieve_gather_l12 N N (iZ b) (iZ (M : Int)) (iZ ((min M b.natAbs : Nat) : Int)) (1 : Int32) (s_i σ 9 M 1) = f_Sieve_gather_l12 N N (iZ b) (iZ (M : Int)) (iZ ((min M b.natAbs : Nat) : Int)) (iZ ((1 : Nat) : Int)) (s_i σ 9 M 1) from rfl, h1]
  obtain ⟨σ', g1, g2, g3, g4, g5⟩ := gather34 N hM (2 * M + 1) N 0 [] (s_i σ1 8 2 (0 : Int32)) (by omega) (by omega) ⟨by rw [si_eq]; rfl, by show 0 ≤ 2001; omega, fun i z h => by cases h⟩ (Nat.le_refl _)
  refine ⟨σ', fun i => decide (σ1.1 9 i ≠ 0), g1, ?_, ?_, ?_, ?_⟩
  · exact g2
  · intro a e i hi hmk
    rw [List.mem_range'_1] at hi
    have hmk : σ1.1 9 i = 0 := Classical.byContradiction (of_decide_eq_false hmk)
    rcases Classical.em (ptsAt a b e ((i : Int) - M) = []) with q | q
    · exact q
    · exfalso
      by_cases c0 : (i : Int) - M = 0
      · have : i = M := by omega
        subst this
        exact h2.2.1 i (by rw [si_eq]; exact one_ne) hmk
      · obtain ⟨d, r, d1, d2, d3, d4, d5⟩ := sieve_ok hb0 c0 ⟨by omega, by omega⟩ q
        have hr : 1 ≤ r * r := Nat.mul_pos d2 d2
        have hdm : d * 1 ≤ d * (r * r) := Nat.mul_le_mul_left _ hr
        have hdb : d ≤ b.natAbs := Nat.le_of_dvd (by omega) (Int.ofNat_dvd_left.mp d5)
        obtain ⟨z1, z2⟩ := h3 d r (by omega) (by omega) d5 d3 (by omega) (by omega)
        by_cases cs : i < M
        · exact z1 (by rw [show M - d * (r * r) = i from by omega]; exact hmk)
        · exact z2 (by rw [show M + d * (r * r) = i from by omega]; exact hmk)
  · have f1 : fr frS σ (s_i σ 9 M 1) := fr_si rfl
    have f2 : fr frS (s_i σ 9 M 1) σ1 := fr_mono h2.1 (fun o k q => by
      unfold frS at q
      rw [Bool.or_eq_false_iff, Bool.or_eq_false_iff] at q
      exact q.1.1)
    have f3 : fr frS σ1 (s_i σ1 8 2 (0 : Int32)) := fr_si rfl
    exact fr_trans (fr_trans (fr_trans f1 f2) f3) g3
  · intro k hk
    by_cases c : k ≤ 2 * M
    · exact g4 k (by omega) c
    · rw [g5 k (by omega), si_ne (Or.inl (by decide)), h2.2.2 k (by omega), si_ne (Or.inr (by omega))]
      exact hz k hk
