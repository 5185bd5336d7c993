/-! THE CLASS'S SUMS -/
/-- what a list of the CURVE is -/
def CV (a b : Int) (M E : Nat) : Prop := inB a b ∧ b ≠ 0 ∧ 1 ≤ M ∧ M ≤ 1000 ∧ 1 ≤ E ∧ E ≤ 6
/-- the class's list 11 is that of the curve -/
def XC (a b : Int) (M E : Nat) (σ : aSt) : Prop := XL 11 (hX a b M E) σ ∧ σ.1 11 6 = iZ a ∧ σ.1 11 7 = iZ b ∧ σ.1 11 8 = iZ M ∧ σ.1 11 9 = iZ E
theorem XC_fr {S : Nat → Nat → Bool} {σ σ' : aSt} {a b : Int} {M E : Nat} (hf : fr S σ σ') (hS : ∀ k, S 11 k = false ∧ S 12 k = false ∧ S 13 k = false ∧ S 14 k = false ∧ S 15 k = false) (h : XC a b M E σ) : XC a b M E σ' := by
  obtain ⟨⟨h1, h2, h3⟩, h6, h7, h8, h9⟩ := h
  refine ⟨⟨by rw [(hf 11 5 (hS 5).1).1]; exact h1, h2, fun i p hi => ?_⟩, by rw [(hf 11 6 (hS 6).1).1]; exact h6, by rw [(hf 11 7 (hS 7).1).1]; exact h7, by rw [(hf 11 8 (hS 8).1).1]; exact h8, by rw [(hf 11 9 (hS 9).1).1]; exact h9⟩
  obtain ⟨q1, q2, q3, q4⟩ := h3 i p hi
  obtain ⟨-, s2, s3, s4, s5⟩ := hS i
  exact ⟨by rw [(hf 12 i s2).1]; exact q1, by rw [(hf 13 i s3).1]; exact q2, by rw [(hf 14 i s4).1]; exact q3, by rw [(hf 15 i s5).2.1]; exact q4⟩
def fr22 : Nat → Nat → Bool := fun o _ => Nat.beq o 22
theorem XC_22 {σ σ' : aSt} {a b : Int} {M E : Nat} (hf : fr fr22 σ σ') (h : XC a b M E σ) : XC a b M E σ' := XC_fr hf (fun _ => ⟨rfl, rfl, rfl, rfl, rfl⟩) h
theorem m11 {L : List Pt} {σ : aSt} (h : XL 11 L σ) {i : Nat} {p : Pt} (hi : L[i]? = some p) : f_PointList_m_11 (iZ i) σ = iZ p.1 := by
  have hl := h.2.1
  have := get_lt hi
  unfold f_PointList_m_11
  rw [if_neg (by rw [iZ_lit, iZ_lt ⟨by omega, by omega⟩ (bd_lit _ rfl)]; omega), if_neg (by rw [iZ_lit, iZ_le (bd_lit _ rfl) ⟨by omega, by omega⟩]; omega), iZ_idx (by omega) (by omega)]
  exact (h.2.2 i p hi).1
theorem n11 {L : List Pt} {σ : aSt} (h : XL 11 L σ) {i : Nat} {p : Pt} (hi : L[i]? = some p) : f_PointList_n_11 (iZ i) σ = iZ p.2.1 := by
  have hl := h.2.1
  have := get_lt hi
  unfold f_PointList_n_11
  rw [if_neg (by rw [iZ_lit, iZ_lt ⟨by omega, by omega⟩ (bd_lit _ rfl)]; omega), if_neg (by rw [iZ_lit, iZ_le (bd_lit _ rfl) ⟨by omega, by omega⟩]; omega), iZ_idx (by omega) (by omega)]
  exact (h.2.2 i p hi).2.1
theorem e11 {L : List Pt} {σ : aSt} (h : XL 11 L σ) {i : Nat} {p : Pt} (hi : L[i]? = some p) : f_PointList_e_11 (iZ i) σ = iZ p.2.2 := by
  have hl := h.2.1
  have := get_lt hi
  unfold f_PointList_e_11
  rw [if_neg (by rw [iZ_lit, iZ_lt ⟨by omega, by omega⟩ (bd_lit _ rfl)]; omega), if_neg (by rw [iZ_lit, iZ_le (bd_lit _ rfl) ⟨by omega, by omega⟩]; omega), iZ_idx (by omega) (by omega)]
  exact (h.2.2 i p hi).2.2.1
theorem n_sl (x : Int32) (σ : aSt) (o k : Nat) (v : Int64) : f_PointList_n_11 x (s_l σ o k v) = f_PointList_n_11 x σ := rfl
theorem m_sl (x : Int32) (σ : aSt) (o k : Nat) (v : Int64) : f_PointList_m_11 x (s_l σ o k v) = f_PointList_m_11 x σ := rfl
theorem e_sl (x : Int32) (σ : aSt) (o k : Nat) (v : Int64) : f_PointList_e_11 x (s_l σ o k v) = f_PointList_e_11 x σ := rfl
/-- slope: rise by run -/
def rise (a b : Int) (p q : Pt) : Int := if smx p q then abv a b p q else -abv a b p q
def run (p q : Pt) : Int := if smx p q then blw p q * p.2.2 else -(p.2.2 * q.2.2 * blw p q)
/-- what the adder holds -/
def AD (a b : Int) (p q : Pt) (σ : aSt) : Prop := σ.2.2 22 0 = decide (zP p q) ∧ (¬ zP p q → σ.2.1 22 1 = jZ (sU0 a b p q) ∧ σ.2.1 22 2 = jZ (sV0 p q) ∧ σ.2.1 22 3 = jZ (rise a b p q) ∧ σ.2.1 22 4 = jZ (run p q) ∧ σ.2.1 22 5 = jZ p.1 ∧ σ.2.1 22 6 = jZ p.2.1 ∧ σ.2.1 22 7 = jZ p.2.2)
theorem AD_mk {a b : Int} {p q : Pt} {τ : aSt} {u v r w : Int} (hz : ¬ zP p q) (t0 : τ.2.2 22 0 = false) (t5 : τ.2.1 22 5 = jZ p.1) (t6 : τ.2.1 22 6 = jZ p.2.1) (t7 : τ.2.1 22 7 = jZ p.2.2) (hu : u = sU0 a b p q) (hv : v = sV0 p q) (hr : r = rise a b p q) (hw : w = run p q) : AD a b p q (s_l (s_l (s_l (s_l τ 22 3 (jZ r)) 22 4 (jZ w)) 22 1 (jZ u)) 22 2 (jZ v)) := by
  subst hu; subst hv; subst hr; subst hw
  exact ⟨by rw [decide_eq_false hz]; exact t0, fun _ => ⟨rfl, rfl, rfl, rfl, t5, t6, t7⟩⟩
theorem join_ok {a b : Int} {M E : Nat} (hc : CV a b M E) {σ : aSt} (hx : XC a b M E σ) {i j : Nat} {p q : Pt} (hi : (hX a b M E)[i]? = some p) (hj : (hX a b M E)[j]? = some q) : AD a b p q (f_Adder_join_11 (iZ i) (iZ j) σ) ∧ fr fr22 σ (f_Adder_join_11 (iZ i) (iZ j) σ) := by
  obtain ⟨hab, hb0, hM1, hM, hE1, hE⟩ := hc
  have hp := hX_pt (List.mem_of_getElem? hi)
  have hq := hX_pt (List.mem_of_getElem? hj)
  have pm := isPt_m hM hp
  have pn := isPt_n hab hM hE hp
  have pe := isPt_e hE hp
  have qm := isPt_m hM hq
  have qn := isPt_n hab hM hE hq
  have qe := isPt_e hE hq
  unfold f_Adder_join_11
  simp only [n_sl, m_sl, e_sl, m11 hx.1 hi, n11 hx.1 hi, e11 hx.1 hi, m11 hx.1 hj, n11 hx.1 hj, e11 hx.1 hj, i2j (bd_mono pm (by decide : (1000 : Int) ≤ 2147483647)), i2j (bd_mono pn (by decide : (141421 : Int) ≤ 2147483647)), i2j (bd_mono pe (by decide : (6 : Int) ≤ 2147483647)), i2j (bd_mono qm (by decide : (1000 : Int) ≤ 2147483647)), i2j (bd_mono qn (by decide : (141421 : Int) ≤ 2147483647)), i2j (bd_mono qe (by decide : (6 : Int) ≤ 2147483647))]
  obtain ⟨σ0, hσ0⟩ : ∃ σ0, σ0 = s_l (s_l (s_l σ 22 5 (jZ p.1)) 22 6 (jZ p.2.1)) 22 7 (jZ p.2.2) := ⟨_, rfl⟩
  rw [← hσ0]
  have f0 : fr fr22 σ σ0 := by rw [hσ0]; exact fr_trans (fr_trans (fr_sl rfl) (fr_sl rfl)) (fr_sl rfl)
  obtain ⟨τ, hτ⟩ : ∃ τ, τ = s_b σ0 22 0 false := ⟨_, rfl⟩
  have t0 : τ.2.2 22 0 = false := by rw [hτ]; rfl
  have t5 : τ.2.1 22 5 = jZ p.1 := by rw [hτ, hσ0]; rfl
  have t6 : τ.2.1 22 6 = jZ p.2.1 := by rw [hτ, hσ0]; rfl
  have t7 : τ.2.1 22 7 = jZ p.2.2 := by rw [hτ, hσ0]; rfl
  have ta : (f_PointList_a_11 τ).toInt64 = jZ a := by
    have : f_PointList_a_11 τ = iZ a := by rw [hτ, hσ0]; exact hx.2.1
    rw [this, i2j (bd_mono hab.1 (by decide))]
  have tb : (f_PointList_b_11 τ).toInt64 = jZ b := by
    have : f_PointList_b_11 τ = iZ b := by rw [hτ, hσ0]; exact hx.2.2.1
    rw [this, i2j (bd_mono hab.2 (by decide))]
  have fτ : fr fr22 σ τ := by rw [hτ]; exact fr_trans f0 (fr_sb rfl)
  -- the chord
  have chord : ¬ smx p q → AD a b p q (f_Adder_join_11_b45 (jZ q.1) (jZ q.2.1) (jZ q.2.2) σ0) ∧ fr fr22 σ (f_Adder_join_11_b45 (jZ q.1) (jZ q.2.1) (jZ q.2.2) σ0) := fun c => by
    have hz : ¬ zP p q := fun h => c h.1
    unfold f_Adder_join_11_b45 f_Adder_join_11_b46
    rw [if_pos rfl]
    unfold f_Adder_join_11_b58 f_Adder_join_11_b59
    rw [if_neg (by decide), if_pos rfl, lt_eq, ← hτ, ta]
    unfold f_Adder_followChord
    rw [t5, t6, t7]
    simp only [jZ_mul, jZ_sub, jZ_add]
    refine ⟨AD_mk hz t0 t5 t6 t7 ?_ ?_ ?_ ?_, fr_trans fτ (fr_trans (fr_trans (fr_trans (fr_sl rfl) (fr_sl rfl)) (fr_sl rfl)) (fr_sl rfl))⟩
    · unfold sU0 abv blw; rw [if_neg c, if_neg c, if_neg c]; grind
    · unfold sV0 blw; rw [if_neg c, if_neg c]; grind
    · unfold rise abv; rw [if_neg c, if_neg c]; grind
    · unfold run blw; rw [if_neg c, if_neg c]; grind
  by_cases c1 : p.1 = q.1
  · rw [if_neg (by rw [c1]; exact fun h => h rfl)]
    by_cases c2 : p.2.2 = q.2.2
    · rw [if_neg (by rw [c2]; exact fun h => h rfl)]
      have c : smx p q := ⟨c1, c2⟩
      unfold f_Adder_join_11_b46
      have s6 : σ0.2.1 22 6 = jZ p.2.1 := by rw [hσ0]; rfl
      have qn1 := qn.1
      have qn2 := qn.2
      have pn1 := pn.1
      have pn2 := pn.2
      rw [if_neg (by decide), s6, jZ_neg]
      by_cases c3 : p.2.1 = -q.2.1
      · have hz : zP p q := ⟨c, c3⟩
        rw [if_neg (by rw [c3]; exact fun h => h rfl)]
        unfold f_Adder_join_11_b59
        rw [if_pos rfl]
        exact ⟨⟨by rw [decide_eq_true hz]; exact sb_eq σ0 22 0 true, fun h => absurd hz h⟩, fr_trans f0 (fr_sb rfl)⟩
      · have hz : ¬ zP p q := fun h => c3 h.2
        rw [if_pos (by rw [ne_eq, jZ_eq ⟨by omega, by omega⟩ ⟨by omega, by omega⟩]; exact c3)]
        unfold f_Adder_join_11_b58 f_Adder_join_11_b59
        rw [if_neg (by decide), if_neg (by decide), lt_eq, ← hτ, ta, tb]
        unfold f_Adder_followTangent
        rw [t5, t6, t7]
        simp only [jZ_lit, jZ_mul, jZ_sub, jZ_add]
        refine ⟨AD_mk hz t0 t5 t6 t7 ?_ ?_ ?_ ?_, fr_trans fτ (fr_trans (fr_trans (fr_trans (fr_sl rfl) (fr_sl rfl)) (fr_sl rfl)) (fr_sl rfl))⟩
        · unfold sU0 abv blw; rw [if_pos c, if_pos c, if_pos c]; grind
        · unfold sV0 blw; rw [if_pos c, if_pos c]; grind
        · unfold rise abv; rw [if_pos c, if_pos c]
        · unfold run blw; rw [if_pos c, if_pos c]
    · rw [if_pos (by rw [ne_eq, jZ_eq (bd_mono pe (by decide)) (bd_mono qe (by decide))]; exact c2)]
      exact chord (fun h => c2 h.2)
  · rw [if_pos (by rw [ne_eq, jZ_eq (bd_mono pm (by decide)) (bd_mono qm (by decide))]; exact c1)]
    exact chord (fun h => c1 h.1)
theorem run_ne {a b : Int} {M E : Nat} {p q : Pt} (hp : isPt a b M E p) (hq : isPt a b M E q) (hz : ¬ zP p q) : run p q ≠ 0 := by
  have hb := blw_ne hp hq hz
  have h1 := hp.2.1
  have h2 := hq.2.1
  unfold run
  by_cases c : smx p q
  · rw [if_pos c]
    intro h
    rcases Int.mul_eq_zero.mp h with q | q
    · exact hb q
    · omega
  · rw [if_neg c]
    intro h
    have h := Int.neg_eq_zero.mp h
    rcases Int.mul_eq_zero.mp h with q | q
    · rcases Int.mul_eq_zero.mp q with q | q <;> omega
    · exact hb q
theorem n_same {a b : Int} {M E : Nat} {p q : Pt} (hp : isPt a b M E p) (hq : isPt a b M E q) (hz : ¬ zP p q) (u d : Int) : (d * (rise a b p q * (p.1 * (d * d) - u * p.2.2 * p.2.2) * p.2.2 - p.2.1 * run p q * (d * d))).tdiv (run p q * p.2.2 * p.2.2 * p.2.2) = (sNn a b p q u d).tdiv (sNd p q) := by
  have h1 := hp.2.1
  by_cases c : smx p q
  · have e1 : d * (rise a b p q * (p.1 * (d * d) - u * p.2.2 * p.2.2) * p.2.2 - p.2.1 * run p q * (d * d)) = p.2.2 * sNn a b p q u d := by
      unfold rise run sNn blw
      rw [if_pos c, if_pos c, if_pos c, if_pos c]
      generalize abv a b p q = A
      grind
    have e2 : run p q * p.2.2 * p.2.2 * p.2.2 = p.2.2 * sNd p q := by
      unfold run sNd blw
      rw [if_pos c, if_pos c, if_pos c]
      grind
    rw [e1, e2, tdiv_c (by omega)]
  · have e1 : d * (rise a b p q * (p.1 * (d * d) - u * p.2.2 * p.2.2) * p.2.2 - p.2.1 * run p q * (d * d)) = -p.2.2 * sNn a b p q u d := by
      unfold rise run sNn
      rw [if_neg c, if_neg c, if_neg c]
      generalize abv a b p q = A
      generalize blw p q = B
      grind
    have e2 : run p q * p.2.2 * p.2.2 * p.2.2 = -p.2.2 * sNd p q := by
      unfold run sNd
      rw [if_neg c, if_neg c]
      generalize blw p q = B
      grind
    rw [e1, e2, tdiv_c (by omega)]
theorem rise_bd {a b : Int} {M E : Nat} (hab : inB a b) (hM : M ≤ 1000) (hE : E ≤ 6) {p q : Pt} (hp : isPt a b M E p) (hq : isPt a b M E q) : bd 70000000 (rise a b p q) := by
  have h := abv_bd hab hM hE hp hq
  unfold rise
  by_cases c : smx p q
  · rw [if_pos c]; exact h
  · rw [if_neg c]; exact bd_neg h
theorem run_bd {a b : Int} {M E : Nat} (hab : inB a b) (hM : M ≤ 1000) (hE : E ≤ 6) {p q : Pt} (hp : isPt a b M E p) (hq : isPt a b M E q) : bd 2600000 (run p q) := by
  have e1 := isPt_e hE hp
  have e2 := isPt_e hE hq
  unfold run
  by_cases c : smx p q
  · rw [if_pos c]; exact bd_mono (bd_mul (blw_bd hab hM hE hp hq) e1) (by decide)
  · rw [if_neg c]; exact bd_mono (bd_neg (bd_mul (bd_mul e1 e2) (blw_bd2 hM hE hp hq c))) (by decide)
theorem quot_Z {x y : Int} (hx : bd 9223372036854775807 x) (hy : bd 9223372036854775807 y) : f_Whole_quotient (jZ x) (jZ y) = jZ (x.tdiv y) := by
  unfold f_Whole_quotient
  by_cases c : y = 0
  · rw [c, if_neg (fun h => h rfl), Int.tdiv_zero]; rfl
  · rw [if_pos (by rw [ne_eq, jZ_lit, jZ_eq hy (bd_lit _ rfl)]; exact c), jZ_div hx hy]
theorem placeL {a b : Int} {M E : Nat} (hc : CV a b M E) {N : Nat} (hN : 10000 ≤ N) {σ : aSt} (hx : XC a b M E σ) {p q : Pt} (hp : isPt a b M E p) (hq : isPt a b M E q) (hz : ¬ zP p q) (ha : AD a b p q σ) (hle : (sU0 a b p q).natAbs ≤ M * (sV0 p q).natAbs) : ∀ (j n d : Nat), d + j = E + 1 → 1 ≤ d → j + 1 ≤ n → (∀ d' : Int, 1 ≤ d' → d' < d → ¬ sV a b p q ∣ d' * d') → f_Adder_placeIn_11_l25 N σ n (iZ d) = some (iZ (sumI a b M E (hX a b M E) p q)) := by
  obtain ⟨hab, hb0, hM1, hM, hE1, hE⟩ := hc
  obtain ⟨hxl, -, -, h8, h9⟩ := hx
  obtain ⟨t1, t2, t3, t4, t5, t6, t7⟩ := ha.2 hz
  have hV := sV0_pos hp hq hz
  have hUb := sU0_bd hab hM hE hp hq
  have hVb := sV0_bd hab hM hE hp hq
  have pm := isPt_m hM hp
  have pn := isPt_n hab hM hE hp
  have pe := isPt_e hE hp
  have hri := rise_bd hab hM hE hp hq
  have hru := run_bd hab hM hE hp hq
  have hsum : sumI a b M E (hX a b M E) p q = match sumT a b M E p q with
      | none => -6
      | some t => fnd (hX a b M E) t := if_neg hz
  intro j
  induction j with
  | zero =>
    intro n d hd hd1 hn hmin
    obtain ⟨n, rfl, hn⟩ := fuel hn
    rw [f_Adder_placeIn_11_l25]
    unfold f_PointList_deepest_11
    rw [h9, if_pos (by rw [iZ_lt ⟨by omega, by omega⟩ ⟨by omega, by omega⟩]; omega), hsum, min_6]
    have hnone : sumT a b M E p q = none := by
      refine if_neg (fun h => ?_)
      obtain ⟨h1, h2, -⟩ := h
      have hv : 0 < sV a b p q := (lw_ok (U := sU0 a b p q) hV).choose_spec.2.2.2.1
      have h3 : 1 ≤ (sE a b p q : Int) := by
        rcases Nat.eq_zero_or_pos (sE a b p q) with z | z
        · rw [z] at h1; simp only [Int.natCast_zero, Int.zero_mul] at h1; omega
        · omega
      exact hmin (sE a b p q) h3 (by omega) (by rw [h1]; exact Int.dvd_refl _)
    rw [hnone]
  | succ j ih =>
    intro n d hd hd1 hn hmin
    obtain ⟨n, rfl, hn⟩ := fuel hn
    have hdb : bd 6 (d : Int) := ⟨by omega, by omega⟩
    have hdd := bd_mul hdb hdb
    have hUd := bd_mul hUb hdd
    rw [f_Adder_placeIn_11_l25]
    unfold f_PointList_deepest_11
    rw [h9, if_neg (by rw [iZ_lt ⟨by omega, by omega⟩ ⟨by omega, by omega⟩]; omega), t1, t2, t3, t4, t5, t6, t7, i2j (bd_mono hdb (by decide)), if_pos (by rw [jZ_lit, jZ_eq (bd_mono hVb (by decide)) (bd_lit _ rfl)]; omega), jZ_mul, jZ_mul, jZ_rem (bd_mono hUd (by decide)) (bd_mono hVb (by decide))]
    have htm : bd 360000000000000000 ((sU0 a b p q * ((d : Int) * d)).tmod (sV0 p q)) := bd_mono (tmod_bd _ hUd) (by decide)
    have hdvd : (sU0 a b p q * ((d : Int) * d)).tmod (sV0 p q) = 0 ↔ sV a b p q ∣ (d : Int) * d := by
      exact Iff.trans ⟨Int.dvd_of_tmod_eq_zero, Int.tmod_eq_zero_of_dvd⟩ (clears (U := sU0 a b p q) hV ((d : Int) * d))
    by_cases c : sV a b p q ∣ (d : Int) * d
    · rw [if_pos (by rw [hdvd.mpr c]; rfl), jZ_div (bd_mono hUd (by decide)) (bd_mono hVb (by decide))]
      have hub : bd 36000 ((sU0 a b p q * ((d : Int) * d)).tdiv (sV0 p q)) := by
        obtain ⟨k, hk⟩ := c
        have hval := clear_val (U := sU0 a b p q) (V := sV0 p q) (w := (d : Int) * d) (k := k) hV hk
        have hdv : sV0 p q ∣ sU0 a b p q * ((d : Int) * d) := (clears hV _).mpr ⟨k, hk⟩
        have hmul := Int.mul_tdiv_cancel' hdv
        obtain ⟨w, hw⟩ : ∃ w, w = (sU0 a b p q * ((d : Int) * d)).tdiv (sV0 p q) := ⟨_, rfl⟩
        rw [← hw] at hmul ⊢
        have hab2 : (sV0 p q).natAbs * w.natAbs = (sU0 a b p q).natAbs * (d * d) := by
          rw [← Int.natAbs_mul, hmul, Int.natAbs_mul, Int.natAbs_mul, Int.natAbs_natCast]
        have h36 : d * d ≤ 6 * 6 := Nat.mul_le_mul (by omega) (by omega)
        have h1 : (sU0 a b p q).natAbs * (d * d) ≤ M * (sV0 p q).natAbs * 36 := Nat.mul_le_mul hle h36
        have h2 : M * (sV0 p q).natAbs * 36 ≤ (sV0 p q).natAbs * 36000 := by
          have : M * (sV0 p q).natAbs ≤ 1000 * (sV0 p q).natAbs := Nat.mul_le_mul_right _ hM
          omega
        have h3 : w.natAbs ≤ 36000 := Nat.le_of_mul_le_mul_left (by omega) (show 0 < (sV0 p q).natAbs by omega)
        exact ⟨by omega, by omega⟩
      obtain ⟨u, hu⟩ : ∃ u, u = (sU0 a b p q * ((d : Int) * d)).tdiv (sV0 p q) := ⟨_, rfl⟩
      rw [← hu] at hub ⊢
      simp only [jZ_mul, jZ_sub]
      have hnum : bd 9223372036854775807 ((d : Int) * (rise a b p q * (p.1 * ((d : Int) * d) - u * p.2.2 * p.2.2) * p.2.2 - p.2.1 * run p q * ((d : Int) * d))) :=
        bd_mono (bd_mul hdb (bd_sub (bd_mul (bd_mul hri (bd_sub (bd_mul pm hdd) (bd_mul (bd_mul hub pe) pe))) pe) (bd_mul (bd_mul pn hru) hdd))) (by decide)
      have hden : bd 9223372036854775807 (run p q * p.2.2 * p.2.2 * p.2.2) := bd_mono (bd_mul (bd_mul (bd_mul hru pe) pe) pe) (by decide)
      rw [quot_Z hnum hden, n_same hp hq hz, find11 hN hab hM hE hxl h8 h9 (bd_mono hub (by decide)) ?_ (bd_mono hdb (by decide)), Option.bind_some, hsum]
      · congr 1
        congr 1
        rcases depth_ok (a := a) (b := b) (M := M) (E := E) (U := sU0 a b p q) (V := sV0 p q) hV (L := hX a b M E) (fun t ht => hX_pt ht) (d := (d : Int)) (by omega) (by omega) hmin c with ⟨e1, e2, e3, e4⟩ | ⟨e1, e2⟩
        · have eu : u = sU a b p q := by rw [hu]; exact e4
          have ed : (d : Int) = (sE a b p q : Int) := e3
          by_cases cb : -(M : Int) ≤ sU a b p q ∧ sU a b p q ≤ (M : Int)
          · have hs : sumT a b M E p q = some (sU a b p q, sN a b p q, (sE a b p q : Int)) := if_pos ⟨e1, e2, cb⟩
            rw [hs, eu, ed]
            rfl
          · have hs : sumT a b M E p q = none := if_neg (fun h => cb h.2.2)
            rw [hs]
            refine fnd_out (fun hm => cb ?_)
            have := (hX_pt hm).1
            rw [← eu]
            exact this
        · have hs : sumT a b M E p q = none := if_neg (fun h => e1 ⟨h.1, h.2.1⟩)
          rw [hs]
          refine fnd_out (fun hm => ?_)
          rw [hu] at hm
          exact e2 _ hm
      · rw [← n_same hp hq hz]
        exact bd_tdiv _ hnum
    · rw [if_neg (by rw [jZ_lit, jZ_eq (bd_mono htm (by decide)) (bd_lit _ rfl), hdvd]; exact c), i1]
      refine ih n (d + 1) (by omega) (by omega) (by omega) (fun d' h1 h2 => ?_)
      by_cases cd : d' = (d : Int)
      · rw [cd]; exact c
      · exact hmin d' h1 (by omega)
theorem lwU_ge {U V : Int} (hV : 0 < V) {M : Nat} (h : M * V.natAbs < U.natAbs) : ¬ (-(M : Int) ≤ lwU U V ∧ lwU U V ≤ (M : Int)) := by
  obtain ⟨g, g0, gU, gV, v0, cop, -⟩ := lw_ok (U := U) hV
  intro hb
  have hu : (lwU U V).natAbs ≤ M := by omega
  have e1 : U.natAbs = g.natAbs * (lwU U V).natAbs := by rw [← Int.natAbs_mul, ← gU]
  have e2 : V.natAbs = g.natAbs * (lwV U V).natAbs := by rw [← Int.natAbs_mul, ← gV]
  have h1 : g.natAbs * (lwU U V).natAbs ≤ g.natAbs * M := Nat.mul_le_mul_left _ hu
  have h2 : g.natAbs * 1 ≤ g.natAbs * (lwV U V).natAbs := Nat.mul_le_mul_left _ (by omega)
  have h3 : M * (g.natAbs * 1) ≤ M * V.natAbs := Nat.mul_le_mul_left _ (by omega)
  have h4 : g.natAbs * M = M * (g.natAbs * 1) := by rw [Nat.mul_one, Nat.mul_comm]
  omega
theorem placeIn_ok {a b : Int} {M E : Nat} (hc : CV a b M E) {N : Nat} (hN : 10000 ≤ N) {σ : aSt} (hx : XC a b M E σ) {p q : Pt} (hp : isPt a b M E p) (hq : isPt a b M E q) (ha : AD a b p q σ) : f_Adder_placeIn_11 N σ = some (iZ (sumI a b M E (hX a b M E) p q)) := by
  unfold f_Adder_placeIn_11
  rw [ha.1]
  by_cases hz : zP p q
  · rw [if_pos (decide_eq_true hz), show sumI a b M E (hX a b M E) p q = 1000 from if_pos hz]; rfl
  · obtain ⟨hab, hb0, hM1, hM, hE1, hE⟩ := id hc
    obtain ⟨t1, t2, -⟩ := ha.2 hz
    have hV := sV0_pos hp hq hz
    have hUb := sU0_bd hab hM hE hp hq
    have hVb := sV0_bd hab hM hE hp hq
    have u1 := hUb.1
    have u2 := hUb.2
    unfold f_PointList_most_11
    rw [if_neg (by rw [decide_eq_true_eq]; exact hz), t1, t2, hx.2.2.2.1, if_neg (by rw [jZ_lit, jZ_le (bd_mono hVb (by decide)) (bd_lit _ rfl)]; omega), labs_Z (bd_mono hUb (by decide)), i2j ⟨by omega, by omega⟩, jZ_mul]
    have hMb : bd 1000 (M : Int) := ⟨by omega, by omega⟩
    have hMV := bd_mul hMb hVb
    have eM : (M : Int) * sV0 p q = ((M * (sV0 p q).natAbs : Nat) : Int) := by
      rw [Int.natCast_mul, Int.natAbs_of_nonneg (by omega)]
    by_cases cl : (sU0 a b p q).natAbs ≤ M * (sV0 p q).natAbs
    · rw [if_pos (by rw [jZ_le ⟨by omega, by omega⟩ (bd_mono hMV (by decide)), eM]; omega)]
      exact placeL hc hN hx hp hq hz ha cl E N 1 (by omega) (by omega) (by omega) (fun d' h1 h2 => by omega)
    · rw [if_neg (by rw [jZ_le ⟨by omega, by omega⟩ (bd_mono hMV (by decide)), eM]; omega), min_6]
      have hs : sumT a b M E p q = none := if_neg (fun h => lwU_ge hV (by omega) h.2.2)
      rw [show sumI a b M E (hX a b M E) p q = -6 from by unfold sumI; rw [if_neg hz, hs]]
