/-! of, parallel, lines, straight -/
section OPS
variable {a b : Int} {M E : Nat}
theorem joined_ok (hc : CV a b M E) {N : Nat} (hN : 10000 ≤ N) {σ : aSt} (hx : XC a b M E σ) {i j : Nat} {p q : Pt} (hi : (hX a b M E)[i]? = some p) (hj : (hX a b M E)[j]? = some q) : ∃ σ', f_Sums_joined N (iZ i) (iZ j) σ = some σ' ∧ fr fr22 σ σ' ∧ σ'.2.2 22 0 = decide (zP p q) ∧ (¬ zP p q → σ'.2.1 22 1 = jZ (sU a b p q) ∧ σ'.2.1 22 2 = jZ (sV a b p q)) := by
  obtain ⟨h1, h2⟩ := join_ok hc hx hi hj
  unfold f_Sums_joined f_Adder_reduce
  rw [lt_eq, h1.1]
  by_cases hz : zP p q
  · rw [if_pos (decide_eq_true hz)]
    exact ⟨_, rfl, h2, h1.1, fun h => absurd hz h⟩
  · obtain ⟨hab, -, -, hM, -, hE⟩ := hc
    obtain ⟨t1, t2, -⟩ := h1.2 hz
    have hp := hX_pt (List.mem_of_getElem? hi)
    have hq := hX_pt (List.mem_of_getElem? hj)
    have hUb := sU0_bd hab hM hE hp hq
    have hVb := sV0_bd hab hM hE hp hq
    have hV := sV0_pos hp hq hz
    have hgl := Int.gcd_le_natAbs_right (sU0 a b p q) (show sV0 p q ≠ 0 by omega)
    have v1 := hVb.1; have v2 := hVb.2
    have hgb : bd 9223372036854775807 (Int.gcd (sU0 a b p q) (sV0 p q) : Int) := ⟨by omega, by omega⟩
    rw [if_neg (by rw [decide_eq_true_eq]; exact hz), t1, t2, gcd_Z hN (bd_mono hUb (by decide)) (bd_mono hVb (by decide)), Option.bind_some, quot_Z (bd_mono hUb (by decide)) hgb, quot_Z (bd_mono hVb (by decide)) hgb, Option.bind_some]
    exact ⟨_, rfl, fr_trans h2 (fr_trans (fr_sl rfl) (fr_sl rfl)), h1.1, fun _ => ⟨rfl, rfl⟩⟩
theorem listed {p : Int32} (c : 0 ≤ p.toInt ∧ p.toInt < ((hL a b M E).length : Int)) : ∃ (i : Nat) (q : Pt), p = iZ (i : Int) ∧ (hL a b M E)[i]? = some q := by
  obtain ⟨i, hi⟩ : ∃ i : Nat, p.toInt = i := ⟨p.toInt.toNat, by omega⟩
  obtain ⟨q, hq⟩ := get_some (L := hL a b M E) (i := i) (by omega)
  exact ⟨i, q, lit32 hi, hq⟩
theorem of_b (hc : CV a b M E) {N : Nat} (hN : 10000 ≤ N) {σ τ : aSt} (hx : RX a b M E σ) (hm : RM a b M E τ) {i j k : Nat} {p q : Pt} {s : Int} (hs : s = 1 ∨ s = -1) (hi : (hL a b M E)[i]? = some p) (hj : (hL a b M E)[j]? = some q) (hk : (hX a b M E)[k]? = some (sgn s q)) (w : Int32) : ∃ r σ' τ', f_X_of_b31 N w (iZ i) (iZ k) σ = some (r, σ') ∧ f_M_of_b30 N w (iZ i) (iZ j) (iZ s) τ = some (r, τ') ∧ fr fr22 σ σ' ∧ fr fr23 τ τ' := by
  obtain ⟨σ', g1, g2, g3, g4⟩ := joined_ok hc hN hx.2 (hL_get hi).1 hk
  obtain ⟨τ', e1, e2, e3⟩ := joins_ok hc hN hm.2 hi hj hs
  unfold f_X_of_b31 f_M_of_b30
  unfold f_Adder_isZero f_Adder_height f_Adder_under f_Adder_top f_M_heightOf
  rw [g1, e1, Option.bind_some, Option.bind_some, g3, e2.1]
  by_cases hz : zP p (sgn s q)
  · rw [if_pos (decide_eq_true hz), if_pos (decide_eq_true hz)]
    exact ⟨_, σ', τ', rfl, rfl, g2, e3⟩
  · obtain ⟨y1, y2⟩ := g4 hz
    obtain ⟨y3, y4⟩ := e2.2.2.1 hz
    have hzd : ¬ decide (zP p (sgn s q)) = true := by rw [decide_eq_true_eq]; exact hz
    rw [if_neg hzd, if_neg hzd, y1, y2, y3, y4]
    by_cases c0 : w ≠ 0
    · rw [if_pos c0, if_pos c0]
      by_cases c1 : w ≠ (1 : Int32)
      · rw [if_pos c1, if_pos c1]; exact ⟨_, σ', τ', rfl, rfl, g2, e3⟩
      · rw [if_neg c1, if_neg c1]; exact ⟨_, σ', τ', rfl, rfl, g2, e3⟩
    · rw [if_neg c0, if_neg c0]; exact ⟨_, σ', τ', rfl, rfl, g2, e3⟩
theorem of_eq {N : Nat} (hc : CV a b M E) (hN : 10000 ≤ N) {σ τ : aSt} (hx : RX a b M E σ) (hm : RM a b M E τ) (p q h w : Int32) : ∃ r σ' τ', f_X_of N p q h w σ = some (r, σ') ∧ f_M_of N p q h w τ = some (r, τ') ∧ fr fr22 σ σ' ∧ fr fr23 τ τ' := by
  have no : ∀ r : Int64, ∃ r' σ' τ', some (r, σ) = some (r', σ') ∧ some (r, τ) = some (r', τ') ∧ fr fr22 σ σ' ∧ fr fr23 τ τ' := fun r => ⟨r, σ, τ, rfl, rfl, fr_refl _ _, fr_refl _ _⟩
  unfold f_X_of f_M_of
  have e1 : f_M_in h.toInt64 (0 : Int64) (1 : Int64) = decide (0 ≤ h.toInt ∧ h.toInt ≤ 1) := in_p (lo := 0) (hi := 1) (bd_lit _ rfl) (bd_lit _ rfl)
  have e2 : f_M_in w.toInt64 (0 : Int64) (2 : Int64) = decide (0 ≤ w.toInt ∧ w.toInt ≤ 2) := in_p (lo := 0) (hi := 2) (bd_lit _ rfl) (bd_lit _ rfl)
  have q1 : (h < (0 : Int32)) = (h.toInt < 0) := pl_lt (bd_lit 0 rfl)
  have q2 : ((1 : Int32) < h) = (1 < h.toInt) := pl_gt (bd_lit 1 rfl)
  have q3 : (w < (0 : Int32)) = (w.toInt < 0) := pl_lt (bd_lit 0 rfl)
  have q4 : (w ≤ (2 : Int32)) = (w.toInt ≤ 2) := pl_le (bd_lit 2 rfl)
  simp only [xListed hx, mListed hm, ite_dec, e1, e2, q1, q2, q3, q4]
  by_cases c : 0 ≤ p.toInt ∧ p.toInt < ((hL a b M E).length : Int)
  · rw [if_pos c, if_pos c]
    by_cases c2 : 0 ≤ q.toInt ∧ q.toInt < ((hL a b M E).length : Int)
    · rw [if_pos c2, if_pos c2]
      by_cases c3 : 0 ≤ h.toInt ∧ h.toInt ≤ 1
      · rw [if_neg (show ¬ h.toInt < 0 by omega), if_neg (show ¬ 1 < h.toInt by omega), if_pos c3]
        by_cases c4 : 0 ≤ w.toInt ∧ w.toInt ≤ 2
        · rw [if_neg (show ¬ w.toInt < 0 by omega), if_pos c4.2, if_pos c4]
          obtain ⟨i, p', rfl, hi⟩ := listed c
          obtain ⟨j, q', rfl, hj⟩ := listed c2
          by_cases c5 : h ≠ 0
          · rw [if_pos c5, if_pos c5]
            obtain ⟨k, hk, ek⟩ := neg_held hc hx.2 (hL_get hj).1
            rw [ek]
            exact of_b hc hN hx hm (Or.inr rfl) hi hj (by rw [sgn_m]; exact hk) w
          · rw [if_neg c5, if_neg c5]
            exact of_b hc hN hx hm (Or.inl rfl) hi hj (by rw [sgn_1]; exact (hL_get hj).1) w
        · rw [if_neg c4]
          by_cases c5 : w.toInt < 0
          · rw [if_pos c5]; exact no _
          · rw [if_neg c5, if_neg (show ¬ w.toInt ≤ 2 by omega)]; exact no _
      · rw [if_neg c3]
        by_cases c5 : h.toInt < 0
        · rw [if_pos c5]; exact no _
        · rw [if_neg c5, if_pos (show 1 < h.toInt by omega)]; exact no _
    · rw [if_neg c2, if_neg c2]; exact no _
  · rw [if_neg c, if_neg c]; exact no _
/-- BITS of a SUM's x -/
def sbits (a b : Int) (p q : Pt) : Nat := if zP p q then 0 else bln (max (sU a b p q).natAbs (sV a b p q).natAbs)
theorem sbits_le (hc : CV a b M E) {p q : Pt} (hp : isPt a b M E p) (hq : isPt a b M E q) : sbits a b p q ≤ 62 ∧ max (sU a b p q).natAbs (sV a b p q).natAbs < 4611686018427387904 := by
  obtain ⟨hab, -, -, hM, -, hE⟩ := hc
  have hUb : bd 10000000000000000 (sU a b p q) := lw_bd (sU0_bd hab hM hE hp hq)
  have hVb : bd 7000000000000 (sV a b p q) := lwV_bd (sV0_bd hab hM hE hp hq)
  have u1 := hUb.1; have u2 := hUb.2; have v1 := hVb.1; have v2 := hVb.2
  have hb : max (sU a b p q).natAbs (sV a b p q).natAbs < 4611686018427387904 := by omega
  refine ⟨?_, hb⟩
  unfold sbits
  by_cases hz : zP p q
  · rw [if_pos hz]; omega
  · rw [if_neg hz]; exact bln_le hb
theorem hsum_Z (hc : CV a b M E) {p q : Pt} (hp : isPt a b M E p) (hq : isPt a b M E q) (hz : ¬ zP p q) : lmax (labs (jZ (sU a b p q))) (jZ (sV a b p q)) = jZ ((max (sU a b p q).natAbs (sV a b p q).natAbs : Nat) : Int) := by
  obtain ⟨hab, -, -, hM, -, hE⟩ := hc
  have hUb : bd 10000000000000000 (sU a b p q) := lw_bd (sU0_bd hab hM hE hp hq)
  have hVb : bd 7000000000000 (sV a b p q) := lwV_bd (sV0_bd hab hM hE hp hq)
  have hV := sV0_pos hp hq hz
  have hv0 : 0 < sV a b p q := (lw_ok (U := sU0 a b p q) hV).choose_spec.2.2.2.1
  have u1 := hUb.1; have u2 := hUb.2; have v1 := hVb.1; have v2 := hVb.2
  rw [labs_Z (bd_mono hUb (by decide)), lmax_Z ⟨by omega, by omega⟩ (bd_mono hVb (by decide))]
  congr 1
  omega
theorem xbitsum (hc : CV a b M E) {N : Nat} (hN : 10000 ≤ N) {σ : aSt} (hx : XC a b M E σ) {i k : Nat} {p q : Pt} (hi : (hX a b M E)[i]? = some p) (hk : (hX a b M E)[k]? = some q) : ∃ σ', f_Sums_joined N (iZ i) (iZ k) σ = some σ' ∧ fr fr22 σ σ' ∧ f_Adder_heightDigits σ' = iZ (sbits a b p q) := by
  obtain ⟨σ', g1, g2, g3, g4⟩ := joined_ok hc hN hx hi hk
  have hp := hX_pt (List.mem_of_getElem? hi)
  have hq := hX_pt (List.mem_of_getElem? hk)
  refine ⟨σ', g1, g2, ?_⟩
  unfold f_Adder_heightDigits f_Adder_height sbits
  rw [g3]
  by_cases hz : zP p q
  · rw [if_pos (decide_eq_true hz), if_pos hz]; rfl
  · obtain ⟨y1, y2⟩ := g4 hz
    rw [if_neg (by rw [decide_eq_true_eq]; exact hz), if_neg hz, y1, y2, hsum_Z hc hp hq hz, digits_Z (sbits_le hc hp hq).2]
theorem mbitsum (hc : CV a b M E) {N : Nat} (hN : 10000 ≤ N) {τ : aSt} (hm : MC a b M E τ) {i j : Nat} {p q : Pt} (hi : (hL a b M E)[i]? = some p) (hj : (hL a b M E)[j]? = some q) {s : Int} (hs : s = 1 ∨ s = -1) : ∃ τ', f_M_bitsOfSum N (iZ i) (iZ j) (iZ s) τ = some (iZ (sbits a b p (sgn s q)), τ') ∧ fr fr23 τ τ' := by
  obtain ⟨τ', e1, e2, e3⟩ := joins_ok hc hN hm hi hj hs
  have hp := hL_pt hi
  have hq := isPt_sgn hs (hL_pt hj)
  unfold f_M_bitsOfSum f_M_heightOf sbits
  rw [e1, Option.bind_some, e2.1]
  by_cases hz : zP p (sgn s q)
  · rw [if_pos (decide_eq_true hz), if_pos hz]
    exact ⟨τ', rfl, e3⟩
  · obtain ⟨y3, y4⟩ := e2.2.2.1 hz
    rw [if_neg (by rw [decide_eq_true_eq]; exact hz), if_neg hz, y3, y4, hsum_Z hc hp hq hz, bitsOf_Z hN (sbits_le hc hp hq).2, Option.bind_some]
    exact ⟨τ', rfl, e3⟩
theorem parallel_eq {N : Nat} (hc : CV a b M E) (hN : 10000 ≤ N) {σ τ : aSt} (hx : RX a b M E σ) (hm : RM a b M E τ) (p q : Int32) : ∃ r σ' τ', f_X_parallel N p q σ = some (r, σ') ∧ f_M_parallel N p q τ = some (r, τ') ∧ fr fr22 σ σ' ∧ fr fr23 τ τ' := by
  have no : ∀ r : Int64, ∃ r' σ' τ', some (r, σ) = some (r', σ') ∧ some (r, τ) = some (r', τ') ∧ fr fr22 σ σ' ∧ fr fr23 τ τ' := fun r => ⟨r, σ, τ, rfl, rfl, fr_refl _ _, fr_refl _ _⟩
  unfold f_X_parallel f_M_parallel
  simp only [xListed hx, mListed hm, ite_dec]
  by_cases c : 0 ≤ p.toInt ∧ p.toInt < ((hL a b M E).length : Int)
  · rw [if_pos c, if_pos c]
    by_cases c2 : 0 ≤ q.toInt ∧ q.toInt < ((hL a b M E).length : Int)
    · rw [if_pos c2, if_pos c2]
      have bp := bits_eq hc hN hx hm p
      have bq := bits_eq hc hN hx hm q
      obtain ⟨i, p', rfl, hi⟩ := listed c
      obtain ⟨j, q', rfl, hj⟩ := listed c2
      have hp := hL_pt hi
      have hq := hL_pt hj
      obtain ⟨hab, -, -, hM, -, hE⟩ := id hc
      have hh1 := hgt_bd hM hE hp
      have hh2 := hgt_bd hM hE hq
      obtain ⟨σ1, g1, g2, g3⟩ := xbitsum hc hN hx.2 (hL_get hi).1 (hL_get hj).1
      have hx1 := XC_22 g2 hx.2
      obtain ⟨k, hk, ek⟩ := neg_held hc hx1 (hL_get hj).1
      obtain ⟨σ2, g4, g5, g6⟩ := xbitsum hc hN hx1 (hL_get hi).1 hk
      obtain ⟨τ1, t1, t2⟩ := mbitsum hc hN hm.2 hi hj (Or.inl rfl)
      have hm1 := MC_fr t2 ok23 hm.2
      obtain ⟨τ2, t3, t4⟩ := mbitsum hc hN hm1 hi hj (Or.inr rfl)
      have hm2 := MC_fr t4 ok23 hm1
      rw [g1, Option.bind_some, ek, g4, Option.bind_some, g3, g6]
      rw [show (-1 : Int32) = iZ (-1) from by decide, show (1 : Int32) = iZ 1 from rfl, t1, Option.bind_some, t3, Option.bind_some]
      simp only
      rw [mheight N hM hE hm2 hi, Option.bind_some, mheight N hM hE hm2 hj]
      obtain ⟨h1, eh1⟩ : ∃ h : Nat, hgt p' = h := ⟨(hgt p').toNat, by omega⟩
      obtain ⟨h2, eh2⟩ : ∃ h : Nat, hgt q' = h := ⟨(hgt q').toNat, by omega⟩
      have bx : ∀ {z : Nat} {r : Pt} {h : Nat}, (hL a b M E)[z]? = some r → hgt r = h → h < 4611686018427387904 → f_X_bits (iZ z) σ = iZ (bln h) := fun {z r h} hz hr hh => by
        have := get_lt hz
        have hle := hL_le (a := a) (b := b) (M := M) (E := E)
        unfold f_X_bits
        rw [xPoint hx, ite_dec, if_pos (by rw [iZ_int ⟨by omega, by omega⟩]; omega), if_pos (by rw [ne_eq, iZ_lit, iZ_eq ⟨by omega, by omega⟩ (bd_lit _ rfl)]; omega), xheight hM hE hx.2 hz, hr, i2j ⟨by have := hgt_bd hM hE (hL_pt hz); omega, by have := hgt_bd hM hE (hL_pt hz); omega⟩, digits_Z hh]
      rw [bx hi eh1 (by omega), bx hj eh2 (by omega), eh1, eh2, bitsOf_Z hN (h := h1) (by omega), Option.bind_some, Option.bind_some, bitsOf_Z hN (h := h2) (by omega), Option.bind_some]
      have s1 := (sbits_le hc hp hq).1
      have s2 := (sbits_le hc hp (isPt_tn hq)).1
      refine ⟨_, σ2, τ2, rfl, ?_, fr_trans g2 g5, fr_trans t2 t4⟩
      rw [sgn_1, sgn_m, i2j ⟨by omega, by omega⟩, i2j ⟨by omega, by omega⟩, iZ_add (sbits a b p' q' : Int), i2j ⟨by omega, by omega⟩, jZ_add]
    · rw [if_neg c2, if_neg c2]; exact no _
  · rw [if_neg c, if_neg c]; exact no _
/-! lines -/
theorem tn_tn (p : Pt) : tn (tn p) = p := by
  obtain ⟨m, n, e⟩ := p
  unfold tn
  simp only [Int.neg_neg]
/-- the third of a line, if it is in the LIST -/
def thr (a b : Int) (M E : Nat) (p q : Pt) : Int := if zP p q then -6 else match sumT a b M E p q with
  | none => -6
  | some t => fnd (hL a b M E) (tn t)
def linJ (a b : Int) (M E : Nat) (i : Nat) : Nat → Nat → Nat
  | 0, _ => 0
  | k + 1, j => (if (j : Int) < thr a b M E (gp a b M E (i : Int)) (gp a b M E (j : Int)) then 1 else 0) + linJ a b M E i k (j + 1)
def linI (a b : Int) (M E : Nat) : Nat → Nat → Nat
  | 0, _ => 0
  | k + 1, i => linJ a b M E i k (i + 1) + linI a b M E k (i + 1)
def linC (a b : Int) (M E : Nat) : Nat := linI a b M E (hL a b M E).length 0
theorem gp_i {i : Nat} {p : Pt} (h : (hL a b M E)[i]? = some p) : gp a b M E (i : Int) = p := by
  unfold gp
  rw [Int.toNat_natCast, h]; rfl
/-- what the class asks of it -/
theorem third_x (hc : CV a b M E) {σ : aSt} (hx : XC a b M E σ) {p q : Pt} {j : Nat} (hj : j < (hL a b M E).length) : ∃ z : Int, f_Sums_negative (iZ (sumI a b M E (hX a b M E) p q)) σ = iZ z ∧ bd 2000 z ∧ (((j : Int) < z ∧ z < ((hL a b M E).length : Int)) ↔ (j : Int) < thr a b M E p q) := by
  obtain ⟨hab, -, -, hM, -, hE⟩ := id hc
  have hl := hL_le (a := a) (b := b) (M := M) (E := E)
  have hlen := hL_len a b M E
  have hxl := hX_len a b M E
  have n6 : f_Sums_negative (iZ (-6)) σ = iZ (-6) := by
    unfold f_Sums_negative
    rw [min_6, if_neg (by decide), if_neg (fun h => h rfl)]
  unfold sumI thr
  by_cases hz : zP p q
  · rw [if_pos hz, if_pos hz]
    refine ⟨1000, ?_, bd_lit _ rfl, by omega⟩
    unfold f_Sums_negative
    rw [if_pos (by decide)]
  · rw [if_neg hz, if_neg hz]
    cases hs : sumT a b M E p q with
    | none => exact ⟨-6, n6, bd_lit _ rfl, by simp only; omega⟩
    | some t =>
      simp only
      rcases fnd_cases (hX_KS hab hM hE) t with ⟨k, h1, h2⟩ | ⟨h1, h2⟩
      · obtain ⟨k', h3, h4⟩ := neg_held hc hx h1
        have hk := get_lt h3
        rw [h2, h4, fnd_shown hab hM hE, fnd_in (hX_KS hab hM hE) h3]
        refine ⟨k', rfl, ⟨by omega, by omega⟩, ?_⟩
        by_cases c : (k' : Int) < 120
        · rw [if_pos c]; omega
        · rw [if_neg c]; omega
      · rw [h2]
        refine ⟨-6, n6, bd_lit _ rfl, ?_⟩
        have : fnd (hL a b M E) (tn t) = -6 := by
          refine fnd_out (fun hm => h1 ?_)
          obtain ⟨k, hk⟩ := List.getElem?_of_mem hm
          obtain ⟨k', h3, -⟩ := neg_held hc hx (hL_get hk).1
          rw [tn_tn] at h3
          exact List.mem_of_getElem? h3
        rw [this]; omega
theorem linL20 (hc : CV a b M E) {N : Nat} (hN : 10000 ≤ N) (k43 : Int32 → Int32 → aSt → Option (Int32 × aSt)) {i : Nat} (hi : i < (hL a b M E).length) : ∀ (k n j : Nat) (s : Nat) (σ : aSt), XC a b M E σ → j + k = (hL a b M E).length → k + 1 ≤ n → ∃ σ', f_Sums_lineCount_l20 N k43 n (iZ s) (iZ i) (iZ j) σ = k43 (iZ ((s + linJ a b M E i k j : Nat) : Int)) (iZ i) σ' ∧ fr fr22 σ σ' := by
  have hl := hL_le (a := a) (b := b) (M := M) (E := E)
  obtain ⟨p, hp⟩ := get_some hi
  intro k
  induction k with
  | zero =>
    intro n j s σ hx hj hn
    obtain ⟨n, rfl, hn⟩ := fuel hn
    rw [f_Sums_lineCount_l20, shownZ hx, if_pos (stop (by omega))]
    exact ⟨σ, rfl, fr_refl _ _⟩
  | succ k ih =>
    intro n j s σ hx hj hn
    obtain ⟨n, rfl, hn⟩ := fuel hn
    obtain ⟨q, hq⟩ := get_some (L := hL a b M E) (i := j) (by omega)
    obtain ⟨σ1, h1, h2⟩ := held_ok hc hN hx (hL_get hp).1 (hL_get hq).1
    have hx1 := XC_22 h2 hx
    obtain ⟨z, z1, z2, z3⟩ := third_x hc hx1 (p := p) (q := q) (j := j) (by omega)
    have zb1 := z2.1; have zb2 := z2.2
    rw [f_Sums_lineCount_l20, shownZ hx, if_neg (ngo (by omega)), h1, Option.bind_some, shownZ hx1, linJ, gp_i hp, gp_i hq]
    simp only [z1]
    rw [i1, i1]
    by_cases c1 : (j : Int) < z ∧ z < ((hL a b M E).length : Int)
    · rw [if_neg (by rw [iZ_le (bd_mono z2 (by decide)) ⟨by omega, by omega⟩]; omega), if_neg (by rw [iZ_le ⟨by omega, by omega⟩ (bd_mono z2 (by decide))]; omega), if_pos (z3.mp c1)]
      obtain ⟨σ', g1, g2⟩ := ih n (j + 1) (s + 1) σ1 hx1 (by omega) (by omega)
      exact ⟨σ', by rw [g1]; congr 3; omega, fr_trans h2 g2⟩
    · rw [if_neg (fun h => c1 (z3.mpr h)), Nat.zero_add]
      obtain ⟨σ', g1, g2⟩ := ih n (j + 1) s σ1 hx1 (by omega) (by omega)
      refine ⟨σ', ?_, fr_trans h2 g2⟩
      by_cases c2 : z ≤ (j : Int)
      · rw [if_pos (by rw [iZ_le (bd_mono z2 (by decide)) ⟨by omega, by omega⟩]; exact c2)]; exact g1
      · rw [if_neg (by rw [iZ_le (bd_mono z2 (by decide)) ⟨by omega, by omega⟩]; exact c2), if_pos (by rw [iZ_le ⟨by omega, by omega⟩ (bd_mono z2 (by decide))]; omega)]; exact g1
def fr21 : Nat → Nat → Bool := fun o k => Nat.beq o 22 || (Nat.beq o 21 && Nat.beq k 5)
theorem fr22_21 {σ σ' : aSt} (h : fr fr22 σ σ') : fr fr21 σ σ' := fr_mono h (fun o k q => by
  unfold fr21 at q
  rw [Bool.or_eq_false_iff] at q
  exact q.1)
theorem linL11 (hc : CV a b M E) {N : Nat} (hN : 10000 ≤ N) : ∀ (k n i s : Nat) (σ : aSt), XC a b M E σ → i + k = (hL a b M E).length → k + 1 ≤ n → ∃ σ', f_Sums_lineCount_l11 N n (iZ s) (iZ i) σ = some (iZ ((s + linI a b M E k i : Nat) : Int), σ') ∧ fr fr21 σ σ' ∧ σ'.1 21 5 = iZ ((s + linI a b M E k i : Nat) : Int) := by
  have hl := hL_le (a := a) (b := b) (M := M) (E := E)
  intro k
  induction k with
  | zero =>
    intro n i s σ hx hi hn
    obtain ⟨n, rfl, hn⟩ := fuel hn
    rw [f_Sums_lineCount_l11, shownZ hx, if_pos (stop (by omega))]
    exact ⟨_, rfl, fr_si rfl, si_eq _ _ _ _⟩
  | succ k ih =>
    intro n i s σ hx hi hn
    obtain ⟨n, rfl, hn⟩ := fuel hn
    rw [f_Sums_lineCount_l11, shownZ hx, if_neg (ngo (by omega)), i1]
    obtain ⟨σ1, h1, h2⟩ := linL20 hc hN (fun (y7 : Int32) (y8 : Int32) σ9 => f_Sums_lineCount_l11 N n y7 (y8 + (1 : Int32)) σ9) (i := i) (by omega) k N (i + 1) s σ hx (by omega) (by omega)
    rw [h1]
    show ∃ σ', f_Sums_lineCount_l11 N n _ (iZ (i : Int) + (1 : Int32)) σ1 = _ ∧ _
    rw [i1, linI]
    obtain ⟨σ', g1, g2, g3⟩ := ih n (i + 1) (s + linJ a b M E i k (i + 1)) σ1 (XC_22 h2 hx) (by omega) (by omega)
    refine ⟨σ', ?_, fr_trans (fr22_21 h2) g2, ?_⟩
    · rw [g1]; congr 4; omega
    · rw [g3]; congr 2; omega
/-- the class's count that is kept -/
def LN (a b : Int) (M E : Nat) (σ : aSt) : Prop := σ.1 21 5 = (-1 : Int32) ∨ σ.1 21 5 = iZ (linC a b M E : Int)
theorem xlines_ok (hc : CV a b M E) {N : Nat} (hN : 10000 ≤ N) {σ : aSt} (hx : RX a b M E σ) (hn : LN a b M E σ) : ∃ σ', f_X_lines N σ = some (iZ (linC a b M E : Int), σ') ∧ fr fr21 σ σ' ∧ LN a b M E σ' := by
  have hl := hL_le (a := a) (b := b) (M := M) (E := E)
  unfold f_X_lines f_Sums_lineCount
  rw [hx.1, if_pos rfl]
  by_cases c : σ.1 21 5 = (-1 : Int32)
  · rw [if_pos c]
    obtain ⟨σ', g1, g2, g3⟩ := linL11 hc hN (hL a b M E).length N 0 0 σ hx.2 (Nat.zero_add _) (by omega)
    rw [Nat.zero_add] at g1 g3
    have e0 : (iZ ((0 : Nat) : Int)) = (0 : Int32) := rfl
    rw [e0] at g1
    rw [g1]
    exact ⟨σ', rfl, g2, Or.inr g3⟩
  · rw [if_neg c]
    rcases hn with h | h
    · exact absurd h c
    · rw [h]; exact ⟨σ, rfl, fr_refl _ _, Or.inr h⟩
theorem mlinL17 (hc : CV a b M E) {N : Nat} (hN : 10000 ≤ N) (k55 : Int32 → Int32 → aSt → Option (Int32 × aSt)) {i : Nat} (hi : i < (hL a b M E).length) : ∀ (k n j : Nat) (s : Nat) (τ : aSt), MC a b M E τ → j + k = (hL a b M E).length → k + 1 ≤ n → ∃ τ', f_M_lines_l17 N k55 n (iZ s) (iZ i) (iZ j) τ = k55 (iZ ((s + linJ a b M E i k j : Nat) : Int)) (iZ i) τ' ∧ fr fr23 τ τ' := by
  obtain ⟨hab, -, -, hM, -, hE⟩ := id hc
  have hl := hL_le (a := a) (b := b) (M := M) (E := E)
  obtain ⟨p, hp⟩ := get_some hi
  intro k
  induction k with
  | zero =>
    intro n j s τ hm hj hn
    obtain ⟨n, rfl, hn⟩ := fuel hn
    rw [f_M_lines_l17, len_m hm, if_pos (stop (by omega))]
    exact ⟨τ, rfl, fr_refl _ _⟩
  | succ k ih =>
    intro n j s τ hm hj hn
    obtain ⟨n, rfl, hn⟩ := fuel hn
    obtain ⟨q, hq⟩ := get_some (L := hL a b M E) (i := j) (by omega)
    obtain ⟨τ1, h1, h2, h3⟩ := joins_ok hc hN hm hp hq (Or.inl rfl)
    rw [sgn_1] at h2
    have hm1 := MC_fr h3 ok23 hm
    have hpp := hL_pt hp
    have hqq := hL_pt hq
    have skip : ¬ (j : Int) < thr a b M E p q → ∃ τ', f_M_lines_l17 N k55 n (iZ s) (iZ i) (iZ ((j + 1 : Nat) : Int)) τ1 = k55 (iZ ((s + linJ a b M E i (k + 1) j : Nat) : Int)) (iZ i) τ' ∧ fr fr23 τ τ' := fun hs => by
      obtain ⟨τ', g1, g2⟩ := ih n (j + 1) s τ1 hm1 (by omega) (by omega)
      refine ⟨τ', ?_, fr_trans h3 g2⟩
      rw [linJ, gp_i hp, gp_i hq, if_neg hs, Nat.zero_add]; exact g1
    rw [f_M_lines_l17, len_m hm, if_neg (ngo (by omega)), show f_M_joins N (iZ (i : Int)) (iZ (j : Int)) (1 : Int32) τ = some τ1 from h1, Option.bind_some, h2.1, i1, Int32.add_zero, i1]
    by_cases hz : zP p q
    · rw [if_pos (decide_eq_true hz)]
      exact skip (by unfold thr; rw [if_pos hz]; omega)
    · obtain ⟨y3, y4⟩ := h2.2.2.1 hz
      rw [if_neg (by rw [decide_eq_true_eq]; exact hz), h2.2.2.2, NO_j]
      cases hs : sumT a b M E p q with
      | none =>
        have : sumN a b M E p q = NO := by unfold sumN; rw [if_neg hz, hs]
        rw [this, if_neg (fun h => h rfl)]
        exact skip (by unfold thr; rw [if_neg hz, hs]; simp only; omega)
      | some t =>
        have hst := hs
        unfold sumT at hst
        by_cases cin : (sE a b p q * sE a b p q : Int) = sV a b p q ∧ sE a b p q ≤ E ∧ (-(M : Int) ≤ sU a b p q ∧ sU a b p q ≤ (M : Int))
        · rw [if_pos cin] at hst
          have et := (Option.some.inj hst).symm
          have hn : sumN a b M E p q = sN a b p q := by unfold sumN; rw [if_neg hz, hs, et]
          have hnn := sNn_bd hab hM hE hpp hqq (u := sU a b p q) (d := (sE a b p q : Int)) ⟨by omega, by omega⟩ ⟨by omega, by omega⟩
          have hnb : bd 4611686018427387903 (sN a b p q) := bd_tdiv _ hnn
          have n1 := hnb.1; have n2 := hnb.2
          have hV := sV0_pos hpp hqq hz
          have hVb : bd 7000000000000 (sV a b p q) := lwV_bd (sV0_bd hab hM hE hpp hqq)
          have v2 := hVb.2
          have hv0 : 0 < sV a b p q := (lw_ok (U := sU0 a b p q) hV).choose_spec.2.2.2.1
          have hnz : ¬ jZ (sN a b p q) = jZ NO := by
            intro h
            have h5 := congrArg Int64.toInt h
            rw [jZ_int ⟨by omega, by omega⟩, ← NO_j] at h5
            have : ((-9223372036854775808 : Int64)).toInt = -9223372036854775808 := by decide
            omega
          have hroot : f_M_root N (jZ (sV a b p q)) = some (jZ (sE a b p q)) := by
            rw [show jZ (sV a b p q) = jZ ((sV a b p q).toNat : Int) from congrArg jZ (by omega)]
            exact root_Z hN (by omega)
          rw [hn, if_pos hnz, y3, y4, hroot, Option.bind_some, jZ_neg, mfind_ok hN hm1.1 (fun t ht => isPt_kb hab hM hE (by obtain ⟨i, hi⟩ := List.getElem?_of_mem ht; exact hL_pt hi)) ⟨by omega, by omega⟩ ⟨by omega, by omega⟩ ⟨by omega, by omega⟩, Option.bind_some]
          have hthr : thr a b M E p q = fnd (hL a b M E) (sU a b p q, -sN a b p q, (sE a b p q : Int)) := by
            unfold thr; rw [if_neg hz, hs, et]; rfl
          have hfr := fnd_rng (hL a b M E) (sU a b p q, -sN a b p q, (sE a b p q : Int)) (hL_KS hab hM hE)
          rw [← hthr] at hfr ⊢
          by_cases cj : (j : Int) < thr a b M E p q
          · rw [if_neg (by rw [iZ_le ⟨by omega, by omega⟩ ⟨by omega, by omega⟩]; omega)]
            obtain ⟨τ', g1, g2⟩ := ih n (j + 1) (s + 1) τ1 hm1 (by omega) (by omega)
            refine ⟨τ', ?_, fr_trans h3 g2⟩
            rw [g1, linJ, gp_i hp, gp_i hq, if_pos cj]; congr 3; omega
          · rw [if_pos (by rw [iZ_le ⟨by omega, by omega⟩ ⟨by omega, by omega⟩]; omega)]
            exact skip cj
        · rw [if_neg cin] at hst; cases hst
theorem mlinL9 (hc : CV a b M E) {N : Nat} (hN : 10000 ≤ N) : ∀ (k n i s : Nat) (τ : aSt), MC a b M E τ → i + k = (hL a b M E).length → k + 1 ≤ n → ∃ τ', f_M_lines_l9 N n (iZ s) (iZ i) τ = some (iZ ((s + linI a b M E k i : Nat) : Int), τ') ∧ fr fr23 τ τ' := by
  have hl := hL_le (a := a) (b := b) (M := M) (E := E)
  intro k
  induction k with
  | zero =>
    intro n i s τ hm hi hn
    obtain ⟨n, rfl, hn⟩ := fuel hn
    rw [f_M_lines_l9, len_m hm, if_pos (stop (by omega))]
    exact ⟨_, rfl, fr_refl _ _⟩
  | succ k ih =>
    intro n i s τ hm hi hn
    obtain ⟨n, rfl, hn⟩ := fuel hn
    rw [f_M_lines_l9, len_m hm, if_neg (ngo (by omega)), i1]
    obtain ⟨τ1, h1, h2⟩ := mlinL17 hc hN (fun (y10 : Int32) (y11 : Int32) σ12 => f_M_lines_l9 N n y10 (y11 + (1 : Int32)) σ12) (i := i) (by omega) k N (i + 1) s τ hm (by omega) (by omega)
    rw [h1]
    show ∃ τ', f_M_lines_l9 N n _ (iZ (i : Int) + (1 : Int32)) τ1 = _ ∧ _
    rw [i1, linI]
    obtain ⟨τ', g1, g2⟩ := ih n (i + 1) (s + linJ a b M E i k (i + 1)) τ1 (MC_fr h2 ok23 hm) (by omega) (by omega)
    exact ⟨τ', by rw [g1]; congr 4; omega, fr_trans h2 g2⟩
theorem mlines_ok (hc : CV a b M E) {N : Nat} (hN : 10000 ≤ N) {τ : aSt} (hm : RM a b M E τ) : ∃ τ', f_M_lines N τ = some (iZ (linC a b M E : Int), τ') ∧ fr fr23 τ τ' := by
  have hl := hL_le (a := a) (b := b) (M := M) (E := E)
  unfold f_M_lines
  rw [hm.1, if_pos rfl]
  obtain ⟨τ', g1, g2⟩ := mlinL9 hc hN (hL a b M E).length N 0 0 τ hm.2 (Nat.zero_add _) (by omega)
  rw [Nat.zero_add] at g1
  exact ⟨τ', g1, g2⟩
end OPS
