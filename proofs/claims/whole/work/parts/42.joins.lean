/-! THE REFERENCE'S SUMS -/
def MC (a b : Int) (M E : Nat) (σ : aSt) : Prop := ML 9 67 (hL a b M E) σ ∧ σ.1 66 2 = iZ a ∧ σ.1 66 3 = iZ b ∧ σ.1 66 4 = iZ M ∧ σ.1 66 5 = iZ E
/-- places that matter for it stay -/
def okM (S : Nat → Nat → Bool) : Prop := S 66 9 = false ∧ S 66 2 = false ∧ S 66 3 = false ∧ S 66 4 = false ∧ S 66 5 = false ∧ ∀ k, S 67 k = false ∧ S 68 k = false ∧ S 69 k = false
theorem MC_fr {S : Nat → Nat → Bool} {σ σ' : aSt} {a b : Int} {M E : Nat} (hf : fr S σ σ') (hS : okM S) (h : MC a b M E σ) : MC a b M E σ' := by
  obtain ⟨⟨h1, h2, h3⟩, h4, h5, h6, h7⟩ := h
  obtain ⟨s9, s2, s3, s4, s5, s6⟩ := hS
  refine ⟨⟨by rw [(hf 66 9 s9).1]; exact h1, h2, fun i p hi => ?_⟩, by rw [(hf 66 2 s2).1]; exact h4, by rw [(hf 66 3 s3).1]; exact h5, by rw [(hf 66 4 s4).1]; exact h6, by rw [(hf 66 5 s5).1]; exact h7⟩
  obtain ⟨q1, q2, q3⟩ := h3 i p hi
  exact ⟨by rw [(hf 67 i (s6 i).1).1]; exact q1, by rw [(hf 68 i (s6 i).2.1).2.1]; exact q2, by rw [(hf 69 i (s6 i).2.2).1]; exact q3⟩
def fr23 : Nat → Nat → Bool := fun o k => Nat.beq o 66 && (Nat.ble 23 k && Nat.ble k 27)
theorem ok23 : okM fr23 := ⟨rfl, rfl, rfl, rfl, rfl, fun _ => ⟨rfl, rfl, rfl⟩⟩
def lwS (U V : Int) : Int := if V < 0 then (-U).tdiv (Int.gcd U V : Int) else U.tdiv (Int.gcd U V : Int)
theorem lowers_ok {N : Nat} (hN : 10000 ≤ N) {U V : Int} (hU : bd 4611686018427387903 U) (hV : bd 4611686018427387903 V) (h0 : V ≠ 0) (σ : aSt) : f_M_lowers N (jZ U) (jZ V) σ = some (s_l (s_l σ 66 23 (jZ (lwS U V))) 66 24 (jZ ((V.natAbs : Int).tdiv (Int.gcd U V : Int)))) := by
  have hg : 0 < Int.gcd U V := Int.gcd_pos_of_ne_zero_right U h0
  have hgl := Int.gcd_le_natAbs_right U h0
  have h1 := hV.1
  have h2 := hV.2
  have hgb : bd 9223372036854775807 (Int.gcd U V : Int) := ⟨by omega, by omega⟩
  unfold f_M_lowers lwS
  rw [common_Z hN (bd_mono hU (by decide)) (bd_mono hV (by decide)), Option.bind_some, labs_Z (bd_mono hV (by decide)), jZ_neg, jZ_div (bd_mono hU (by decide)) hgb, jZ_div (bd_mono (bd_neg hU) (by decide)) hgb, jZ_div ⟨by omega, by omega⟩ hgb]
  have hne : ¬ jZ ((Int.gcd U V : Nat) : Int) = 0 := by rw [jZ_lit, jZ_eq hgb (bd_lit _ rfl)]; omega
  by_cases c : V < 0
  · rw [if_neg (by rw [jZ_lit, jZ_le (bd_lit _ rfl) (bd_mono hV (by decide))]; omega), if_pos hne, if_pos c]
  · rw [if_pos (by rw [jZ_lit, jZ_le (bd_lit _ rfl) (bd_mono hV (by decide))]; omega), if_pos hne, if_neg c]
theorem lowers_pos {N : Nat} (hN : 10000 ≤ N) {U V : Int} (hU : bd 4611686018427387903 U) (hV : bd 4611686018427387903 V) (h0 : 0 < V) (σ : aSt) : f_M_lowers N (jZ U) (jZ V) σ = some (s_l (s_l σ 66 23 (jZ (lwU U V))) 66 24 (jZ (lwV U V))) := by
  rw [lowers_ok hN hU hV (by omega)]
  unfold lwS lwU lwV
  rw [if_neg (by omega), Int.natAbs_of_nonneg (by omega)]
def NO : Int := -9223372036854775808
theorem NO_j : (-9223372036854775808 : Int64) = jZ NO := by decide +kernel
/-- n of the SUM, if that is in bounds -/
def sumN (a b : Int) (M E : Nat) (p q : Pt) : Int := if zP p q then NO else match sumT a b M E p q with
  | none => NO
  | some t => t.2.1
/-- what joins leaves -/
def MJ (a b : Int) (M E : Nat) (p q : Pt) (σ : aSt) : Prop := σ.2.2 66 25 = decide (zP p q) ∧ σ.1 66 26 = iZ (sumI a b M E (hL a b M E) p q) ∧ (¬ zP p q → σ.2.1 66 23 = jZ (sU a b p q) ∧ σ.2.1 66 24 = jZ (sV a b p q)) ∧ σ.2.1 66 27 = jZ (sumN a b M E p q)
theorem sNd_ne {a b : Int} {M E : Nat} {p q : Pt} (hp : isPt a b M E p) (hq : isPt a b M E q) (hz : ¬ zP p q) : sNd p q ≠ 0 := by
  have hb := blw_ne hp hq hz
  have h1 := hp.2.1
  have h2 := hq.2.1
  have h1' : p.2.2 ≠ 0 := by omega
  have h2' : q.2.2 ≠ 0 := by omega
  unfold sNd
  by_cases c : smx p q
  · rw [if_pos c]
    have : blw p q = 2 * p.2.1 := if_pos c
    rw [this] at hb
    exact Int.mul_ne_zero (Int.mul_ne_zero (Int.mul_ne_zero hb h1') h1') h1'
  · rw [if_neg c]
    exact Int.mul_ne_zero (Int.mul_ne_zero (Int.mul_ne_zero (Int.mul_ne_zero h1' h1') h1') h2') hb
theorem sNn_bd {a b : Int} {M E : Nat} (hab : inB a b) (hM : M ≤ 1000) (hE : E ≤ 6) {p q : Pt} (hp : isPt a b M E p) (hq : isPt a b M E q) {u d : Int} (hu : bd 1000 u) (hd : bd 6 d) : bd 4611686018427387903 (sNn a b p q u d) := by
  have m1 := isPt_m hM hp
  have n1 := isPt_n hab hM hE hp
  have e1 := isPt_e hE hp
  have e2 := isPt_e hE hq
  have ha := abv_bd hab hM hE hp hq
  have hb := blw_bd hab hM hE hp hq
  unfold sNn
  have h1 := bd_mul ha (bd_sub (bd_mul (bd_mul m1 hd) hd) (bd_mul (bd_mul hu e1) e1))
  by_cases c : smx p q
  · rw [if_pos c]
    exact bd_mono (bd_mul (bd_sub h1 (bd_mul (bd_mul (bd_mul (bd_mul (bd_lit (A := 2) 2 rfl) n1) n1) hd) hd)) hd) (by decide)
  · rw [if_neg c]
    exact bd_mono (bd_mul (bd_sub h1 (bd_mul (bd_mul (bd_mul (bd_mul n1 e2) hb) hd) hd)) hd) (by decide)
theorem sNd_bd {a b : Int} {M E : Nat} (hab : inB a b) (hM : M ≤ 1000) (hE : E ≤ 6) {p q : Pt} (hp : isPt a b M E p) (hq : isPt a b M E q) : bd 4611686018427387903 (sNd p q) := by
  have n1 := isPt_n hab hM hE hp
  have e1 := isPt_e hE hp
  have e2 := isPt_e hE hq
  have hb := blw_bd hab hM hE hp hq
  unfold sNd
  by_cases c : smx p q
  · rw [if_pos c]
    exact bd_mono (bd_mul (bd_mul (bd_mul (bd_mul (bd_lit (A := 2) 2 rfl) n1) e1) e1) e1) (by decide)
  · rw [if_neg c]
    exact bd_mono (bd_mul (bd_mul (bd_mul (bd_mul e1 e1) e1) e2) hb) (by decide)
/-- the end of joins, both kinds -/
theorem b216_ok {a b : Int} {M E : Nat} (hc : CV a b M E) {N : Nat} (hN : 10000 ≤ N) {σ : aSt} (hx : MC a b M E σ) {p q : Pt} (hp : isPt a b M E p) (hq : isPt a b M E q) (hz : ¬ zP p q) (t23 : σ.2.1 66 23 = jZ (sU a b p q)) (t24 : σ.2.1 66 24 = jZ (sV a b p q)) (t25 : σ.2.2 66 25 = false) (t27 : σ.2.1 66 27 = jZ NO) : ∃ σ', f_M_joins_b216 N (jZ p.1) (jZ p.2.1) (jZ p.2.2) (jZ q.2.2) (if smx p q then 1 else 0) (jZ (abv a b p q)) (jZ (blw p q)) σ = some σ' ∧ MJ a b M E p q σ' ∧ fr fr23 σ σ' := by
  obtain ⟨hab, hb0, hM1, hM, hE1, hE⟩ := id hc
  have hV := sV0_pos hp hq hz
  have hUb : bd 10000000000000000 (sU a b p q) := lw_bd (sU0_bd hab hM hE hp hq)
  have hVb : bd 7000000000000 (sV a b p q) := lwV_bd (sV0_bd hab hM hE hp hq)
  have hv0 : 0 < sV a b p q := (lw_ok (U := sU0 a b p q) hV).choose_spec.2.2.2.1
  have u1 := hUb.1
  have u2 := hUb.2
  have v1 := hVb.1
  have v2 := hVb.2
  have hrt := rt_lt (v := (sV a b p q).toNat) (by omega)
  have hEs : sE a b p q ≤ 3037000499 := hrt
  have hroot : f_M_root N (jZ (sV a b p q)) = some (jZ (sE a b p q)) := by
    rw [show jZ (sV a b p q) = jZ ((sV a b p q).toNat : Int) from congrArg jZ (by omega)]
    exact root_Z hN (by omega)
  unfold f_M_joins_b216
  rw [t24, hroot, Option.bind_some, t23, hx.2.2.2.1, hx.2.2.2.2, i2j ⟨by omega, by omega⟩, i2j ⟨by omega, by omega⟩, labs_Z (bd_mono hUb (by decide)), jZ_mul, min_6]
  have hss : sE a b p q * sE a b p q ≤ 3037000499 * 3037000499 := Nat.mul_le_mul hEs hEs
  have ess : (sE a b p q : Int) * (sE a b p q : Int) = ((sE a b p q * sE a b p q : Nat) : Int) := by rw [Int.natCast_mul]
  have far : sumT a b M E p q = none → ∃ σ', some (s_i σ 66 26 (iZ (-6))) = some σ' ∧ MJ a b M E p q σ' ∧ fr fr23 σ σ' := fun h => by
    refine ⟨_, rfl, ⟨?_, ?_, fun _ => ⟨t23, t24⟩, ?_⟩, fr_si rfl⟩
    · rw [decide_eq_false hz]; exact t25
    · rw [si_eq]; unfold sumI; rw [if_neg hz, h]
    · unfold sumN; rw [if_neg hz, h]; exact t27
  by_cases c1 : (sE a b p q : Int) * (sE a b p q : Int) = sV a b p q
  · rw [if_neg (by rw [c1]; exact fun h => h rfl)]
    by_cases c2 : sE a b p q ≤ E
    · rw [if_neg (by rw [jZ_lt ⟨by omega, by omega⟩ ⟨by omega, by omega⟩]; omega)]
      by_cases c3 : -(M : Int) ≤ sU a b p q ∧ sU a b p q ≤ (M : Int)
      · rw [if_pos (by rw [jZ_le ⟨by omega, by omega⟩ ⟨by omega, by omega⟩]; omega)]
        have hs : sumT a b M E p q = some (sU a b p q, sN a b p q, (sE a b p q : Int)) := if_pos ⟨c1, c2, c3⟩
        have hnn := sNn_bd hab hM hE hp hq (u := sU a b p q) (d := (sE a b p q : Int)) ⟨by omega, by omega⟩ ⟨by omega, by omega⟩
        have hnd := sNd_bd hab hM hE hp hq
        have hne := sNd_ne hp hq hz
        have key : ∀ σ1 : aSt, σ1 = s_l (s_i σ 66 26 (iZ (-6))) 66 27 (jZ (sN a b p q)) → ∃ σ', ((f_M_find N (jZ (sU a b p q)) (jZ (sE a b p q)) (jZ (sN a b p q)) σ1).bind fun x17 => some (s_i σ1 66 26 x17)) = some σ' ∧ MJ a b M E p q σ' ∧ fr fr23 σ σ' := fun σ1 h1 => by
          have f1 : fr fr23 σ σ1 := by rw [h1]; exact fr_trans (fr_si rfl) (fr_sl rfl)
          have x1 : MC a b M E σ1 := MC_fr f1 ok23 hx
          rw [mfind_ok hN x1.1 (n := sN a b p q) (fun t ht => isPt_kb hab hM hE (by obtain ⟨i, hi⟩ := List.getElem?_of_mem ht; exact hL_pt hi)) (bd_mono hUb (by decide)) (bd_mono (bd_tdiv _ hnn) (by decide)) ⟨by omega, by omega⟩, Option.bind_some]
          refine ⟨_, rfl, ⟨?_, ?_, fun _ => ⟨?_, ?_⟩, ?_⟩, fr_trans f1 (fr_si rfl)⟩
          · rw [decide_eq_false hz, h1]; exact t25
          · rw [si_eq]; unfold sumI; rw [if_neg hz, hs]
          · rw [h1]; exact t23
          · rw [h1]; exact t24
          · unfold sumN; rw [if_neg hz, hs, h1]; rfl
        by_cases c : smx p q
        · have e1 : sNn a b p q (sU a b p q) (sE a b p q) = (abv a b p q * (p.1 * (sE a b p q : Int) * (sE a b p q : Int) - sU a b p q * p.2.2 * p.2.2) - 2 * p.2.1 * p.2.1 * (sE a b p q : Int) * (sE a b p q : Int)) * (sE a b p q : Int) := if_pos c
          have e2 : sNd p q = 2 * p.2.1 * p.2.2 * p.2.2 * p.2.2 := if_pos c
          rw [if_pos c, if_neg (by decide), jZ_lit]
          simp only [jZ_mul, jZ_sub]
          rw [← e1, ← e2, if_pos (by rw [jZ_lit, jZ_eq (bd_mono hnd (by decide)) (bd_lit _ rfl)]; exact hne), jZ_div (bd_mono hnn (by decide)) (bd_mono hnd (by decide))]
          exact key _ rfl
        · have e1 : sNn a b p q (sU a b p q) (sE a b p q) = (abv a b p q * (p.1 * (sE a b p q : Int) * (sE a b p q : Int) - sU a b p q * p.2.2 * p.2.2) - p.2.1 * q.2.2 * blw p q * (sE a b p q : Int) * (sE a b p q : Int)) * (sE a b p q : Int) := if_neg c
          have e2 : sNd p q = p.2.2 * p.2.2 * p.2.2 * q.2.2 * blw p q := if_neg c
          rw [if_neg c, if_pos rfl]
          simp only [jZ_mul, jZ_sub]
          rw [← e1, ← e2, if_pos (by rw [jZ_lit, jZ_eq (bd_mono hnd (by decide)) (bd_lit _ rfl)]; exact hne), jZ_div (bd_mono hnn (by decide)) (bd_mono hnd (by decide))]
          exact key _ rfl
      · rw [if_neg (by rw [jZ_le ⟨by omega, by omega⟩ ⟨by omega, by omega⟩]; omega)]
        exact far (if_neg (fun h => c3 h.2.2))
    · rw [if_pos (by rw [jZ_lt ⟨by omega, by omega⟩ ⟨by omega, by omega⟩]; omega)]
      exact far (if_neg (fun h => c2 h.2.1))
  · rw [if_pos (by rw [ne_eq, jZ_eq (by rw [ess]; exact ⟨by omega, by omega⟩) (bd_mono hVb (by decide))]; exact c1)]
    exact far (if_neg (fun h => c1 h.1))
/-- the other one with a sign -/
def sgn (s : Int) (q : Pt) : Pt := (q.1, s * q.2.1, q.2.2)
theorem isPt_sgn {a b : Int} {M E : Nat} {s : Int} (hs : s = 1 ∨ s = -1) {q : Pt} (h : isPt a b M E q) : isPt a b M E (sgn s q) := by
  rcases hs with rfl | rfl
  · unfold sgn; rw [Int.one_mul]; exact h
  · have := isPt_tn h
    unfold tn at this
    unfold sgn
    rw [Int.neg_mul, Int.one_mul]; exact this
theorem joins_ok {a b : Int} {M E : Nat} (hc : CV a b M E) {N : Nat} (hN : 10000 ≤ N) {σ : aSt} (hx : MC a b M E σ) {i j : Nat} {p q0 : Pt} (hi : (hL a b M E)[i]? = some p) (hj : (hL a b M E)[j]? = some q0) {s : Int} (hs : s = 1 ∨ s = -1) : ∃ σ', f_M_joins N (iZ i) (iZ j) (iZ s) σ = some σ' ∧ MJ a b M E p (sgn s q0) σ' ∧ fr fr23 σ σ' := by
  obtain ⟨hab, hb0, hM1, hM, hE1, hE⟩ := id hc
  have hp := hL_pt hi
  have hq := isPt_sgn hs (hL_pt hj)
  obtain ⟨q, eq⟩ : ∃ q, q = sgn s q0 := ⟨_, rfl⟩
  rw [← eq] at hq ⊢
  have q1 : q0.1 = q.1 := by rw [eq]; rfl
  have q2 : s * q0.2.1 = q.2.1 := by rw [eq]; rfl
  have q3 : q0.2.2 = q.2.2 := by rw [eq]; rfl
  have pm := isPt_m hM hp
  have pn := isPt_n hab hM hE hp
  have pe := isPt_e hE hp
  have qm := isPt_m hM hq
  have qn := isPt_n hab hM hE hq
  have qe := isPt_e hE hq
  have li := hx.1.2.1
  have l1 := get_lt hi
  have l2 := get_lt hj
  obtain ⟨x1, x2, x3⟩ := hx.1.2.2 i p hi
  obtain ⟨y1, y2, y3⟩ := hx.1.2.2 j q0 hj
  have hsb : bd 2147483647 s := by rcases hs with rfl | rfl <;> exact bd_lit _ rfl
  unfold f_M_joins
  rw [if_pos (by rw [iZ_lit, iZ_lit, iZ_le (bd_lit _ rfl) ⟨by omega, by omega⟩, iZ_lt ⟨by omega, by omega⟩ (bd_lit _ rfl)]; omega), if_pos (by rw [iZ_lit, iZ_lit, iZ_le (bd_lit _ rfl) ⟨by omega, by omega⟩, iZ_lt ⟨by omega, by omega⟩ (bd_lit _ rfl)]; omega), iZ_idx (by omega) (by omega), iZ_idx (by omega) (by omega), show ((i : Nat) : Int).toNat = i from by omega, show ((j : Nat) : Int).toNat = j from by omega, x1, x2, x3, y1, y2, y3, i2j hsb, jZ_mul, q1, q2, q3, i2j (bd_mono pm (by decide)), i2j (bd_mono pe (by decide)), i2j (bd_mono qm (by decide)), i2j (bd_mono qe (by decide))]
  obtain ⟨τ, hτ⟩ : ∃ τ, τ = s_l (s_i (s_b σ 66 25 false) 66 26 (1000 : Int32)) 66 27 (-9223372036854775808 : Int64) := ⟨_, rfl⟩
  have fτ : fr fr23 σ τ := by rw [hτ]; exact fr_trans (fr_trans (fr_sb rfl) (fr_si rfl)) (fr_sl rfl)
  have xτ : MC a b M E τ := MC_fr fτ ok23 hx
  -- both kinds, once s U0 and V0 stand
  have fin : ¬ zP p q → ∃ σ', ((f_M_lowers N (jZ (sU0 a b p q)) (jZ (sV0 p q)) τ).bind fun x => f_M_joins_b216 N (jZ p.1) (jZ p.2.1) (jZ p.2.2) (jZ q.2.2) (if smx p q then 1 else 0) (jZ (abv a b p q)) (jZ (blw p q)) x) = some σ' ∧ MJ a b M E p q σ' ∧ fr fr23 σ σ' := fun hz => by
    rw [lowers_pos hN (bd_mono (sU0_bd hab hM hE hp hq) (by decide)) (bd_mono (sV0_bd hab hM hE hp hq) (by decide)) (sV0_pos hp hq hz), Option.bind_some]
    have f2 : fr fr23 τ (s_l (s_l τ 66 23 (jZ (lwU (sU0 a b p q) (sV0 p q)))) 66 24 (jZ (lwV (sU0 a b p q) (sV0 p q)))) := fr_trans (fr_sl rfl) (fr_sl rfl)
    obtain ⟨σ', g1, g2, g3⟩ := b216_ok hc hN (MC_fr f2 ok23 xτ) hp hq hz rfl rfl (by rw [hτ]; rfl) (by rw [hτ, ← NO_j]; rfl)
    exact ⟨σ', g1, g2, fr_trans fτ (fr_trans f2 g3)⟩
  have ta : (τ.1 66 2).toInt64 = jZ a := by rw [xτ.2.1, i2j (bd_mono hab.1 (by decide))]
  have chord : ¬ smx p q → ∃ σ', f_M_joins_b47 N (jZ p.1) (jZ p.2.1) (jZ p.2.2) (jZ q.1) (jZ q.2.1) (jZ q.2.2) σ = some σ' ∧ MJ a b M E p q σ' ∧ fr fr23 σ σ' := fun c => by
    have hz : ¬ zP p q := fun h => c h.1
    have := fin hz
    rw [if_neg c] at this
    unfold f_M_joins_b47 f_M_joins_b48
    rw [if_pos rfl]
    unfold f_M_joins_b59 f_M_joins_b60
    rw [if_neg (by decide), if_pos rfl, ← hτ]
    unfold f_M_joins_b118
    rw [if_pos rfl]
    unfold f_M_joins_b136
    rw [if_pos rfl]
    unfold f_M_joins_b144
    rw [if_pos rfl, ta]
    simp only [jZ_mul, jZ_sub, jZ_add]
    have e1 : abv a b p q = q.2.1 * p.2.2 * p.2.2 * p.2.2 - p.2.1 * q.2.2 * q.2.2 * q.2.2 := if_neg c
    have e2 : blw p q = q.1 * p.2.2 * p.2.2 - p.1 * q.2.2 * q.2.2 := if_neg c
    have e3 : sU0 a b p q = abv a b p q * abv a b p q - blw p q * blw p q * (a * p.2.2 * p.2.2 * q.2.2 * q.2.2 + p.1 * q.2.2 * q.2.2 + q.1 * p.2.2 * p.2.2) := if_neg c
    have e4 : sV0 p q = blw p q * blw p q * (p.2.2 * q.2.2) * (p.2.2 * q.2.2) := if_neg c
    rw [← e1, ← e2, ← e3, ← e4]
    exact this
  by_cases c1 : p.1 = q.1
  · rw [if_neg (by rw [c1]; exact fun h => h rfl)]
    by_cases c2 : p.2.2 = q.2.2
    · rw [if_neg (by rw [c2]; exact fun h => h rfl)]
      have c : smx p q := ⟨c1, c2⟩
      have qn1 := qn.1
      have qn2 := qn.2
      have pn1 := pn.1
      have pn2 := pn.2
      unfold f_M_joins_b48
      rw [if_neg (by decide), jZ_neg]
      by_cases c3 : p.2.1 = -q.2.1
      · have hz : zP p q := ⟨c, c3⟩
        rw [if_neg (by rw [c3]; exact fun h => h rfl)]
        unfold f_M_joins_b60
        rw [if_pos rfl]
        refine ⟨_, rfl, ⟨?_, ?_, fun h => absurd hz h, ?_⟩, fr_trans (fr_trans (fr_sb rfl) (fr_si rfl)) (fr_sl rfl)⟩
        · rw [decide_eq_true hz]; rfl
        · unfold sumI; rw [if_pos hz]; rfl
        · unfold sumN; rw [if_pos hz, ← NO_j]; rfl
      · have hz : ¬ zP p q := fun h => c3 h.2
        have := fin hz
        rw [if_pos c] at this
        rw [if_pos (by rw [ne_eq, jZ_eq ⟨by omega, by omega⟩ ⟨by omega, by omega⟩]; exact c3)]
        have tb : (σ.1 66 3).toInt64 = jZ b := by rw [hx.2.2.1, i2j (bd_mono hab.2 (by decide))]
        have ta' : (σ.1 66 2).toInt64 = jZ a := by rw [hx.2.1, i2j (bd_mono hab.1 (by decide))]
        unfold f_M_joins_b59 f_M_joins_b60
        rw [if_neg (by decide), if_neg (by decide), ← hτ, ta', tb]
        unfold f_M_joins_b118
        rw [if_neg (by decide)]
        unfold f_M_joins_b136
        rw [if_neg (by decide)]
        unfold f_M_joins_b144
        rw [if_neg (by decide), ta, jZ_lit, jZ_lit]
        simp only [jZ_mul, jZ_sub, jZ_add]
        have e1 : abv a b p q = 3 * p.1 * p.1 + 2 * a * p.1 * p.2.2 * p.2.2 + b * p.2.2 * p.2.2 * p.2.2 * p.2.2 := if_pos c
        have e2 : blw p q = 2 * p.2.1 := if_pos c
        have e3 : sU0 a b p q = abv a b p q * abv a b p q - blw p q * blw p q * (a * p.2.2 * p.2.2 + 2 * p.1) := if_pos c
        have e4 : sV0 p q = blw p q * blw p q * p.2.2 * p.2.2 := if_pos c
        rw [← e1, ← e2, ← e3, ← e4]
        exact this
    · rw [if_pos (by rw [ne_eq, jZ_eq (bd_mono pe (by decide)) (bd_mono qe (by decide))]; exact c2)]
      exact chord (fun h => c2 h.2)
  · rw [if_pos (by rw [ne_eq, jZ_eq (bd_mono pm (by decide)) (bd_mono qm (by decide))]; exact c1)]
    exact chord (fun h => c1 h.1)
