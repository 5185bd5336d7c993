/-! THE LISTS of the reference -/
def ML (f r : Nat) (L : List Pt) (σ : aSt) : Prop := σ.1 66 f = iZ L.length ∧ L.length ≤ 120 ∧ ∀ i p, L[i]? = some p → σ.1 r i = iZ p.1 ∧ σ.2.1 (r + 1) i = jZ p.2.1 ∧ σ.1 (r + 2) i = iZ p.2.2
theorem pv_ref (a b m e : Int) : m * m * m + a * (e * e) * m * m + b * (e * e) * (e * e) * m = pv a b m e := by
  unfold pv
  grind
theorem snoc2 {α : Type} (L : List α) (p q : α) : ((L ++ [p]).take 120 ++ [q]).take 120 = (L ++ [p, q]).take 120 := by
  rw [take_app, List.append_assoc]; rfl
theorem ptsAt_no {a b e m : Int} (h : ¬ (Int.gcd m e = 1 ∧ isq (pv a b m e) = true)) : ptsAt a b e m = [] := if_neg h
theorem ptsAt_0 {a b e m : Int} (h : Int.gcd m e = 1 ∧ isq (pv a b m e) = true) (h0 : rtN (pv a b m e).toNat = 0) : ptsAt a b e m = [(m, 0, e)] := by
  unfold ptsAt; rw [if_pos h, if_pos h0]
theorem ptsAt_2 {a b e m : Int} (h : Int.gcd m e = 1 ∧ isq (pv a b m e) = true) (h0 : ¬ rtN (pv a b m e).toNat = 0) : ptsAt a b e m = [(m, -(rtN (pv a b m e).toNat : Int), e), (m, (rtN (pv a b m e).toNat : Int), e)] := by
  unfold ptsAt; rw [if_pos h, if_neg h0]
theorem gcd_small {m e : Int} (hm : bd 1000 m) (he : bd 6 e) : Int.gcd m e ≤ 2000 := by
  by_cases c : e = 0
  · subst c; rw [Int.gcd_zero_right]; have := hm.1; have := hm.2; omega
  · have := Int.gcd_le_natAbs_right m c
    have := he.1; have := he.2; omega

def frA9 : Nat → Nat → Bool := fun a k => Nat.beq a 67 || Nat.beq a 68 || Nat.beq a 69 || (Nat.beq a 66 && Nat.beq k 9)
theorem f_M_adds_ok (N : Nat) {L : List Pt} {σ : aSt} (h : ML 9 67 L σ) {m n e : Int} : ∃ σ', f_M_adds N (iZ m) (jZ n) (iZ e) σ = some σ' ∧ ML 9 67 ((L ++ [(m, n, e)]).take 120) σ' ∧ fr frA9 σ σ' := by
  unfold f_M_adds
  have hl := h.2.1
  rw [h.1]
  by_cases c : L.length = 120
  · rw [if_neg (by rw [ne_eq, iZ_lit, iZ_eq ⟨by omega, by omega⟩ (bd_lit _ rfl)]; omega), List.take_append_of_le_length (by omega), List.take_of_length_le (by omega)]
    exact ⟨σ, rfl, h, fr_refl _ _⟩
  · rw [if_pos (by rw [ne_eq, iZ_lit, iZ_eq ⟨by omega, by omega⟩ (bd_lit _ rfl)]; omega), if_pos (by rw [iZ_lit, iZ_lit, iZ_le (bd_lit _ rfl) ⟨by omega, by omega⟩, iZ_lt ⟨by omega, by omega⟩ (bd_lit _ rfl)]; omega), iZ_idx (by omega) (by omega), show ((L.length : Nat) : Int).toNat = L.length from by omega, i1, List.take_of_length_le (by rw [List.length_append]; show L.length + 1 ≤ 120; omega)]
    obtain ⟨σ1, hσ1⟩ : ∃ σ1, σ1 = s_i (s_i (s_l (s_i σ 67 L.length (iZ m)) 68 L.length (jZ n)) 69 L.length (iZ e)) 66 9 (iZ ((L.length + 1 : Nat) : Int)) := ⟨_, rfl⟩
    rw [← hσ1]
    refine ⟨σ1, rfl, ⟨?_, ?_, fun i p hi => ?_⟩, ?_⟩
    · rw [hσ1, si_eq, List.length_append]; rfl
    · rw [List.length_append]; show L.length + 1 ≤ 120; omega
    · rcases get_snoc hi with ⟨q1, q2⟩ | ⟨q1, q2⟩
      · obtain ⟨b1, b2, b3⟩ := h.2.2 i p q2
        have hne : i ≠ L.length := by omega
        refine ⟨?_, ?_, ?_⟩
        · rw [hσ1, si_ne (Or.inl (by decide)), si_ne (Or.inl (by decide))]
          show (s_i σ 67 L.length (iZ m)).1 67 i = _
          rw [si_ne (Or.inr hne)]
          exact b1
        · rw [hσ1]
          show (s_l (s_i σ 67 L.length (iZ m)) 68 L.length (jZ n)).2.1 68 i = _
          rw [sl_ne (Or.inr hne)]
          exact b2
        · show σ1.1 69 i = _
          rw [hσ1, si_ne (Or.inl (by decide)), si_ne (Or.inr hne)]
          show (s_i σ 67 L.length (iZ m)).1 69 i = _
          rw [si_ne (Or.inl (by decide))]
          exact b3
      · subst q1; subst q2
        refine ⟨?_, ?_, ?_⟩
        · rw [hσ1, si_ne (Or.inl (by decide)), si_ne (Or.inl (by decide))]
          exact si_eq σ 67 L.length _
        · rw [hσ1]
          exact sl_eq _ 68 L.length _
        · show σ1.1 69 L.length = _
          rw [hσ1, si_ne (Or.inl (by decide)), si_eq]
    · rw [hσ1]
      have hA : ∀ k, frA9 67 k = true := fun k => rfl
      have hB : ∀ k, frA9 68 k = true := fun k => rfl
      have hC : ∀ k, frA9 69 k = true := fun k => rfl
      exact fr_trans (fr_trans (fr_trans (fr_si (hA _)) (fr_sl (hB _))) (fr_si (hC _))) (fr_si rfl)

def frA51 : Nat → Nat → Bool := fun a k => Nat.beq a 80 || Nat.beq a 81 || Nat.beq a 82 || (Nat.beq a 66 && Nat.beq k 51)
theorem f_M_addsOver_ok (N : Nat) {L : List Pt} {σ : aSt} (h : ML 51 80 L σ) {m n e : Int} : ∃ σ', f_M_addsOver N (iZ m) (jZ n) (iZ e) σ = some σ' ∧ ML 51 80 ((L ++ [(m, n, e)]).take 120) σ' ∧ fr frA51 σ σ' := by
  unfold f_M_addsOver
  have hl := h.2.1
  rw [h.1]
  by_cases c : L.length = 120
  · rw [if_neg (by rw [ne_eq, iZ_lit, iZ_eq ⟨by omega, by omega⟩ (bd_lit _ rfl)]; omega), List.take_append_of_le_length (by omega), List.take_of_length_le (by omega)]
    exact ⟨σ, rfl, h, fr_refl _ _⟩
  · rw [if_pos (by rw [ne_eq, iZ_lit, iZ_eq ⟨by omega, by omega⟩ (bd_lit _ rfl)]; omega), if_pos (by rw [iZ_lit, iZ_lit, iZ_le (bd_lit _ rfl) ⟨by omega, by omega⟩, iZ_lt ⟨by omega, by omega⟩ (bd_lit _ rfl)]; omega), iZ_idx (by omega) (by omega), show ((L.length : Nat) : Int).toNat = L.length from by omega, i1, List.take_of_length_le (by rw [List.length_append]; show L.length + 1 ≤ 120; omega)]
    obtain ⟨σ1, hσ1⟩ : ∃ σ1, σ1 = s_i (s_i (s_l (s_i σ 80 L.length (iZ m)) 81 L.length (jZ n)) 82 L.length (iZ e)) 66 51 (iZ ((L.length + 1 : Nat) : Int)) := ⟨_, rfl⟩
    rw [← hσ1]
    refine ⟨σ1, rfl, ⟨?_, ?_, fun i p hi => ?_⟩, ?_⟩
    · rw [hσ1, si_eq, List.length_append]; rfl
    · rw [List.length_append]; show L.length + 1 ≤ 120; omega
    · rcases get_snoc hi with ⟨q1, q2⟩ | ⟨q1, q2⟩
      · obtain ⟨b1, b2, b3⟩ := h.2.2 i p q2
        have hne : i ≠ L.length := by omega
        refine ⟨?_, ?_, ?_⟩
        · rw [hσ1, si_ne (Or.inl (by decide)), si_ne (Or.inl (by decide))]
          show (s_i σ 80 L.length (iZ m)).1 80 i = _
          rw [si_ne (Or.inr hne)]
          exact b1
        · rw [hσ1]
          show (s_l (s_i σ 80 L.length (iZ m)) 81 L.length (jZ n)).2.1 81 i = _
          rw [sl_ne (Or.inr hne)]
          exact b2
        · show σ1.1 82 i = _
          rw [hσ1, si_ne (Or.inl (by decide)), si_ne (Or.inr hne)]
          show (s_i σ 80 L.length (iZ m)).1 82 i = _
          rw [si_ne (Or.inl (by decide))]
          exact b3
      · subst q1; subst q2
        refine ⟨?_, ?_, ?_⟩
        · rw [hσ1, si_ne (Or.inl (by decide)), si_ne (Or.inl (by decide))]
          exact si_eq σ 80 L.length _
        · rw [hσ1]
          exact sl_eq _ 81 L.length _
        · show σ1.1 82 L.length = _
          rw [hσ1, si_ne (Or.inl (by decide)), si_eq]
    · rw [hσ1]
      have hA : ∀ k, frA51 80 k = true := fun k => rfl
      have hB : ∀ k, frA51 81 k = true := fun k => rfl
      have hC : ∀ k, frA51 82 k = true := fun k => rfl
      exact fr_trans (fr_trans (fr_trans (fr_si (hA _)) (fr_sl (hB _))) (fr_si (hC _))) (fr_si rfl)

theorem lays13 {N : Nat} (hN : 10000 ≤ N) (k87 : Int32 → aSt → Option aSt) {a b e : Int} {M : Nat} (hab : inB a b) (hM : M ≤ 1000) (he : bd 6 e) : ∀ (j n k : Nat) (L : List Pt) (σ : aSt), k + j = 2 * M + 1 → j + 1 ≤ n → ML 9 67 L σ → σ.1 66 2 = iZ a → σ.1 66 3 = iZ b → σ.1 66 4 = iZ M → ∃ σ', f_M_lays_l13 N k87 n (iZ e) (iZ ((k : Int) - M)) σ = k87 (iZ e) σ' ∧ ML 9 67 ((L ++ ((List.range' k j).map (fun k : Nat => ptsAt a b e ((k : Int) - M))).flatten).take 120) σ' ∧ fr frA9 σ σ' := by
  intro j
  induction j with
  | zero =>
    intro n k L σ hk hn hx ha hb hm4
    obtain ⟨n, rfl, hn⟩ := fuel hn
    rw [f_M_lays_l13, hm4, if_pos (by rw [iZ_lt ⟨by omega, by omega⟩ ⟨by omega, by omega⟩]; omega)]
    refine ⟨σ, rfl, ?_, fr_refl _ _⟩
    rw [List.range'_zero, List.map_nil, List.flatten_nil, List.append_nil, List.take_of_length_le hx.2.1]
    exact hx
  | succ j ih =>
    intro n k L σ hk hn hx ha hb hm4
    obtain ⟨n, rfl, hn⟩ := fuel hn
    obtain ⟨m, hm⟩ : ∃ m, m = (k : Int) - M := ⟨_, rfl⟩
    have hmb : bd 1000 m := ⟨by omega, by omega⟩
    have hpv := pv_bd hab hmb he
    have hp1 := hpv.1
    have hp2 := hpv.2
    have hgs := gcd_small hmb he
    have next : iZ m + (1 : Int32) = iZ (((k + 1 : Nat) : Int) - M) := by
      rw [iZ_lit, iZ_add]; congr 1; omega
    rw [List.range'_succ, List.map_cons, List.flatten_cons, ← hm, f_M_lays_l13, hm4, if_neg (by rw [iZ_lt ⟨by omega, by omega⟩ ⟨by omega, by omega⟩]; omega), ha, hb, iZ_mul, i2j (bd_mono hmb (by decide)), i2j (bd_mono he (by decide)), i2j (bd_mono (bd_mul he he) (by decide)), i2j (bd_mono hab.1 (by decide)), i2j (bd_mono hab.2 (by decide)), next, common_Z hN (bd_mono hmb (by decide)) (bd_mono he (by decide)), Option.bind_some]
    simp only [jZ_mul, jZ_add, pv_ref]
    -- what is left after this m
    have go : ∀ (x : List Pt) (σ1 : aSt), ML 9 67 ((L ++ x).take 120) σ1 → fr frA9 σ σ1 → ∃ σ', f_M_lays_l13 N k87 n (iZ e) (iZ (((k + 1 : Nat) : Int) - M)) σ1 = k87 (iZ e) σ' ∧ ML 9 67 ((L ++ (x ++ ((List.range' (k + 1) j).map (fun k : Nat => ptsAt a b e ((k : Int) - M))).flatten)).take 120) σ' ∧ fr frA9 σ σ' := fun x σ1 h1 h2 => by
      obtain ⟨σ', g1, g2, g3⟩ := ih n (k + 1) _ σ1 (by omega) (by omega) h1 (by rw [(h2 66 2 rfl).1]; exact ha) (by rw [(h2 66 3 rfl).1]; exact hb) (by rw [(h2 66 4 rfl).1]; exact hm4)
      rw [take_app, List.append_assoc] at g2
      exact ⟨σ', g1, g2, fr_trans h2 g3⟩
    have same : ML 9 67 ((L ++ []).take 120) σ := by
      rw [List.append_nil, List.take_of_length_le hx.2.1]; exact hx
    by_cases cg : Int.gcd m e = 1
    · rw [if_pos (by rw [cg]; rfl), isSquare_Z hN (bd_mono hpv (by decide)), Option.bind_some]
      cases hq : isq (pv a b m e) with
      | false =>
        rw [if_neg (by decide), ptsAt_no (fun c => by rw [hq] at c; cases c.2)]
        exact go [] σ same (fr_refl _ _)
      | true =>
        have h0 := (isq_iff.mp hq).1
        have hr := rt_bd (v := (pv a b m e).toNat) (by omega)
        rw [if_pos rfl, show jZ (pv a b m e) = jZ ((pv a b m e).toNat : Int) from congrArg jZ (by omega), root_Z hN (by omega), Option.bind_some]
        by_cases c0 : rtN (pv a b m e).toNat = 0
        · rw [if_pos (by rw [c0]; decide), ptsAt_0 ⟨cg, hq⟩ c0, c0]
          obtain ⟨σ1, g1, g2, g3⟩ := f_M_adds_ok N hx (m := m) (n := 0) (e := e)
          rw [show (jZ ((0 : Nat) : Int)) = jZ 0 from rfl, g1, Option.bind_some]
          exact go [(m, 0, e)] σ1 g2 g3
        · rw [if_neg (by rw [jZ_lit, jZ_le ⟨by omega, by omega⟩ (bd_lit 0 rfl)]; omega), ptsAt_2 ⟨cg, hq⟩ c0, jZ_neg]
          obtain ⟨σ1, g1, g2, g3⟩ := f_M_adds_ok N hx (m := m) (n := -(rtN (pv a b m e).toNat : Int)) (e := e)
          rw [g1, Option.bind_some]
          obtain ⟨σ2, g4, g5, g6⟩ := f_M_adds_ok N g2 (m := m) (n := (rtN (pv a b m e).toNat : Int)) (e := e)
          rw [g4, Option.bind_some]
          rw [snoc2] at g5
          exact go _ σ2 g5 (fr_trans g3 g6)
    · rw [if_neg (by rw [jZ_lit, jZ_eq ⟨by omega, by omega⟩ (bd_lit _ rfl)]; omega), ptsAt_no (fun c => cg c.1)]
      exact go [] σ same (fr_refl _ _)
theorem lays5 {N : Nat} (hN : 10000 ≤ N) {a b : Int} {M E : Nat} (hab : inB a b) (hM : M ≤ 1000) (hE : E ≤ 6) : ∀ (j n e : Nat) (L : List Pt) (σ : aSt), e + j = E + 1 → 1 ≤ e → j + 1 ≤ n → ML 9 67 L σ → σ.1 66 2 = iZ a → σ.1 66 3 = iZ b → σ.1 66 4 = iZ M → σ.1 66 5 = iZ E → ∃ σ', f_M_lays_l5 N n (iZ e) σ = some σ' ∧ ML 9 67 ((L ++ ((List.range' e j).flatMap (fun e : Nat => rowB a b M (e : Int))).flatten).take 120) σ' ∧ fr frA9 σ σ' := by
  intro j
  induction j with
  | zero =>
    intro n e L σ he he1 hn hx ha hb hm4 hE5
    obtain ⟨n, rfl, hn⟩ := fuel hn
    rw [f_M_lays_l5, hE5, if_pos (by rw [iZ_lt ⟨by omega, by omega⟩ ⟨by omega, by omega⟩]; omega)]
    refine ⟨σ, rfl, ?_, fr_refl _ _⟩
    rw [List.range'_zero, List.flatMap_nil, List.flatten_nil, List.append_nil, List.take_of_length_le hx.2.1]
    exact hx
  | succ j ih =>
    intro n e L σ he he1 hn hx ha hb hm4 hE5
    obtain ⟨n, rfl, hn⟩ := fuel hn
    rw [f_M_lays_l5, hE5, if_neg (by rw [iZ_lt ⟨by omega, by omega⟩ ⟨by omega, by omega⟩]; omega), hm4, iZ_neg]
    obtain ⟨σ1, g1, g2, g3⟩ := lays13 hN (fun (y12 : Int32) σ13 => f_M_lays_l5 N n (y12 + (1 : Int32)) σ13) hab hM (e := (e : Int)) ⟨by omega, by omega⟩ (2 * M + 1) N 0 L σ (by omega) (by omega) hx ha hb hm4
    rw [show -(M : Int) = ((0 : Nat) : Int) - M from by omega, g1]
    show ∃ σ', f_M_lays_l5 N n (iZ (e : Int) + (1 : Int32)) σ1 = some σ' ∧ _
    rw [i1, List.range'_succ, List.flatMap_cons, List.flatten_append]
    obtain ⟨σ', h1, h2, h3⟩ := ih n (e + 1) _ σ1 (by omega) (by omega) (by omega) g2 (by rw [(g3 66 2 rfl).1]; exact ha) (by rw [(g3 66 3 rfl).1]; exact hb) (by rw [(g3 66 4 rfl).1]; exact hm4) (by rw [(g3 66 5 rfl).1]; exact hE5)
    rw [take_app, List.append_assoc] at h2
    exact ⟨σ', h1, h2, fr_trans g3 h3⟩
theorem lays_ok {N : Nat} (hN : 10000 ≤ N) {a b : Int} {M E : Nat} (hab : inB a b) (hM : M ≤ 1000) (hE : E ≤ 6) {σ : aSt} (ha : σ.1 66 2 = iZ a) (hb : σ.1 66 3 = iZ b) (hm4 : σ.1 66 4 = iZ M) (hE5 : σ.1 66 5 = iZ E) : ∃ σ', f_M_lays N σ = some σ' ∧ ML 9 67 (hL a b M E) σ' ∧ fr frA9 σ σ' := by
  unfold f_M_lays
  obtain ⟨σ', h1, h2, h3⟩ := lays5 hN hab hM hE E N 1 [] (s_i σ 66 9 (0 : Int32)) (by omega) (by omega) (by omega) ⟨by rw [si_eq]; rfl, Nat.zero_le _, fun i p h => by cases h⟩ ha hb hm4 hE5
  exact ⟨σ', h1, h2, fr_trans (fr_si rfl) h3⟩
theorem over33 {N : Nat} (hN : 10000 ≤ N) (k102 : Int64 → Int64 → Int32 → aSt → Option aSt) {a b e : Int} {M : Nat} (hab : inB a b) (hM : M ≤ 1000) (he : bd 6 e) : ∀ (j n k : Nat) (L : List Pt) (σ : aSt), k + j = 2 * M + 1 → j + 1 ≤ n → ML 51 80 L σ → σ.1 66 4 = iZ M → ∃ σ', f_M_laysOver_l33 N k102 n (jZ a) (jZ b) (iZ e) (iZ ((k : Int) - M)) σ = k102 (jZ a) (jZ b) (iZ e) σ' ∧ ML 51 80 ((L ++ ((List.range' k j).map (fun k : Nat => ptsAt a b e ((k : Int) - M))).flatten).take 120) σ' ∧ fr frA51 σ σ' := by
  intro j
  induction j with
  | zero =>
    intro n k L σ hk hn hx hm4
    obtain ⟨n, rfl, hn⟩ := fuel hn
    rw [f_M_laysOver_l33, hm4, if_pos (by rw [iZ_lt ⟨by omega, by omega⟩ ⟨by omega, by omega⟩]; omega)]
    refine ⟨σ, rfl, ?_, fr_refl _ _⟩
    rw [List.range'_zero, List.map_nil, List.flatten_nil, List.append_nil, List.take_of_length_le hx.2.1]
    exact hx
  | succ j ih =>
    intro n k L σ hk hn hx hm4
    obtain ⟨n, rfl, hn⟩ := fuel hn
    obtain ⟨m, hm⟩ : ∃ m, m = (k : Int) - M := ⟨_, rfl⟩
    have hmb : bd 1000 m := ⟨by omega, by omega⟩
    have hpv := pv_bd hab hmb he
    have hp1 := hpv.1
    have hp2 := hpv.2
    have hgs := gcd_small hmb he
    have next : iZ m + (1 : Int32) = iZ (((k + 1 : Nat) : Int) - M) := by
      rw [iZ_lit, iZ_add]; congr 1; omega
    rw [List.range'_succ, List.map_cons, List.flatten_cons, ← hm, f_M_laysOver_l33, hm4, if_neg (by rw [iZ_lt ⟨by omega, by omega⟩ ⟨by omega, by omega⟩]; omega), iZ_mul, i2j (bd_mono hmb (by decide)), i2j (bd_mono he (by decide)), i2j (bd_mono (bd_mul he he) (by decide)), next, common_Z hN (bd_mono hmb (by decide)) (bd_mono he (by decide)), Option.bind_some]
    simp only [jZ_mul, jZ_add, pv_ref]
    have go : ∀ (x : List Pt) (σ1 : aSt), ML 51 80 ((L ++ x).take 120) σ1 → fr frA51 σ σ1 → ∃ σ', f_M_laysOver_l33 N k102 n (jZ a) (jZ b) (iZ e) (iZ (((k + 1 : Nat) : Int) - M)) σ1 = k102 (jZ a) (jZ b) (iZ e) σ' ∧ ML 51 80 ((L ++ (x ++ ((List.range' (k + 1) j).map (fun k : Nat => ptsAt a b e ((k : Int) - M))).flatten)).take 120) σ' ∧ fr frA51 σ σ' := fun x σ1 h1 h2 => by
      obtain ⟨σ', g1, g2, g3⟩ := ih n (k + 1) _ σ1 (by omega) (by omega) h1 (by rw [(h2 66 4 rfl).1]; exact hm4)
      rw [take_app, List.append_assoc] at g2
      exact ⟨σ', g1, g2, fr_trans h2 g3⟩
    have same : ML 51 80 ((L ++ []).take 120) σ := by
      rw [List.append_nil, List.take_of_length_le hx.2.1]; exact hx
    by_cases cg : Int.gcd m e = 1
    · rw [if_pos (by rw [cg]; rfl), isSquare_Z hN (bd_mono hpv (by decide)), Option.bind_some]
      cases hq : isq (pv a b m e) with
      | false =>
        rw [if_neg (by decide), ptsAt_no (fun c => by rw [hq] at c; cases c.2)]
        exact go [] σ same (fr_refl _ _)
      | true =>
        have h0 := (isq_iff.mp hq).1
        have hrs := (isq_iff.mp hq).2
        have hr := rt_bd (v := (pv a b m e).toNat) (by omega)
        rw [if_pos rfl, show jZ (pv a b m e) = jZ ((pv a b m e).toNat : Int) from congrArg jZ (by omega), root_Z hN (by omega)]
        simp only [Option.bind_some]
        by_cases c0 : rtN (pv a b m e).toNat = 0
        · rw [c0] at hrs
          rw [if_pos (by rw [jZ_lit, jZ_le ⟨by omega, by omega⟩ (bd_lit 0 rfl)]; omega), ptsAt_0 ⟨cg, hq⟩ c0, c0]
          obtain ⟨σ1, g1, g2, g3⟩ := f_M_addsOver_ok N hx (m := m) (n := 0) (e := e)
          rw [show (jZ ((0 : Nat) : Int)) = jZ 0 from rfl, g1, Option.bind_some]
          exact go [(m, 0, e)] σ1 g2 g3
        · have hpos : 0 < (pv a b m e).toNat := by
            rcases Nat.eq_zero_or_pos (pv a b m e).toNat with z | z
            · rw [z] at c0; exact absurd rfl c0
            · exact z
          rw [if_neg (by rw [jZ_lit, jZ_le ⟨by omega, by omega⟩ (bd_lit 0 rfl)]; omega), ptsAt_2 ⟨cg, hq⟩ c0, jZ_neg]
          obtain ⟨σ1, g1, g2, g3⟩ := f_M_addsOver_ok N hx (m := m) (n := -(rtN (pv a b m e).toNat : Int)) (e := e)
          rw [g1, Option.bind_some]
          obtain ⟨σ2, g4, g5, g6⟩ := f_M_addsOver_ok N g2 (m := m) (n := (rtN (pv a b m e).toNat : Int)) (e := e)
          rw [g4, Option.bind_some]
          rw [snoc2] at g5
          exact go _ σ2 g5 (fr_trans g3 g6)
    · rw [if_neg (by rw [jZ_lit, jZ_eq ⟨by omega, by omega⟩ (bd_lit _ rfl)]; omega), ptsAt_no (fun c => cg c.1)]
      exact go [] σ same (fr_refl _ _)
theorem over25 {N : Nat} (hN : 10000 ≤ N) {a b : Int} {M E : Nat} (hab : inB a b) (hM : M ≤ 1000) (hE : E ≤ 6) : ∀ (j n e : Nat) (L : List Pt) (σ : aSt), e + j = E + 1 → 1 ≤ e → j + 1 ≤ n → ML 51 80 L σ → σ.1 66 4 = iZ M → σ.1 66 5 = iZ E → ∃ σ', f_M_laysOver_l25 N n (jZ a) (jZ b) (iZ e) σ = some σ' ∧ ML 51 80 ((L ++ ((List.range' e j).flatMap (fun e : Nat => rowB a b M (e : Int))).flatten).take 120) σ' ∧ fr frA51 σ σ' := by
  intro j
  induction j with
  | zero =>
    intro n e L σ he he1 hn hx hm4 hE5
    obtain ⟨n, rfl, hn⟩ := fuel hn
    rw [f_M_laysOver_l25, hE5, if_pos (by rw [iZ_lt ⟨by omega, by omega⟩ ⟨by omega, by omega⟩]; omega)]
    refine ⟨σ, rfl, ?_, fr_refl _ _⟩
    rw [List.range'_zero, List.flatMap_nil, List.flatten_nil, List.append_nil, List.take_of_length_le hx.2.1]
    exact hx
  | succ j ih =>
    intro n e L σ he he1 hn hx hm4 hE5
    obtain ⟨n, rfl, hn⟩ := fuel hn
    rw [f_M_laysOver_l25, hE5, if_neg (by rw [iZ_lt ⟨by omega, by omega⟩ ⟨by omega, by omega⟩]; omega), hm4, iZ_neg]
    obtain ⟨σ1, g1, g2, g3⟩ := over33 hN (fun (y14 : Int64) (y15 : Int64) (y16 : Int32) σ17 => f_M_laysOver_l25 N n y14 y15 (y16 + (1 : Int32)) σ17) hab hM (e := (e : Int)) ⟨by omega, by omega⟩ (2 * M + 1) N 0 L σ (by omega) (by omega) hx hm4
    rw [show -(M : Int) = ((0 : Nat) : Int) - M from by omega, g1]
    show ∃ σ', f_M_laysOver_l25 N n (jZ a) (jZ b) (iZ (e : Int) + (1 : Int32)) σ1 = some σ' ∧ _
    rw [i1, List.range'_succ, List.flatMap_cons, List.flatten_append]
    obtain ⟨σ', h1, h2, h3⟩ := ih n (e + 1) _ σ1 (by omega) (by omega) (by omega) g2 (by rw [(g3 66 4 rfl).1]; exact hm4) (by rw [(g3 66 5 rfl).1]; exact hE5)
    rw [take_app, List.append_assoc] at h2
    exact ⟨σ', h1, h2, fr_trans g3 h3⟩
theorem laysOver_ok {N : Nat} (hN : 10000 ≤ N) {a b : Int} {M E : Nat} (ha1 : bd 60 a) (hb1 : bd 200 b) (hM : M ≤ 1000) (hE : E ≤ 6) {σ : aSt} (ha : σ.1 66 2 = iZ a) (hb : σ.1 66 3 = iZ b) (hm4 : σ.1 66 4 = iZ M) (hE5 : σ.1 66 5 = iZ E) : ∃ σ', f_M_laysOver N σ = some σ' ∧ ML 51 80 (hL (-2 * a) (a * a - 4 * b) M E) σ' ∧ fr frA51 σ σ' := by
  unfold f_M_laysOver
  have haa := bd_mul ha1 ha1
  have hab : inB (-2 * a) (a * a - 4 * b) := by
    refine ⟨?_, ?_⟩
    · have := ha1.1; have := ha1.2; exact ⟨by omega, by omega⟩
    · have := haa.1; have := haa.2; have := hb1.1; have := hb1.2; exact ⟨by omega, by omega⟩
  rw [ha, hb, i2j (bd_mono ha1 (by decide)), i2j (bd_mono hb1 (by decide)), jZ_lit, jZ_lit, jZ_neg, jZ_mul, jZ_mul, jZ_mul, jZ_sub]
  obtain ⟨σ', h1, h2, h3⟩ := over25 hN hab hM hE E N 1 [] (s_i σ 66 51 (0 : Int32)) (by omega) (by omega) (by omega) ⟨by rw [si_eq]; rfl, Nat.zero_le _, fun i p h => by cases h⟩ hm4 hE5
  exact ⟨σ', h1, h2, fr_trans (fr_si rfl) h3⟩
