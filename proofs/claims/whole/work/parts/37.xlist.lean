/-! THE LISTS of the class -/
def key (p : Pt) : Int := (p.2.2 * 2097153 + p.1) * 2097153 + p.2.1
def XL (o : Nat) (L : List Pt) (σ : aSt) : Prop := σ.1 o 5 = iZ L.length ∧ L.length ≤ 121 ∧ ∀ i p, L[i]? = some p → σ.1 (o + 1) i = iZ p.1 ∧ σ.1 (o + 2) i = iZ p.2.1 ∧ σ.1 (o + 3) i = iZ p.2.2 ∧ σ.2.1 (o + 4) i = jZ (key p)
theorem rtA_of {z : Int} (h : isq z = true) : rtA z = (rtN z.toNat : Int) := if_pos h
theorem rtA_no {z : Int} (h : isq z = false) : rtA z = -1 := if_neg (by rw [h]; decide)
theorem fold_flat (a b : Int) (M : Nat) : ∀ (l : List Nat) (L : List Pt), (l.flatMap (fun e : Nat => rowB a b M (e : Int))).foldl stp L = l.foldl (fun L (e : Nat) => (rowB a b M (e : Int)).foldl stp L) L
  | [], L => rfl
  | x :: l, L => by rw [List.flatMap_cons, List.foldl_append, List.foldl_cons, fold_flat a b M l]

def frL11 : Nat → Nat → Bool := fun a k => Nat.beq a 12 || Nat.beq a 13 || Nat.beq a 14 || Nat.beq a 15 || (Nat.beq a 11 && Nat.beq k 5)
theorem append11 {L : List Pt} {σ : aSt} (h : XL 11 L σ) (hl : L.length < 121) {m n e : Int} (hm : bd 2147483647 m) (hn : bd 2147483647 n) (he : bd 2147483647 e) : XL 11 (L ++ [(m, n, e)]) (f_PointList_append_11 (iZ m) (iZ n) (iZ e) σ) ∧ fr frL11 σ (f_PointList_append_11 (iZ m) (iZ n) (iZ e) σ) := by
  unfold f_PointList_append_11
  rw [h.1, if_neg (by rw [iZ_lit, iZ_lt ⟨by omega, by omega⟩ (bd_lit 0 rfl)]; omega), if_pos (by rw [iZ_lit, iZ_lt ⟨by omega, by omega⟩ (bd_lit _ rfl)]; omega), lt_eq, lt_eq, lt_eq, iZ_idx (by omega) (by omega), show ((L.length : Nat) : Int).toNat = L.length from by omega]
  rw [store_in (row := 12) (by decide) (by decide) (by omega) (by show (L.length : Int) < (121 : Nat); omega), show ((L.length : Nat) : Int).toNat = L.length from by omega]
  rw [show (s_i (s_l σ 15 L.length ((((iZ e).toInt64 * (2097153 : Int64)) + (iZ m).toInt64) * (2097153 : Int64) + (iZ n).toInt64)) 12 L.length (iZ m)).1 11 5 = iZ L.length from h.1]
  rw [store_in (row := 13) (by decide) (by decide) (by omega) (by show (L.length : Int) < (121 : Nat); omega), show ((L.length : Nat) : Int).toNat = L.length from by omega]
  rw [show (s_i (s_i (s_l σ 15 L.length ((((iZ e).toInt64 * (2097153 : Int64)) + (iZ m).toInt64) * (2097153 : Int64) + (iZ n).toInt64)) 12 L.length (iZ m)) 13 L.length (iZ n)).1 11 5 = iZ L.length from h.1]
  rw [store_in (row := 14) (by decide) (by decide) (by omega) (by show (L.length : Int) < (121 : Nat); omega), show ((L.length : Nat) : Int).toNat = L.length from by omega]
  rw [show (s_i (s_i (s_i (s_l σ 15 L.length ((((iZ e).toInt64 * (2097153 : Int64)) + (iZ m).toInt64) * (2097153 : Int64) + (iZ n).toInt64)) 12 L.length (iZ m)) 13 L.length (iZ n)) 14 L.length (iZ e)).1 11 5 = iZ L.length from h.1]
  rw [i2j hm, i2j hn, i2j he, jZ_lit, jZ_mul, jZ_add, jZ_mul, jZ_add, i1]
  obtain ⟨σ1, hσ1⟩ : ∃ σ1, σ1 = s_i (s_i (s_i (s_i (s_l σ 15 L.length (jZ ((e * 2097153 + m) * 2097153 + n))) 12 L.length (iZ m)) 13 L.length (iZ n)) 14 L.length (iZ e)) 11 5 (iZ ((L.length + 1 : Nat) : Int)) := ⟨_, rfl⟩
  rw [← hσ1]
  refine ⟨⟨?_, ?_, fun i p hi => ?_⟩, ?_⟩
  · rw [hσ1, si_eq, List.length_append]; rfl
  · rw [List.length_append]; show L.length + 1 ≤ 121; omega
  · rcases get_snoc hi with ⟨q1, q2⟩ | ⟨q1, q2⟩
    · obtain ⟨b1, b2, b3, b4⟩ := h.2.2 i p q2
      have hne : i ≠ L.length := by omega
      refine ⟨?_, ?_, ?_, ?_⟩
      · show σ1.1 12 i = _
        rw [hσ1, si_ne (Or.inl (by decide)), si_ne (Or.inl (by decide)), si_ne (Or.inl (by decide)), si_ne (Or.inr hne)]
        exact b1
      · show σ1.1 13 i = _
        rw [hσ1, si_ne (Or.inl (by decide)), si_ne (Or.inl (by decide)), si_ne (Or.inr hne), si_ne (Or.inl (by decide))]
        exact b2
      · show σ1.1 14 i = _
        rw [hσ1, si_ne (Or.inl (by decide)), si_ne (Or.inr hne), si_ne (Or.inl (by decide)), si_ne (Or.inl (by decide))]
        exact b3
      · show σ1.2.1 15 i = _
        rw [hσ1]
        show (s_l σ 15 L.length (jZ ((e * 2097153 + m) * 2097153 + n))).2.1 15 i = _
        rw [sl_ne (Or.inr hne)]
        exact b4
    · subst q1; subst q2
      refine ⟨?_, ?_, ?_, ?_⟩
      · show σ1.1 12 L.length = _
        rw [hσ1, si_ne (Or.inl (by decide)), si_ne (Or.inl (by decide)), si_ne (Or.inl (by decide)), si_eq]
      · show σ1.1 13 L.length = _
        rw [hσ1, si_ne (Or.inl (by decide)), si_ne (Or.inl (by decide)), si_eq]
      · show σ1.1 14 L.length = _
        rw [hσ1, si_ne (Or.inl (by decide)), si_eq]
      · show σ1.2.1 15 L.length = _
        rw [hσ1]
        exact sl_eq σ 15 L.length _
  · rw [hσ1]
    have hA : ∀ k, frL11 12 k = true := fun k => rfl
    have hB : ∀ k, frL11 13 k = true := fun k => rfl
    have hC : ∀ k, frL11 14 k = true := fun k => rfl
    have hD : ∀ k, frL11 15 k = true := fun k => rfl
    exact fr_trans (fr_trans (fr_trans (fr_trans (fr_sl (hD _)) (fr_si (hA _))) (fr_si (hB _))) (fr_si (hC _))) (fr_si rfl)
theorem addSpot11 {N : Nat} (hN : 10000 ≤ N) {L : List Pt} {σ : aSt} (h : XL 11 L σ) (hl : L.length < 120) {a b m e : Int} (hab : inB a b) (ha : σ.1 11 6 = iZ a) (hb : σ.1 11 7 = iZ b) (hm : bd 1000 m) (he : bd 6 e) : ∃ σ', f_PointList_addSpot_11 N (iZ m) (iZ e) σ = some σ' ∧ XL 11 (L ++ ptsAt a b e m) σ' ∧ fr frL11 σ σ' := by
  have hpv := pv_bd hab hm he
  have hp1 := hpv.1
  have hp2 := hpv.2
  unfold f_PointList_addSpot_11
  rw [ha, hb, iZ_mul, i2j (bd_mono hm (by decide)), i2j (bd_mono he (by decide)), i2j (bd_mono (bd_mul hab.1 hm) (by decide)), i2j (bd_mono hab.2 (by decide))]
  simp only [jZ_mul, jZ_add]
  rw [show m * (m * m + a * m * (e * e) + b * (e * e) * (e * e)) = pv a b m e from rfl, rootOf_Z hN (bd_mono hpv (by decide)), Option.bind_some, j2i]
  unfold ptsAt
  cases hq : isq (pv a b m e) with
  | false =>
    rw [rtA_no hq, if_pos (by decide), if_neg (fun c => by cases c.2), List.append_nil]
    exact ⟨σ, rfl, h, fr_refl _ _⟩
  | true =>
    have h0 := (isq_iff.mp hq).1
    have hr := rt_bd (v := (pv a b m e).toNat) (by omega)
    rw [rtA_of hq, if_neg (by rw [iZ_lit, iZ_lt ⟨by omega, by omega⟩ (bd_lit 0 rfl)]; omega), gcd_Z hN (bd_mono hm (by decide)) (bd_mono he (by decide)), Option.bind_some]
    obtain ⟨r, hrr⟩ : ∃ r, r = rtN (pv a b m e).toNat := ⟨_, rfl⟩
    rw [← hrr] at hr ⊢
    have hgle : Int.gcd m e ≤ 2000 := by
      by_cases c : e = 0
      · subst c; rw [Int.gcd_zero_right]; have := hm.1; have := hm.2; omega
      · have := Int.gcd_le_natAbs_right m c
        have := he.1; have := he.2; omega
    by_cases cg : Int.gcd m e = 1
    · rw [if_pos (by rw [cg]; rfl), if_pos (show Int.gcd m e = 1 ∧ true = true from ⟨cg, rfl⟩)]
      by_cases c0 : r = 0
      · rw [if_pos (by rw [iZ_lit, iZ_le ⟨by omega, by omega⟩ (bd_lit 0 rfl)]; omega), if_pos c0, lt_eq, c0]
        obtain ⟨q1, q2⟩ := append11 h (by omega) (m := m) (n := 0) (e := e) (bd_mono hm (by decide)) (bd_lit 0 rfl) (bd_mono he (by decide))
        exact ⟨_, rfl, q1, q2⟩
      · rw [if_neg (by rw [iZ_lit, iZ_le ⟨by omega, by omega⟩ (bd_lit 0 rfl)]; omega), if_neg c0, lt_eq, lt_eq, iZ_neg]
        obtain ⟨q1, q2⟩ := append11 h (by omega) (m := m) (n := -(r : Int)) (e := e) (bd_mono hm (by decide)) ⟨by omega, by omega⟩ (bd_mono he (by decide))
        obtain ⟨q3, q4⟩ := append11 q1 (by rw [List.length_append]; show L.length + 1 < 121; omega) (m := m) (n := (r : Int)) (e := e) (bd_mono hm (by decide)) ⟨by omega, by omega⟩ (bd_mono he (by decide))
        rw [List.append_assoc] at q3
        exact ⟨_, rfl, q3, fr_trans q2 q4⟩
    · rw [if_neg (by rw [jZ_lit, jZ_eq ⟨by omega, by omega⟩ (bd_lit _ rfl)]; omega), if_neg (fun c => cg c.1), List.append_nil]
      exact ⟨σ, rfl, h, fr_refl _ _⟩
theorem frL11_S {σ σ' : aSt} (h : fr frL11 σ σ') {sp : List Int} (hs : SV sp σ) : SV sp σ' := by
  refine ⟨by rw [(h 8 2 rfl).1]; exact hs.1, hs.2.1, fun i z hi => ?_⟩
  rw [(h 10 i rfl).1]; exact hs.2.2 i z hi
theorem fill30_11 {N : Nat} (hN : 10000 ≤ N) (k48 : Int32 → aSt → Option aSt) {a b e : Int} (hab : inB a b) (he : bd 6 e) {sp : List Int} (hsp : ∀ z ∈ sp, bd 1000 z) : ∀ (j n i : Nat) (L : List Pt) (σ : aSt), i + j = sp.length → j + 1 ≤ n → SV sp σ → XL 11 L σ → σ.1 11 6 = iZ a → σ.1 11 7 = iZ b → ∃ σ', f_PointList_fill_11_l30 N k48 n (iZ e) (iZ i) σ = k48 (iZ e) σ' ∧ XL 11 (((sp.drop i).map (ptsAt a b e)).foldl stp L) σ' ∧ fr frL11 σ σ' := by
  intro j
  induction j with
  | zero =>
    intro n i L σ hi hn hs hx ha hb
    obtain ⟨n, rfl, hn⟩ := fuel hn
    have hl := hs.2.1
    rw [f_PointList_fill_11_l30, if_pos (by unfold f_Sieve_size; rw [hs.1, iZ_le ⟨by omega, by omega⟩ ⟨by omega, by omega⟩]; omega), List.drop_of_length_le (by omega)]
    exact ⟨σ, rfl, hx, fr_refl _ _⟩
  | succ j ih =>
    intro n i L σ hi hn hs hx ha hb
    obtain ⟨n, rfl, hn⟩ := fuel hn
    have hl := hs.2.1
    have hxl := hx.2.1
    rw [f_PointList_fill_11_l30, if_neg (by unfold f_Sieve_size; rw [hs.1, iZ_le ⟨by omega, by omega⟩ ⟨by omega, by omega⟩]; omega), hx.1]
    obtain ⟨z, hz⟩ := get_some (L := sp) (i := i) (by omega)
    have hd : sp.drop i = z :: sp.drop (i + 1) := by
      rw [List.drop_eq_getElem_cons (by omega)]
      congr 1
      have := List.getElem?_eq_getElem (l := sp) (i := i) (by omega)
      rw [this] at hz
      exact Option.some.inj hz
    by_cases c : 120 ≤ L.length
    · rw [if_pos (by rw [iZ_lit, iZ_le (bd_lit _ rfl) ⟨by omega, by omega⟩]; omega), fold_full _ L c]
      exact ⟨σ, rfl, hx, fr_refl _ _⟩
    · rw [if_neg (by rw [iZ_lit, iZ_le (bd_lit _ rfl) ⟨by omega, by omega⟩]; omega)]
      have epk : f_Sieve_spot (iZ (i : Int)) σ = iZ z := by
        unfold f_Sieve_spot
        rw [pick_in (by decide) (by decide) (by omega) (by show (i : Int) < (2001 : Nat); omega)]
        exact hs.2.2 i z hz
      obtain ⟨σ1, g1, g2, g3⟩ := addSpot11 hN hx (by omega) hab ha hb (hsp z (List.mem_of_getElem? hz)) he
      rw [epk, g1, Option.bind_some, i1]
      obtain ⟨σ', h1, h2, h3⟩ := ih n (i + 1) (L ++ ptsAt a b e z) σ1 (by omega) (by omega) (frL11_S g3 hs) g2 (by rw [(g3 11 6 rfl).1]; exact ha) (by rw [(g3 11 7 rfl).1]; exact hb)
      refine ⟨σ', h1, ?_, fr_trans g3 h3⟩
      rw [hd, List.map_cons, List.foldl_cons, show stp L (ptsAt a b e z) = L ++ ptsAt a b e z from if_pos (by omega)]
      exact h2
theorem fill24_11 {N : Nat} (hN : 10000 ≤ N) {a b : Int} {M E : Nat} (hab : inB a b) (hM : M ≤ 1000) (hE : E ≤ 6) {mk : Nat → Bool} (hmk : ∀ a e : Int, ∀ i ∈ List.range' 0 (2 * M + 1), mk i = false → ptsAt a b e ((i : Int) - M) = []) : ∀ (j n e : Nat) (L : List Pt) (σ : aSt), e + j = E + 1 → 1 ≤ e → j + 1 ≤ n → SV (((List.range' 0 (2 * M + 1)).filter mk).map (fun i : Nat => (i : Int) - M)) σ → XL 11 L σ → σ.1 11 6 = iZ a → σ.1 11 7 = iZ b → σ.1 11 9 = iZ E → ∃ σ', f_PointList_fill_11_l24 N n (iZ e) σ = some σ' ∧ XL 11 (((List.range' e j).flatMap (fun e : Nat => rowB a b M (e : Int))).foldl stp L) σ' ∧ fr frL11 σ σ' := by
  intro j
  induction j with
  | zero =>
    intro n e L σ he he1 hn hs hx ha hb hE9
    obtain ⟨n, rfl, hn⟩ := fuel hn
    rw [f_PointList_fill_11_l24, hE9, if_pos (by rw [iZ_lt ⟨by omega, by omega⟩ ⟨by omega, by omega⟩]; omega)]
    exact ⟨σ, rfl, hx, fr_refl _ _⟩
  | succ j ih =>
    intro n e L σ he he1 hn hs hx ha hb hE9
    obtain ⟨n, rfl, hn⟩ := fuel hn
    rw [f_PointList_fill_11_l24, hE9, if_neg (by rw [iZ_lt ⟨by omega, by omega⟩ ⟨by omega, by omega⟩]; omega)]
    have hll := hs.2.1
    obtain ⟨σ1, g1, g2, g3⟩ := fill30_11 hN (fun (y6 : Int32) σ7 => f_PointList_fill_11_l24 N n (y6 + (1 : Int32)) σ7) hab (e := (e : Int)) ⟨by omega, by omega⟩ (sp := ((List.range' 0 (2 * M + 1)).filter mk).map (fun i : Nat => (i : Int) - M)) (fun z hz => by
      obtain ⟨k, hk, rfl⟩ := List.mem_map.mp hz
      have hk := List.mem_range'_1.mp (List.mem_filter.mp hk).1
      exact ⟨by omega, by omega⟩) _ N 0 L σ (Nat.zero_add _) (by omega) hs hx ha hb
    rw [show (0 : Int32) = iZ ((0 : Nat) : Int) from rfl, g1]
    show ∃ σ', f_PointList_fill_11_l24 N n (iZ (e : Int) + (1 : Int32)) σ1 = some σ' ∧ _
    rw [i1, List.range'_succ, List.flatMap_cons, List.foldl_append]
    rw [List.drop_zero, List.map_map] at g2
    have e1 := fold_filter (fun i : Nat => ptsAt a b (e : Int) ((i : Int) - M)) mk (List.range' 0 (2 * M + 1)) L (fun x hx q => hmk a (e : Int) x hx q)
    have e2 : (((List.range' 0 (2 * M + 1)).filter mk).map (ptsAt a b (e : Int) ∘ fun i : Nat => (i : Int) - M)).foldl stp L = (rowB a b M (e : Int)).foldl stp L := e1
    rw [e2] at g2
    obtain ⟨σ', h1, h2, h3⟩ := ih n (e + 1) _ σ1 (by omega) (by omega) (by omega) (frL11_S g3 hs) g2 (by rw [(g3 11 6 rfl).1]; exact ha) (by rw [(g3 11 7 rfl).1]; exact hb) (by rw [(g3 11 9 rfl).1]; exact hE9)
    exact ⟨σ', h1, h2, fr_trans g3 h3⟩
def frF11 : Nat → Nat → Bool := fun a k => frL11 a k || frS a k || (Nat.beq a 11 && Nat.blt 4 k)
theorem fill_11 {N : Nat} (hN : 10000 ≤ N) {a b : Int} {M E : Nat} (hab : inB a b) (hb0 : b ≠ 0) (hM : M ≤ 1000) (hE : E ≤ 6) {σ : aSt} (hz : Z9 σ) : ∃ σ', f_PointList_fill_11 N (iZ a) (iZ b) (iZ M) (iZ E) σ = some σ' ∧ XL 11 (hX a b M E) σ' ∧ σ'.1 11 6 = iZ a ∧ σ'.1 11 7 = iZ b ∧ σ'.1 11 8 = iZ M ∧ σ'.1 11 9 = iZ E ∧ Z9 σ' ∧ fr frF11 σ σ' := by
  unfold f_PointList_fill_11
  obtain ⟨σ0, hσ0⟩ : ∃ σ0, σ0 = s_i (s_i (s_i (s_i (s_i σ 11 6 (iZ a)) 11 7 (iZ b)) 11 8 (iZ M)) 11 9 (iZ E)) 11 5 (0 : Int32) := ⟨_, rfl⟩
  rw [← hσ0]
  have z0 : Z9 σ0 := fun k hk => by
    rw [hσ0, si_ne (Or.inl (by decide)), si_ne (Or.inl (by decide)), si_ne (Or.inl (by decide)), si_ne (Or.inl (by decide)), si_ne (Or.inl (by decide))]
    exact hz k hk
  have f0 : fr frF11 σ σ0 := by
    rw [hσ0]
    exact fr_trans (fr_trans (fr_trans (fr_trans (fr_si rfl) (fr_si rfl)) (fr_si rfl)) (fr_si rfl)) (fr_si rfl)
  have c5 : σ0.1 11 5 = iZ ((0 : Nat) : Int) := by rw [hσ0]; rfl
  have c6 : σ0.1 11 6 = iZ a := by rw [hσ0]; rfl
  have c7 : σ0.1 11 7 = iZ b := by rw [hσ0]; rfl
  have c8 : σ0.1 11 8 = iZ M := by rw [hσ0]; rfl
  have c9 : σ0.1 11 9 = iZ E := by rw [hσ0]; rfl
  obtain ⟨σ1, mk, g1, g2, g3, g4, g5⟩ := gather_ok hN hab.2 hb0 hM z0
  rw [g1, Option.bind_some]
  have k5 : σ1.1 11 5 = iZ ((0 : Nat) : Int) := by rw [(g4 11 5 rfl).1]; exact c5
  have k6 : σ1.1 11 6 = iZ a := by rw [(g4 11 6 rfl).1]; exact c6
  have k7 : σ1.1 11 7 = iZ b := by rw [(g4 11 7 rfl).1]; exact c7
  have k8 : σ1.1 11 8 = iZ M := by rw [(g4 11 8 rfl).1]; exact c8
  have k9 : σ1.1 11 9 = iZ E := by rw [(g4 11 9 rfl).1]; exact c9
  obtain ⟨σ', h1, h2, h3⟩ := fill24_11 hN hab hM hE g3 E N 1 [] σ1 (by omega) (by omega) (by omega) g2 ⟨k5, Nat.zero_le _, fun i p h => by cases h⟩ k6 k7 k9
  refine ⟨σ', h1, h2, by rw [(h3 11 6 rfl).1]; exact k6, by rw [(h3 11 7 rfl).1]; exact k7, by rw [(h3 11 8 rfl).1]; exact k8, by rw [(h3 11 9 rfl).1]; exact k9, fun k hk => by rw [(h3 9 k rfl).1]; exact g5 k hk, ?_⟩
  refine fr_trans (fr_trans f0 (fr_mono g4 (fun o k q => ?_))) (fr_mono h3 (fun o k q => ?_))
  · unfold frF11 at q
    rw [Bool.or_eq_false_iff, Bool.or_eq_false_iff] at q
    exact q.1.2
  · unfold frF11 at q
    rw [Bool.or_eq_false_iff, Bool.or_eq_false_iff] at q
    exact q.1.1

def frL16 : Nat → Nat → Bool := fun a k => Nat.beq a 17 || Nat.beq a 18 || Nat.beq a 19 || Nat.beq a 20 || (Nat.beq a 16 && Nat.beq k 5)
theorem append16 {L : List Pt} {σ : aSt} (h : XL 16 L σ) (hl : L.length < 121) {m n e : Int} (hm : bd 2147483647 m) (hn : bd 2147483647 n) (he : bd 2147483647 e) : XL 16 (L ++ [(m, n, e)]) (f_PointList_append_16 (iZ m) (iZ n) (iZ e) σ) ∧ fr frL16 σ (f_PointList_append_16 (iZ m) (iZ n) (iZ e) σ) := by
  unfold f_PointList_append_16
  rw [h.1, if_neg (by rw [iZ_lit, iZ_lt ⟨by omega, by omega⟩ (bd_lit 0 rfl)]; omega), if_pos (by rw [iZ_lit, iZ_lt ⟨by omega, by omega⟩ (bd_lit _ rfl)]; omega), lt_eq, lt_eq, lt_eq, iZ_idx (by omega) (by omega), show ((L.length : Nat) : Int).toNat = L.length from by omega]
  rw [store_in (row := 17) (by decide) (by decide) (by omega) (by show (L.length : Int) < (121 : Nat); omega), show ((L.length : Nat) : Int).toNat = L.length from by omega]
  rw [show (s_i (s_l σ 20 L.length ((((iZ e).toInt64 * (2097153 : Int64)) + (iZ m).toInt64) * (2097153 : Int64) + (iZ n).toInt64)) 17 L.length (iZ m)).1 16 5 = iZ L.length from h.1]
  rw [store_in (row := 18) (by decide) (by decide) (by omega) (by show (L.length : Int) < (121 : Nat); omega), show ((L.length : Nat) : Int).toNat = L.length from by omega]
  rw [show (s_i (s_i (s_l σ 20 L.length ((((iZ e).toInt64 * (2097153 : Int64)) + (iZ m).toInt64) * (2097153 : Int64) + (iZ n).toInt64)) 17 L.length (iZ m)) 18 L.length (iZ n)).1 16 5 = iZ L.length from h.1]
  rw [store_in (row := 19) (by decide) (by decide) (by omega) (by show (L.length : Int) < (121 : Nat); omega), show ((L.length : Nat) : Int).toNat = L.length from by omega]
  rw [show (s_i (s_i (s_i (s_l σ 20 L.length ((((iZ e).toInt64 * (2097153 : Int64)) + (iZ m).toInt64) * (2097153 : Int64) + (iZ n).toInt64)) 17 L.length (iZ m)) 18 L.length (iZ n)) 19 L.length (iZ e)).1 16 5 = iZ L.length from h.1]
  rw [i2j hm, i2j hn, i2j he, jZ_lit, jZ_mul, jZ_add, jZ_mul, jZ_add, i1]
  obtain ⟨σ1, hσ1⟩ : ∃ σ1, σ1 = s_i (s_i (s_i (s_i (s_l σ 20 L.length (jZ ((e * 2097153 + m) * 2097153 + n))) 17 L.length (iZ m)) 18 L.length (iZ n)) 19 L.length (iZ e)) 16 5 (iZ ((L.length + 1 : Nat) : Int)) := ⟨_, rfl⟩
  rw [← hσ1]
  refine ⟨⟨?_, ?_, fun i p hi => ?_⟩, ?_⟩
  · rw [hσ1, si_eq, List.length_append]; rfl
  · rw [List.length_append]; show L.length + 1 ≤ 121; omega
  · rcases get_snoc hi with ⟨q1, q2⟩ | ⟨q1, q2⟩
    · obtain ⟨b1, b2, b3, b4⟩ := h.2.2 i p q2
      have hne : i ≠ L.length := by omega
      refine ⟨?_, ?_, ?_, ?_⟩
      · show σ1.1 17 i = _
        rw [hσ1, si_ne (Or.inl (by decide)), si_ne (Or.inl (by decide)), si_ne (Or.inl (by decide)), si_ne (Or.inr hne)]
        exact b1
      · show σ1.1 18 i = _
        rw [hσ1, si_ne (Or.inl (by decide)), si_ne (Or.inl (by decide)), si_ne (Or.inr hne), si_ne (Or.inl (by decide))]
        exact b2
      · show σ1.1 19 i = _
        rw [hσ1, si_ne (Or.inl (by decide)), si_ne (Or.inr hne), si_ne (Or.inl (by decide)), si_ne (Or.inl (by decide))]
        exact b3
      · show σ1.2.1 20 i = _
        rw [hσ1]
        show (s_l σ 20 L.length (jZ ((e * 2097153 + m) * 2097153 + n))).2.1 20 i = _
        rw [sl_ne (Or.inr hne)]
        exact b4
    · subst q1; subst q2
      refine ⟨?_, ?_, ?_, ?_⟩
      · show σ1.1 17 L.length = _
        rw [hσ1, si_ne (Or.inl (by decide)), si_ne (Or.inl (by decide)), si_ne (Or.inl (by decide)), si_eq]
      · show σ1.1 18 L.length = _
        rw [hσ1, si_ne (Or.inl (by decide)), si_ne (Or.inl (by decide)), si_eq]
      · show σ1.1 19 L.length = _
        rw [hσ1, si_ne (Or.inl (by decide)), si_eq]
      · show σ1.2.1 20 L.length = _
        rw [hσ1]
        exact sl_eq σ 20 L.length _
  · rw [hσ1]
    have hA : ∀ k, frL16 17 k = true := fun k => rfl
    have hB : ∀ k, frL16 18 k = true := fun k => rfl
    have hC : ∀ k, frL16 19 k = true := fun k => rfl
    have hD : ∀ k, frL16 20 k = true := fun k => rfl
    exact fr_trans (fr_trans (fr_trans (fr_trans (fr_sl (hD _)) (fr_si (hA _))) (fr_si (hB _))) (fr_si (hC _))) (fr_si rfl)
theorem addSpot16 {N : Nat} (hN : 10000 ≤ N) {L : List Pt} {σ : aSt} (h : XL 16 L σ) (hl : L.length < 120) {a b m e : Int} (hab : inB a b) (ha : σ.1 16 6 = iZ a) (hb : σ.1 16 7 = iZ b) (hm : bd 1000 m) (he : bd 6 e) : ∃ σ', f_PointList_addSpot_16 N (iZ m) (iZ e) σ = some σ' ∧ XL 16 (L ++ ptsAt a b e m) σ' ∧ fr frL16 σ σ' := by
  have hpv := pv_bd hab hm he
  have hp1 := hpv.1
  have hp2 := hpv.2
  unfold f_PointList_addSpot_16
  rw [ha, hb, iZ_mul, i2j (bd_mono hm (by decide)), i2j (bd_mono he (by decide)), i2j (bd_mono (bd_mul hab.1 hm) (by decide)), i2j (bd_mono hab.2 (by decide))]
  simp only [jZ_mul, jZ_add]
  rw [show m * (m * m + a * m * (e * e) + b * (e * e) * (e * e)) = pv a b m e from rfl, rootOf_Z hN (bd_mono hpv (by decide)), Option.bind_some, j2i]
  unfold ptsAt
  cases hq : isq (pv a b m e) with
  | false =>
    rw [rtA_no hq, if_pos (by decide), if_neg (fun c => by cases c.2), List.append_nil]
    exact ⟨σ, rfl, h, fr_refl _ _⟩
  | true =>
    have h0 := (isq_iff.mp hq).1
    have hr := rt_bd (v := (pv a b m e).toNat) (by omega)
    rw [rtA_of hq, if_neg (by rw [iZ_lit, iZ_lt ⟨by omega, by omega⟩ (bd_lit 0 rfl)]; omega), gcd_Z hN (bd_mono hm (by decide)) (bd_mono he (by decide)), Option.bind_some]
    obtain ⟨r, hrr⟩ : ∃ r, r = rtN (pv a b m e).toNat := ⟨_, rfl⟩
    rw [← hrr] at hr ⊢
    have hgle : Int.gcd m e ≤ 2000 := by
      by_cases c : e = 0
      · subst c; rw [Int.gcd_zero_right]; have := hm.1; have := hm.2; omega
      · have := Int.gcd_le_natAbs_right m c
        have := he.1; have := he.2; omega
    by_cases cg : Int.gcd m e = 1
    · rw [if_pos (by rw [cg]; rfl), if_pos (show Int.gcd m e = 1 ∧ true = true from ⟨cg, rfl⟩)]
      by_cases c0 : r = 0
      · rw [if_pos (by rw [iZ_lit, iZ_le ⟨by omega, by omega⟩ (bd_lit 0 rfl)]; omega), if_pos c0, lt_eq, c0]
        obtain ⟨q1, q2⟩ := append16 h (by omega) (m := m) (n := 0) (e := e) (bd_mono hm (by decide)) (bd_lit 0 rfl) (bd_mono he (by decide))
        exact ⟨_, rfl, q1, q2⟩
      · rw [if_neg (by rw [iZ_lit, iZ_le ⟨by omega, by omega⟩ (bd_lit 0 rfl)]; omega), if_neg c0, lt_eq, lt_eq, iZ_neg]
        obtain ⟨q1, q2⟩ := append16 h (by omega) (m := m) (n := -(r : Int)) (e := e) (bd_mono hm (by decide)) ⟨by omega, by omega⟩ (bd_mono he (by decide))
        obtain ⟨q3, q4⟩ := append16 q1 (by rw [List.length_append]; show L.length + 1 < 121; omega) (m := m) (n := (r : Int)) (e := e) (bd_mono hm (by decide)) ⟨by omega, by omega⟩ (bd_mono he (by decide))
        rw [List.append_assoc] at q3
        exact ⟨_, rfl, q3, fr_trans q2 q4⟩
    · rw [if_neg (by rw [jZ_lit, jZ_eq ⟨by omega, by omega⟩ (bd_lit _ rfl)]; omega), if_neg (fun c => cg c.1), List.append_nil]
      exact ⟨σ, rfl, h, fr_refl _ _⟩
theorem frL16_S {σ σ' : aSt} (h : fr frL16 σ σ') {sp : List Int} (hs : SV sp σ) : SV sp σ' := by
  refine ⟨by rw [(h 8 2 rfl).1]; exact hs.1, hs.2.1, fun i z hi => ?_⟩
  rw [(h 10 i rfl).1]; exact hs.2.2 i z hi
theorem fill30_16 {N : Nat} (hN : 10000 ≤ N) (k48 : Int32 → aSt → Option aSt) {a b e : Int} (hab : inB a b) (he : bd 6 e) {sp : List Int} (hsp : ∀ z ∈ sp, bd 1000 z) : ∀ (j n i : Nat) (L : List Pt) (σ : aSt), i + j = sp.length → j + 1 ≤ n → SV sp σ → XL 16 L σ → σ.1 16 6 = iZ a → σ.1 16 7 = iZ b → ∃ σ', f_PointList_fill_16_l30 N k48 n (iZ e) (iZ i) σ = k48 (iZ e) σ' ∧ XL 16 (((sp.drop i).map (ptsAt a b e)).foldl stp L) σ' ∧ fr frL16 σ σ' := by
  intro j
  induction j with
  | zero =>
    intro n i L σ hi hn hs hx ha hb
    obtain ⟨n, rfl, hn⟩ := fuel hn
    have hl := hs.2.1
    rw [f_PointList_fill_16_l30, if_pos (by unfold f_Sieve_size; rw [hs.1, iZ_le ⟨by omega, by omega⟩ ⟨by omega, by omega⟩]; omega), List.drop_of_length_le (by omega)]
    exact ⟨σ, rfl, hx, fr_refl _ _⟩
  | succ j ih =>
    intro n i L σ hi hn hs hx ha hb
    obtain ⟨n, rfl, hn⟩ := fuel hn
    have hl := hs.2.1
    have hxl := hx.2.1
    rw [f_PointList_fill_16_l30, if_neg (by unfold f_Sieve_size; rw [hs.1, iZ_le ⟨by omega, by omega⟩ ⟨by omega, by omega⟩]; omega), hx.1]
    obtain ⟨z, hz⟩ := get_some (L := sp) (i := i) (by omega)
    have hd : sp.drop i = z :: sp.drop (i + 1) := by
      rw [List.drop_eq_getElem_cons (by omega)]
      congr 1
      have := List.getElem?_eq_getElem (l := sp) (i := i) (by omega)
      rw [this] at hz
      exact Option.some.inj hz
    by_cases c : 120 ≤ L.length
    · rw [if_pos (by rw [iZ_lit, iZ_le (bd_lit _ rfl) ⟨by omega, by omega⟩]; omega), fold_full _ L c]
      exact ⟨σ, rfl, hx, fr_refl _ _⟩
    · rw [if_neg (by rw [iZ_lit, iZ_le (bd_lit _ rfl) ⟨by omega, by omega⟩]; omega)]
      have epk : f_Sieve_spot (iZ (i : Int)) σ = iZ z := by
        unfold f_Sieve_spot
        rw [pick_in (by decide) (by decide) (by omega) (by show (i : Int) < (2001 : Nat); omega)]
        exact hs.2.2 i z hz
      obtain ⟨σ1, g1, g2, g3⟩ := addSpot16 hN hx (by omega) hab ha hb (hsp z (List.mem_of_getElem? hz)) he
      rw [epk, g1, Option.bind_some, i1]
      obtain ⟨σ', h1, h2, h3⟩ := ih n (i + 1) (L ++ ptsAt a b e z) σ1 (by omega) (by omega) (frL16_S g3 hs) g2 (by rw [(g3 16 6 rfl).1]; exact ha) (by rw [(g3 16 7 rfl).1]; exact hb)
      refine ⟨σ', h1, ?_, fr_trans g3 h3⟩
      rw [hd, List.map_cons, List.foldl_cons, show stp L (ptsAt a b e z) = L ++ ptsAt a b e z from if_pos (by omega)]
      exact h2
theorem fill24_16 {N : Nat} (hN : 10000 ≤ N) {a b : Int} {M E : Nat} (hab : inB a b) (hM : M ≤ 1000) (hE : E ≤ 6) {mk : Nat → Bool} (hmk : ∀ a e : Int, ∀ i ∈ List.range' 0 (2 * M + 1), mk i = false → ptsAt a b e ((i : Int) - M) = []) : ∀ (j n e : Nat) (L : List Pt) (σ : aSt), e + j = E + 1 → 1 ≤ e → j + 1 ≤ n → SV (((List.range' 0 (2 * M + 1)).filter mk).map (fun i : Nat => (i : Int) - M)) σ → XL 16 L σ → σ.1 16 6 = iZ a → σ.1 16 7 = iZ b → σ.1 16 9 = iZ E → ∃ σ', f_PointList_fill_16_l24 N n (iZ e) σ = some σ' ∧ XL 16 (((List.range' e j).flatMap (fun e : Nat => rowB a b M (e : Int))).foldl stp L) σ' ∧ fr frL16 σ σ' := by
  intro j
  induction j with
  | zero =>
    intro n e L σ he he1 hn hs hx ha hb hE9
    obtain ⟨n, rfl, hn⟩ := fuel hn
    rw [f_PointList_fill_16_l24, hE9, if_pos (by rw [iZ_lt ⟨by omega, by omega⟩ ⟨by omega, by omega⟩]; omega)]
    exact ⟨σ, rfl, hx, fr_refl _ _⟩
  | succ j ih =>
    intro n e L σ he he1 hn hs hx ha hb hE9
    obtain ⟨n, rfl, hn⟩ := fuel hn
    rw [f_PointList_fill_16_l24, hE9, if_neg (by rw [iZ_lt ⟨by omega, by omega⟩ ⟨by omega, by omega⟩]; omega)]
    have hll := hs.2.1
    obtain ⟨σ1, g1, g2, g3⟩ := fill30_16 hN (fun (y6 : Int32) σ7 => f_PointList_fill_16_l24 N n (y6 + (1 : Int32)) σ7) hab (e := (e : Int)) ⟨by omega, by omega⟩ (sp := ((List.range' 0 (2 * M + 1)).filter mk).map (fun i : Nat => (i : Int) - M)) (fun z hz => by
      obtain ⟨k, hk, rfl⟩ := List.mem_map.mp hz
      have hk := List.mem_range'_1.mp (List.mem_filter.mp hk).1
      exact ⟨by omega, by omega⟩) _ N 0 L σ (Nat.zero_add _) (by omega) hs hx ha hb
    rw [show (0 : Int32) = iZ ((0 : Nat) : Int) from rfl, g1]
    show ∃ σ', f_PointList_fill_16_l24 N n (iZ (e : Int) + (1 : Int32)) σ1 = some σ' ∧ _
    rw [i1, List.range'_succ, List.flatMap_cons, List.foldl_append]
    rw [List.drop_zero, List.map_map] at g2
    have e1 := fold_filter (fun i : Nat => ptsAt a b (e : Int) ((i : Int) - M)) mk (List.range' 0 (2 * M + 1)) L (fun x hx q => hmk a (e : Int) x hx q)
    have e2 : (((List.range' 0 (2 * M + 1)).filter mk).map (ptsAt a b (e : Int) ∘ fun i : Nat => (i : Int) - M)).foldl stp L = (rowB a b M (e : Int)).foldl stp L := e1
    rw [e2] at g2
    obtain ⟨σ', h1, h2, h3⟩ := ih n (e + 1) _ σ1 (by omega) (by omega) (by omega) (frL16_S g3 hs) g2 (by rw [(g3 16 6 rfl).1]; exact ha) (by rw [(g3 16 7 rfl).1]; exact hb) (by rw [(g3 16 9 rfl).1]; exact hE9)
    exact ⟨σ', h1, h2, fr_trans g3 h3⟩
def frF16 : Nat → Nat → Bool := fun a k => frL16 a k || frS a k || (Nat.beq a 16 && Nat.blt 4 k)
theorem fill_16 {N : Nat} (hN : 10000 ≤ N) {a b : Int} {M E : Nat} (hab : inB a b) (hb0 : b ≠ 0) (hM : M ≤ 1000) (hE : E ≤ 6) {σ : aSt} (hz : Z9 σ) : ∃ σ', f_PointList_fill_16 N (iZ a) (iZ b) (iZ M) (iZ E) σ = some σ' ∧ XL 16 (hX a b M E) σ' ∧ σ'.1 16 6 = iZ a ∧ σ'.1 16 7 = iZ b ∧ σ'.1 16 8 = iZ M ∧ σ'.1 16 9 = iZ E ∧ Z9 σ' ∧ fr frF16 σ σ' := by
  unfold f_PointList_fill_16
  obtain ⟨σ0, hσ0⟩ : ∃ σ0, σ0 = s_i (s_i (s_i (s_i (s_i σ 16 6 (iZ a)) 16 7 (iZ b)) 16 8 (iZ M)) 16 9 (iZ E)) 16 5 (0 : Int32) := ⟨_, rfl⟩
  rw [← hσ0]
  have z0 : Z9 σ0 := fun k hk => by
    rw [hσ0, si_ne (Or.inl (by decide)), si_ne (Or.inl (by decide)), si_ne (Or.inl (by decide)), si_ne (Or.inl (by decide)), si_ne (Or.inl (by decide))]
    exact hz k hk
  have f0 : fr frF16 σ σ0 := by
    rw [hσ0]
    exact fr_trans (fr_trans (fr_trans (fr_trans (fr_si rfl) (fr_si rfl)) (fr_si rfl)) (fr_si rfl)) (fr_si rfl)
  have c5 : σ0.1 16 5 = iZ ((0 : Nat) : Int) := by rw [hσ0]; rfl
  have c6 : σ0.1 16 6 = iZ a := by rw [hσ0]; rfl
  have c7 : σ0.1 16 7 = iZ b := by rw [hσ0]; rfl
  have c8 : σ0.1 16 8 = iZ M := by rw [hσ0]; rfl
  have c9 : σ0.1 16 9 = iZ E := by rw [hσ0]; rfl
  obtain ⟨σ1, mk, g1, g2, g3, g4, g5⟩ := gather_ok hN hab.2 hb0 hM z0
  rw [g1, Option.bind_some]
  have k5 : σ1.1 16 5 = iZ ((0 : Nat) : Int) := by rw [(g4 16 5 rfl).1]; exact c5
  have k6 : σ1.1 16 6 = iZ a := by rw [(g4 16 6 rfl).1]; exact c6
  have k7 : σ1.1 16 7 = iZ b := by rw [(g4 16 7 rfl).1]; exact c7
  have k8 : σ1.1 16 8 = iZ M := by rw [(g4 16 8 rfl).1]; exact c8
  have k9 : σ1.1 16 9 = iZ E := by rw [(g4 16 9 rfl).1]; exact c9
  obtain ⟨σ', h1, h2, h3⟩ := fill24_16 hN hab hM hE g3 E N 1 [] σ1 (by omega) (by omega) (by omega) g2 ⟨k5, Nat.zero_le _, fun i p h => by cases h⟩ k6 k7 k9
  refine ⟨σ', h1, h2, by rw [(h3 16 6 rfl).1]; exact k6, by rw [(h3 16 7 rfl).1]; exact k7, by rw [(h3 16 8 rfl).1]; exact k8, by rw [(h3 16 9 rfl).1]; exact k9, fun k hk => by rw [(h3 9 k rfl).1]; exact g5 k hk, ?_⟩
  refine fr_trans (fr_trans f0 (fr_mono g4 (fun o k q => ?_))) (fr_mono h3 (fun o k q => ?_))
  · unfold frF16 at q
    rw [Bool.or_eq_false_iff, Bool.or_eq_false_iff] at q
    exact q.1.2
  · unfold frF16 at q
    rw [Bool.or_eq_false_iff, Bool.or_eq_false_iff] at q
    exact q.1.1
