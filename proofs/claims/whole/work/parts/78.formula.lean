/-! formula -/
section FML
variable {a b : Int} {M E : Nat}
def frFX : Nat → Nat → Bool := fun o k => frR o k || Nat.beq o 22
def frFM : Nat → Nat → Bool := fun o k => frQ o k || (Nat.beq o 66 && (Nat.ble 23 k && Nat.ble k 28))
theorem frR_F {σ σ' : aSt} (h : fr frR σ σ') : fr frFX σ σ' := fr_mono h (fun o k q => by unfold frFX at q; rw [Bool.or_eq_false_iff] at q; exact q.1)
theorem fr22_F {σ σ' : aSt} (h : fr fr22 σ σ') : fr frFX σ σ' := fr_mono h (fun o k q => by unfold frFX at q; rw [Bool.or_eq_false_iff] at q; exact q.2)
theorem frQ_F {σ σ' : aSt} (h : fr frQ σ σ') : fr frFM σ σ' := fr_mono h (fun o k q => by unfold frFM at q; rw [Bool.or_eq_false_iff] at q; exact q.1)
theorem fr23_F {σ σ' : aSt} (h : fr fr23 σ σ') : fr frFM σ σ' := fr_mono h (fun o k q => by
  unfold frFM at q; rw [Bool.or_eq_false_iff] at q
  have q2 := q.2
  unfold fr23
  cases c1 : Nat.beq o 66
  · rfl
  · rw [c1] at q2
    cases c2 : Nat.ble 23 k
    · rfl
    · rw [c2] at q2
      have : Nat.ble k 28 = false := q2
      cases c3 : Nat.ble k 27
      · rfl
      · rw [Nat.ble_eq] at c3
        rw [show Nat.ble k 28 = true from by rw [Nat.ble_eq]; omega] at this
        cases this)
theorem XC_F {σ σ' : aSt} (hf : fr frFX σ σ') (h : XC a b M E σ) : XC a b M E σ' := XC_fr hf (fun _ => ⟨rfl, rfl, rfl, rfl, rfl⟩) h
theorem MC_F {τ τ' : aSt} (hf : fr frFM τ τ') (h : MC a b M E τ) : MC a b M E τ' := MC_fr hf ⟨rfl, rfl, rfl, rfl, rfl, fun _ => ⟨rfl, rfl, rfl⟩⟩ h
theorem TK_22 {T : Nat → Int} {n i : Nat} {σ σ' τ τ' : aSt} (hf : fr fr22 σ σ') (hg : fr fr23 τ τ') (h : TK T n i σ τ) : TK T n i σ' τ' := TK_fr hf hg (fun _ _ => rfl) (fun _ => rfl) (fun k k1 k2 => by
  unfold fr23
  show (true && (Nat.ble 23 k && Nat.ble k 27)) = false
  cases c : Nat.ble 23 k
  · rfl
  · rw [Nat.ble_eq] at c; omega) (fun _ => rfl) h
theorem TkF_22 {σ σ' τ τ' : aSt} (hf : fr fr22 σ σ') (h : TkF σ τ) (e1 : τ'.1 66 18 = τ.1 66 18) (e2 : τ'.1 66 19 = τ.1 66 19) : TkF σ' τ' := ⟨by rw [(hf 1 7 rfl).1, e1]; exact h.1, by rw [(hf 1 8 rfl).1, e2]; exact h.2.1, by rw [e1]; exact h.2.2.1, by rw [(hf 1 3 rfl).1]; exact h.2.2.2⟩
/-- what a TERM is read as -/
def TRes (a b : Int) (M E : Nat) (T : Nat → Int) (n i : Nat) (mi : Bool) (σ τ : aSt) (x y : Option (Int32 × aSt)) : Prop := (∃ σ' τ' r, x = some (iZ (-6), σ') ∧ y = some (r, τ') ∧ TkF σ' τ' ∧ fr frFX σ σ' ∧ fr frFM τ τ') ∨ (∃ σ' τ' w i', x = some (iZ (if mi = true then negC a b M E w else w), σ') ∧ y = some (iZ w, τ') ∧ scd a b M E w ∧ TK T n i' σ' τ' ∧ i < i' ∧ fr frFX σ σ' ∧ fr frFM τ τ')
theorem TRes_pre {T : Nat → Int} {n i i1 : Nat} {mi : Bool} {σ σ1 τ τ1 : aSt} {x y : Option (Int32 × aSt)} (hi : i ≤ i1) (f : fr frFX σ σ1) (g : fr frFM τ τ1) (h : TRes a b M E T n i1 mi σ1 τ1 x y) : TRes a b M E T n i mi σ τ x y := by
  rcases h with ⟨σ', τ', r, h1, h2, h3, h4, h5⟩ | ⟨σ', τ', w, i', h1, h2, h3, h4, h5, h6, h7⟩
  · exact Or.inl ⟨σ', τ', r, h1, h2, h3, fr_trans f h4, fr_trans g h5⟩
  · exact Or.inr ⟨σ', τ', w, i', h1, h2, h3, h4, by omega, fr_trans f h6, fr_trans g h7⟩
theorem neg_1000 : negC a b M E 1000 = 1000 := if_pos rfl
theorem neg_6 : negC a b M E (-6) = -6 := by unfold negC; rw [if_neg (by decide), if_pos rfl]
theorem tim_neg {x : Int} {k : Int} (hk : 0 ≤ k) : timC a b M E x (-k) = negC a b M E (timC a b M E x k) := by
  unfold timC
  rw [Int.natAbs_neg]
  by_cases c : mulC a b M E x k.natAbs = -6
  · rw [if_pos c, if_pos c, neg_6]
  · rw [if_neg c, if_neg c, if_neg (show ¬ k < 0 by omega)]
    by_cases c0 : k = 0
    · subst c0
      rw [if_neg (by decide)]
      exact neg_1000.symm
    · rw [if_pos (show -k < 0 by omega)]
theorem b14_bad {N : Nat} {τ : aSt} (h : τ.1 66 18 ≠ 0) (k : Int32) : f_M_pointHere_b14 N k τ = some ((1000 : Int32), τ) := by
  unfold f_M_pointHere_b14
  rw [nb_bad h, Option.bind_some, good_1 (τ := ((0 : Int32), τ).2) h, if_neg ff_tt, if_neg ff_tt]
theorem ph_bad {N : Nat} (hN : 1000 ≤ N) {τ : aSt} (h : τ.1 66 18 ≠ 0) (k : Int32) : f_M_pointHere N k τ = some ((1000 : Int32), τ) := by
  unfold f_M_pointHere f_M_pointHere_b9
  rw [wb_203 hN h, Option.bind_some, if_neg ff_tt, er_bad h, lt_eq, good_1 h, if_neg ff_tt, b14_bad h]
theorem mpts {τ : aSt} (h : MC a b M E τ) : τ.1 66 9 = iZ ((hL a b M E).length : Int) := h.1.1
/-- the number of a POINT -/
theorem pnum {N : Nat} (hc : CV a b M E) (hN : 10000 ≤ N) {T : Nat → Int} {n i : Nat} (ho : okT T n) {σ τ : aSt} (h : TK T n i σ τ) (hx : XC a b M E σ) (hm : MC a b M E τ) (mi : Bool) {k : Int} (hk0 : 0 ≤ k) (hk1 : k ≤ 20) : TRes a b M E T n i mi σ τ (lt (f_Reader_fits (0 : Int32) ((f_PointList_shown_11 σ) - (1 : Int32)) σ) fun x10 => (if x10.1 = true then ((f_Reader_next N x10.2).bind fun x12 => (if mi = true then ((f_Sums_multiple N (f_Reader_value x10.2) (-(iZ k)) x12).bind fun x14 => some (x14.1, x14.2)) else ((f_Sums_multiple N (f_Reader_value x10.2) (iZ k) x12).bind fun x15 => some (x15.1, x15.2)))) else some ((-6 : Int32), x10.2))) (f_M_pointHere_b14 N (iZ k) τ) := by
  have hl := hL_le (a := a) (b := b) (M := M) (E := E)
  obtain ⟨r1, r2, r3, r4⟩ := rf_ok h (p := (1 : Int32)) (by decide)
  obtain ⟨s1, s2, s3, s4⟩ := rf_ok h (p := (2 : Int32)) (by decide)
  obtain ⟨σ1, τ1, n1, n2, n3, n4, n5⟩ := tk_next (show 1000 ≤ N by omega) ho h
  have no1 := TK_no n3
  obtain ⟨hi', _, _, ⟨x1, x2, x3, x4, x5, x6⟩, ⟨y1, y2, y3, y4, y5, y6, y7⟩⟩ := id h
  have kb := tkK_bd (T := T) (n := n) (i := i)
  have lb := tkL_bd (T := T) (n := n) (i := i)
  have xm1 : XC a b M E σ1 := XC_F (frR_F (frN1_R n4)) hx
  have mm1 : MC a b M E τ1 := MC_F (frQ_F (frN6_Q n5)) hm
  have es : f_PointList_shown_11 σ - (1 : Int32) = iZ (((hL a b M E).length : Int) - 1) := by rw [shownZ hx, iZ_lit, iZ_sub]
  rw [es, lt_eq]
  unfold f_Reader_fits f_M_pointHere_b14 f_M_number
  rw [good_0 y6, if_pos (c := true = true) rfl, x3, y3]
  have c2 : (iZ (tkK T n i) = (2 : Int32)) = (tkK T n i = 2) := by rw [show (2 : Int32) = iZ 2 from rfl, iZ_eq ⟨by omega, by omega⟩ (bd_lit _ rfl)]
  simp only [c2, lt_eq]
  by_cases d : tkK T n i = 2
  · rw [if_pos d, if_pos d, x4 d]
    have en : f_M_number_b12 N (0 : Int32) (99999 : Int32) τ = some (iZ (min 99999 (tkL T n i)), τ1) := by
      unfold f_M_number_b12
      rw [good_0 y6, if_pos (c := true = true) rfl, y4 d, show (0 : Int32).toInt64 = jZ 0 from rfl, show (99999 : Int32).toInt64 = jZ 99999 from rfl, in_iZ ⟨by omega, by omega⟩ (bd_lit _ rfl) (bd_lit _ rfl), ite_dec, if_pos (by omega), if_pos (c := true = true) rfl, n2, Option.bind_some]
    rw [en, Option.bind_some]
    have q1 : ¬ (iZ (tkL T n i) < (0 : Int32)) := by rw [show (0 : Int32) = iZ 0 from rfl, iZ_lt ⟨by omega, by omega⟩ (bd_lit _ rfl)]; omega
    have q2 : (iZ (tkL T n i) ≤ iZ (((hL a b M E).length : Int) - 1)) = (tkL T n i < ((hL a b M E).length : Int)) := by
      rw [iZ_le ⟨by omega, by omega⟩ ⟨by omega, by omega⟩]; apply propext; omega
    have q3 : (iZ (min 99999 (tkL T n i)) < τ1.1 66 9) = (tkL T n i < ((hL a b M E).length : Int)) := by
      rw [mpts mm1, iZ_lt ⟨by omega, by omega⟩ ⟨by omega, by omega⟩]; apply propext; omega
    rw [if_neg q1, good_0 (τ := (iZ (min 99999 (tkL T n i)), τ1).2) no1.2.2.1, if_pos (c := true = true) rfl]
    simp only [q2, q3]
    by_cases l : tkL T n i < ((hL a b M E).length : Int)
    · rw [if_pos l, if_pos l, if_pos (c := (true, σ).1 = true) rfl, if_pos (c := True) trivial]
      show TRes a b M E T n i mi σ τ ((f_Reader_next N σ).bind _) _
      rw [n1, Option.bind_some, show f_Reader_value (true, σ).2 = iZ (tkL T n i) from x4 d, show min 99999 (tkL T n i) = tkL T n i by omega]
      have sc : scd a b M E (tkL T n i) := Or.inr (Or.inr ⟨by omega, l⟩)
      obtain ⟨τ2, t1, t2⟩ := mtimes_ok hc hN sc (k := k) ⟨by omega, by omega⟩ mm1
      rw [t1, Option.bind_some]
      have pr := (tkP_bd (T := T) hi').2.2 (by omega)
      cases mi
      · obtain ⟨σ2, u1, u2⟩ := multiple_ok hc hN sc (k := k) ⟨by omega, by omega⟩ xm1
        rw [if_neg ff_tt, u1, Option.bind_some]
        exact Or.inr ⟨σ2, τ2, timC a b M E (tkL T n i) k, tkP T n i, rfl, rfl, timC_scd hc sc k, TK_22 u2 t2 n3, pr, fr_trans (frR_F (frN1_R n4)) (fr22_F u2), fr_trans (frQ_F (frN6_Q n5)) (fr23_F t2)⟩
      · obtain ⟨σ2, u1, u2⟩ := multiple_ok hc hN sc (k := -k) ⟨by omega, by omega⟩ xm1
        rw [if_pos (c := true = true) rfl, iZ_neg, u1, Option.bind_some, tim_neg hk0]
        exact Or.inr ⟨σ2, τ2, timC a b M E (tkL T n i) k, tkP T n i, rfl, rfl, timC_scd hc sc k, TK_22 u2 t2 n3, pr, fr_trans (frR_F (frN1_R n4)) (fr22_F u2), fr_trans (frQ_F (frN6_Q n5)) (fr23_F t2)⟩
    · rw [if_neg l, if_neg l, s1, if_neg (c := (false, (f_Reader_refuse 2 σ).2).1 = true) ff_tt]
      have ft : TkF (f_Reader_refuse 2 σ).2 (f_M_errs 2 (τ.1 66 15) τ1) := by
        have e := s2
        unfold f_M_errs at e ⊢
        rw [good_0 y6, if_pos (c := true = true) rfl] at e
        rw [good_0 no1.2.2.1, if_pos (c := true = true) rfl]
        exact e
      rw [good_1 ft.2.2.1, if_neg ff_tt, if_neg (c := (false, (f_Reader_refuse 2 σ).2).1 = true) ff_tt]
      refine Or.inl ⟨_, _, _, rfl, rfl, ft, frR_F s3, fr_trans (frQ_F (frN6_Q n5)) (frQ_F ?_)⟩
      unfold f_M_errs
      rw [good_0 no1.2.2.1, if_pos (c := true = true) rfl]
      exact fr_trans (fr_si rfl) (fr_si rfl)
  · rw [if_neg d, if_neg d, r1, if_neg (c := (false, (f_Reader_refuse 1 σ).2).1 = true) ff_tt]
    have eb : f_M_number_b12 N (0 : Int32) (99999 : Int32) (f_M_errs 1 (τ.1 66 15) τ) = some (0, f_M_errs 1 (τ.1 66 15) τ) := by
      unfold f_M_number_b12
      rw [good_1 r2.2.2.1, if_neg ff_tt, if_neg ff_tt]
    rw [eb, Option.bind_some, good_1 (τ := ((0 : Int32), f_M_errs 1 (τ.1 66 15) τ).2) r2.2.2.1, if_neg ff_tt, if_neg ff_tt]
    exact Or.inl ⟨_, _, _, rfl, rfl, r2, frR_F r3, frQ_F r4⟩
theorem phere {N : Nat} (hc : CV a b M E) (hN : 10000 ≤ N) {T : Nat → Int} {n i : Nat} (ho : okT T n) {σ τ : aSt} (h : TK T n i σ τ) (hx : XC a b M E σ) (hm : MC a b M E τ) (mi : Bool) {k : Int} (hk0 : 0 ≤ k) (hk1 : k ≤ 20) : TRes a b M E T n i mi σ τ (f_X_readTerm_b31 N mi (iZ k) σ) (f_M_pointHere N (iZ k) τ) := by
  unfold f_X_readTerm_b31 f_M_pointHere f_Reader_takeWord_203
  obtain ⟨bb, w1, w2, w3⟩ := wd_203 (show 1000 ≤ N by omega) ho h
  rw [w1, w2, Option.bind_some, Option.bind_some]
  unfold f_M_pointHere_b9
  cases bb
  · obtain ⟨r1, r2, r3, r4⟩ := rf_ok h (p := (1 : Int32)) (by decide)
    rw [if_neg ff_tt, if_neg ff_tt, lt_eq, lt_eq, r1, Option.bind_some, good_1 r2.2.2.1, if_neg ff_tt, b14_bad r2.2.2.1]
    exact Or.inl ⟨_, _, _, rfl, rfl, r2, frR_F r3, frQ_F r4⟩
  · obtain ⟨σ1, τ1, a1, a2, a3, a4, a5⟩ := tk_next (show 1000 ≤ N by omega) ho h
    rw [if_pos (c := true = true) rfl, if_pos (c := true = true) rfl, a1, good_0 (TK_no h).2.2.1, if_pos (c := true = true) rfl, a2, Option.bind_some, Option.bind_some, Option.bind_some, if_pos (c := (true, σ1).1 = true) rfl]
    have pr := (tkP_bd (T := T) h.1).2.2 (by rw [w3 rfl]; decide)
    exact TRes_pre (by omega) (frR_F (frN1_R a4)) (frQ_F (frN6_Q a5)) (pnum hc hN ho a3 (XC_F (frR_F (frN1_R a4)) hx) (MC_F (frQ_F (frN6_Q a5)) hm) mi hk0 hk1)
theorem bnd_pr (x : Option (Int32 × aSt)) : (x.bind fun x6 => some (x6.1, x6.2)) = x := by cases x <;> rfl
theorem term_ok {N : Nat} (hc : CV a b M E) (hN : 10000 ≤ N) {T : Nat → Int} {n i : Nat} (ho : okT T n) {σ τ : aSt} (h : TK T n i σ τ) (hx : XC a b M E σ) (hm : MC a b M E τ) (mi : Bool) : TRes a b M E T n i mi σ τ (f_X_readTerm N mi σ) (f_M_termHere N τ) := by
  unfold f_X_readTerm f_M_termHere
  simp only [bnd_pr]
  have hN1 : 1000 ≤ N := by omega
  obtain ⟨bb, w1, w2, w3⟩ := wd_202 hN1 ho h
  obtain ⟨σ1, τ1, a1, a2, a3, a4, a5⟩ := tk_next hN1 ho h
  rw [w1, w2, Option.bind_some, Option.bind_some]
  have kb := tkK_bd (T := T) (n := n) (i := i)
  cases bb
  · rw [if_neg ff_tt, if_neg ff_tt, good_0 (TK_no h).2.2.1, if_pos (c := true = true) rfl]
    unfold f_Reader_isNumber
    rw [h.2.2.2.1.2.2.1, h.2.2.2.2.2.2.1]
    have c2 : (iZ (tkK T n i) ≠ (2 : Int32)) = (tkK T n i ≠ 2) := by rw [ne_eq, show (2 : Int32) = iZ 2 from rfl, iZ_eq ⟨by omega, by omega⟩ (bd_lit _ rfl)]
    simp only [c2]
    by_cases d : tkK T n i = 2
    · rw [if_neg (c := tkK T n i ≠ 2) (fun q => q d), if_neg (c := tkK T n i ≠ 2) (fun q => q d), if_pos (c := true = true) rfl, lt_eq]
      rcases ft_ok (N := N) h (lo := 0) (hi := 20) (by decide) (by decide) (by decide) (by decide) with ⟨σ', τ', b1, b2, b3, b4, b5⟩ | ⟨v, v1, v2, b1, b2, b3, b4⟩
      · rw [show f_Reader_fits (0 : Int32) (20 : Int32) σ = (false, σ') from b1, show f_M_number N (0 : Int32) (20 : Int32) τ = some (iZ 0, τ') from b2, Option.bind_some, if_neg (c := (false, σ').1 = true) ff_tt, ph_bad hN1 (τ := (iZ 0, τ').2) b3.2.2.1]
        exact Or.inl ⟨σ', τ', _, rfl, rfl, b3, frR_F b4, frQ_F b5⟩
      · rw [show f_Reader_fits (0 : Int32) (20 : Int32) σ = (true, σ) from b3, show f_M_number N (0 : Int32) (20 : Int32) τ = ((f_M_advance N τ).bind fun x => some (iZ v, x)) from b4, if_pos (c := (true, σ).1 = true) rfl]
        show TRes a b M E T n i mi σ τ ((f_Reader_next N σ).bind _) _
        rw [a1, a2, Option.bind_some, Option.bind_some, Option.bind_some, show f_Reader_value (true, σ).2 = iZ v from b2]
        have pr := (tkP_bd (T := T) h.1).2.2 (by omega)
        exact TRes_pre (by omega) (frR_F (frN1_R a4)) (frQ_F (frN6_Q a5)) (phere hc hN ho a3 (XC_F (frR_F (frN1_R a4)) hx) (MC_F (frQ_F (frN6_Q a5)) hm) mi v1 v2)
    · rw [if_pos d, if_pos d, if_neg ff_tt]
      exact phere hc hN ho h hx hm mi (k := 1) (by decide) (by decide)
  · rw [if_pos (c := true = true) rfl, if_pos (c := true = true) rfl, a1, a2, Option.bind_some, Option.bind_some]
    have pr := (tkP_bd (T := T) h.1).2.2 (by rw [w3 rfl]; decide)
    refine Or.inr ⟨σ1, τ1, 1000, tkP T n i, ?_, rfl, Or.inl rfl, a3, pr, frR_F (frN1_R a4), frQ_F (frN6_Q a5)⟩
    cases mi
    · rfl
    · rw [if_pos rfl, neg_1000]; rfl
end FML
