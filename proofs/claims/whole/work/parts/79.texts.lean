/-! formula and curve: the whole of it -/
section FML
variable {a b : Int} {M E : Nat}
def FRes (σ τ : aSt) (x y : Option (Int32 × aSt)) : Prop := (∃ rx σ' τ', x = some (rx, σ') ∧ y = some ((-4 : Int32), τ') ∧ TkF σ' τ' ∧ fr frFX σ σ' ∧ fr frFM τ τ') ∨ (∃ r σ' τ', x = some (r, σ') ∧ y = some (r, τ') ∧ NoF σ' τ' ∧ fr frFX σ σ' ∧ fr frFM τ τ')
theorem FRes_pre {σ σ1 τ τ1 : aSt} {x y : Option (Int32 × aSt)} (f : fr frFX σ σ1) (g : fr frFM τ τ1) (h : FRes σ1 τ1 x y) : FRes σ τ x y := by
  rcases h with ⟨r, σ', τ', h1, h2, h3, h4, h5⟩ | ⟨r, σ', τ', h1, h2, h3, h4, h5⟩
  · exact Or.inl ⟨r, σ', τ', h1, h2, h3, fr_trans f h4, fr_trans g h5⟩
  · exact Or.inr ⟨r, σ', τ', h1, h2, h3, fr_trans f h4, fr_trans g h5⟩
theorem ssgn {N : Nat} (hc : CV a b M E) (hN : 10000 ≤ N) {τ : aSt} (hm : MC a b M E τ) (h18 : τ.1 66 18 = 0) {x w : Int} (hx : scd a b M E x) (hw : scd a b M E w) (mi : Bool) : ∃ τ', f_M_sumSigned N (iZ x) (iZ w) (if mi = true then -1 else 1) τ = some (iZ (addC a b M E x (if mi = true then negC a b M E w else w)), τ') ∧ fr fr23 τ τ' := by
  unfold f_M_sumSigned
  rw [good_0 h18]
  simp only [if_pos (c := true = true) rfl, bnd_pr]
  cases mi
  · rw [if_neg ff_tt, if_neg ff_tt, if_pos (by decide)]
    exact msum1 hc hN hm hx hw
  · rw [if_pos (c := true = true) rfl, if_pos (c := true = true) rfl, if_neg (c := (0 : Int32) ≤ -1) (by decide)]
    have hb := scd_bd hw
    have hb1 := hb.1; have hb2 := hb.2
    have c6 : (iZ w = (-6 : Int32)) = (w = -6) := by rw [show (-6 : Int32) = iZ (-6) from rfl, iZ_eq ⟨by omega, by omega⟩ (bd_lit _ rfl)]
    simp only [c6]
    by_cases d : w = -6
    · rw [if_pos d]
      obtain ⟨τ', g1, g2⟩ := msum1 hc hN hm hx hw
      refine ⟨τ', ?_, g2⟩
      rw [g1, d, neg_6]; rfl
    · rw [if_neg d, mturned_ok hc hN hm hw d, Option.bind_some]
      exact msum1 hc hN hm hx (negC_scd hc)
theorem ssg_bad {N : Nat} {τ : aSt} (h : τ.1 66 18 ≠ 0) (p q s : Int32) : f_M_sumSigned N p q s τ = some ((1000 : Int32), τ) := by
  unfold f_M_sumSigned
  rw [good_1 h, if_neg ff_tt, if_neg ff_tt]
theorem l25_bad {N m : Nat} {τ : aSt} (h : τ.1 66 18 ≠ 0) : f_M_formula_l25 N (m + 1) τ = some ((-4 : Int32), τ) := by
  rw [f_M_formula_l25, sg_bad h, sg_bad h, good_1 h]
  rw [if_neg (c := false = true) ff_tt, if_neg (c := false = true) ff_tt, if_neg (c := false = true) ff_tt, if_neg (c := false = true) ff_tt]
theorem l16_bad {N m : Nat} {σ : aSt} (h : σ.1 1 3 = 0) (v k : Int32) : f_X_readFormula_l16 N (m + 1) v k σ = some (v, σ) := by
  rw [f_X_readFormula_l16]
  unfold f_Reader_isDone
  rw [h, if_neg (c := (0 : Int32) ≠ 0) (fun q => q rfl), if_pos (c := true = true) rfl]
  split <;> rfl
theorem sg_val {τ : aSt} {p : Int32} (h : f_M_isSign p τ = true) : τ.1 66 17 = p := by
  unfold f_M_isSign at h
  split at h
  · split at h
    · exact absurd h ff_tt
    · split at h
      · exact absurd h ff_tt
      · rename_i q; exact Classical.byContradiction q
  · exact absurd h ff_tt
theorem ft_tt {c : Bool} (h : ¬ c = true) : c = false := by cases c with | false => rfl | true => exact absurd rfl h
theorem fr28 (τ : aSt) (v : Int32) : fr frFM τ (s_i τ 66 28 v) := fr_si rfl
theorem TK_28 {T : Nat → Int} {n i : Nat} {σ τ : aSt} {v : Int32} (h : TK T n i σ τ) : TK T n i σ (s_i τ 66 28 v) := TK_fr (S := fun _ _ => false) (R := fun o k => Nat.beq o 66 && Nat.beq k 28) (fr_refl _ _) (fr_si rfl) (fun _ _ => rfl) (fun _ => rfl) (fun k k1 k2 => by
  show (Nat.beq 66 66 && Nat.beq k 28) = false
  rw [beqN (show k ≠ 28 by omega)]; rfl) (fun _ => rfl) h
/-- a TERM and what comes of it; the rest is given -/
theorem fstep {N : Nat} (hc : CV a b M E) (hN : 10000 ≤ N) {T : Nat → Int} {n i : Nat} (ho : okT T n) {σ τ : aSt} (h : TK T n i σ τ) (hx : XC a b M E σ) (hm : MC a b M E τ) (mi : Bool) {x : Int} (sx : scd a b M E x) {s28 : Int32} (e28 : s28 = iZ x) {X : Int32 → aSt → Option (Int32 × aSt)} {Y : aSt → Option (Int32 × aSt)} (bx : ∀ v σ1, σ1.1 1 3 = 0 → X v σ1 = some (v, σ1)) (by1 : ∀ τ1, τ1.1 66 18 ≠ 0 → Y τ1 = some ((-4 : Int32), τ1)) (ih : ∀ i' σ1 τ1 z, i < i' → TK T n i' σ1 τ1 → XC a b M E σ1 → MC a b M E τ1 → scd a b M E z → τ1.1 66 28 = iZ z → FRes σ1 τ1 (X (iZ z) σ1) (Y τ1)) : FRes σ τ ((f_X_readTerm N mi σ).bind fun x8 => ((f_Sums_total N (iZ x) x8.1 x8.2).bind fun x9 => X x9.1 x9.2)) ((f_M_termHere N τ).bind fun x10 => ((f_M_sumSigned N s28 x10.1 (if mi = true then -1 else 1) x10.2).bind fun x11 => Y (s_i x11.2 66 28 x11.1))) := by
  rw [e28]
  rcases term_ok hc hN ho h hx hm mi with ⟨σ1, τ1, r, h1, h2, h3, h4, h5⟩ | ⟨σ1, τ1, w, i', h1, h2, h3, h4, h5, h6, h7⟩
  · rw [h1, h2, Option.bind_some, Option.bind_some, ssg_bad (τ := (r, τ1).2) h3.2.2.1, Option.bind_some]
    obtain ⟨σ2, t1, t2⟩ := total_ok hc hN (XC_F h4 hx) sx (y := -6) (Or.inr (Or.inl rfl))
    rw [show f_Sums_total N (iZ x) (iZ (-6), σ1).1 (iZ (-6), σ1).2 = some (iZ (addC a b M E x (-6)), σ2) from t1, Option.bind_some]
    have f3 := TkF_22 (τ' := s_i τ1 66 28 (1000 : Int32)) t2 h3 rfl rfl
    rw [bx _ _ f3.2.2.2]
    exact Or.inl ⟨_, σ2, _, rfl, by1 _ f3.2.2.1, f3, fr_trans h4 (fr22_F t2), fr_trans h5 (fr28 _ _)⟩
  · have x1 := XC_F h6 hx
    have m1 := MC_F h7 hm
    rw [h1, h2, Option.bind_some, Option.bind_some]
    have sz : scd a b M E (if mi = true then negC a b M E w else w) := by
      cases mi
      · rw [if_neg ff_tt]; exact h3
      · rw [if_pos rfl]; exact negC_scd hc
    obtain ⟨σ2, t1, t2⟩ := total_ok hc hN x1 sx sz
    obtain ⟨τ2, u1, u2⟩ := ssgn hc hN m1 (TK_no h4).2.2.1 sx h3 mi
    rw [show f_Sums_total N (iZ x) (iZ (if mi = true then negC a b M E w else w), σ1).1 (iZ (if mi = true then negC a b M E w else w), σ1).2 = some (iZ (addC a b M E x (if mi = true then negC a b M E w else w)), σ2) from t1, show f_M_sumSigned N (iZ x) (iZ w, τ1).1 (if mi = true then -1 else 1) (iZ w, τ1).2 = some (iZ (addC a b M E x (if mi = true then negC a b M E w else w)), τ2) from u1, Option.bind_some, Option.bind_some]
    exact FRes_pre (fr_trans h6 (fr22_F t2)) (fr_trans h7 (fr_trans (fr23_F u2) (fr28 _ _))) (ih i' σ2 _ _ h5 (TK_28 (TK_22 t2 u2 h4)) (XC_22 t2 x1) (MC_F (fr28 _ _) (MC_F (fr23_F u2) m1)) (addC_scd hc sx sz) (si_eq _ _ _ _))
theorem floop {N : Nat} (hc : CV a b M E) (hN : 10000 ≤ N) {T : Nat → Int} {n : Nat} (ho : okT T n) : ∀ (j i k m m' : Nat) (x : Int) (σ τ : aSt), n - i ≤ j → j + 2 ≤ m → j + 2 ≤ m' → k ≤ i → TK T n i σ τ → XC a b M E σ → MC a b M E τ → scd a b M E x → τ.1 66 28 = iZ x → FRes σ τ (f_X_readFormula_l16 N m (iZ x) (iZ k) σ) (f_M_formula_l25 N m' τ) := by
  intro j
  induction j with
  | zero =>
    intro i k m m' x σ τ hj hm1 hm2 hk h hx hm sx e28
    obtain ⟨m, rfl, _⟩ := fuel (k := 1) hm1
    obtain ⟨m', rfl, _⟩ := fuel (k := 1) hm2
    have hK : tkK T n i = 0 := by
      apply Classical.byContradiction
      intro q
      have := tkS_lt q
      have := (tkS_bd (T := T) h.1).1
      omega
    have s1 : f_M_isSign (43 : Int32) τ = false := ft_tt (fun q => by have := (sg_ok h 43).2 q; omega)
    have s2 : f_M_isSign (45 : Int32) τ = false := ft_tt (fun q => by have := (sg_ok h 45).2 q; omega)
    have e3 : σ.1 1 3 = 0 := by rw [h.2.2.2.1.2.2.1, hK]; rfl
    rw [l16_bad e3, f_M_formula_l25, s1, s2, good_0 (TK_no h).2.2.1, h.2.2.2.2.2.2.1, hK]
    rw [if_neg (c := false = true) ff_tt, if_neg (c := false = true) ff_tt, if_pos (c := true = true) rfl, if_pos (show iZ 0 = 0 from rfl), if_pos (c := true = true) rfl, e28]
    exact Or.inr ⟨_, σ, τ, rfl, rfl, TK_no h, fr_refl _ _, fr_refl _ _⟩
  | succ j ih =>
    intro i k m m' x σ τ hj hm1 hm2 hk h hx hm sx e28
    obtain ⟨m, rfl, hm1'⟩ := fuel (k := j + 2) hm1
    obtain ⟨m', rfl, hm2'⟩ := fuel (k := j + 2) hm2
    have kb := tkK_bd (T := T) (n := n) (i := i)
    by_cases hK : tkK T n i = 0
    · have s1 : f_M_isSign (43 : Int32) τ = false := ft_tt (fun q => by have := (sg_ok h 43).2 q; omega)
      have s2 : f_M_isSign (45 : Int32) τ = false := ft_tt (fun q => by have := (sg_ok h 45).2 q; omega)
      have e3 : σ.1 1 3 = 0 := by rw [h.2.2.2.1.2.2.1, hK]; rfl
      rw [l16_bad e3, f_M_formula_l25, s1, s2, good_0 (TK_no h).2.2.1, h.2.2.2.2.2.2.1, hK]
      rw [if_neg (c := false = true) ff_tt, if_neg (c := false = true) ff_tt, if_pos (c := true = true) rfl, if_pos (show iZ 0 = 0 from rfl), if_pos (c := true = true) rfl, e28]
      exact Or.inr ⟨_, σ, τ, rfl, rfl, TK_no h, fr_refl _ _, fr_refl _ _⟩
    · have l1 := tkS_lt hK
      have l2 := (tkS_bd (T := T) h.1).1
      have hn := h.2.1.2.1
      obtain ⟨σ1, τ1, n1, n2, n3, n4, n5⟩ := tk_next (show 1000 ≤ N by omega) ho h
      have pr := (tkP_bd (T := T) h.1).2.2 hK
      have x1 := XC_F (frR_F (frN1_R n4)) hx
      have m1 := MC_F (frQ_F (frN6_Q n5)) hm
      have e28' : τ1.1 66 28 = iZ x := by rw [(n5 66 28 rfl).1]; exact e28
      have c0 : ¬ (iZ (tkK T n i) = 0) := by rw [show (0 : Int32) = iZ 0 from rfl, iZ_eq ⟨by omega, by omega⟩ (bd_lit _ rfl)]; exact hK
      have nd : f_Reader_isDone σ = false := by
        unfold f_Reader_isDone
        rw [h.2.2.2.1.2.2.1, if_pos c0]
      have st := fun (mi : Bool) => fstep hc hN ho n3 x1 m1 mi sx e28' (X := fun v s => f_X_readFormula_l16 N m v (iZ ((k + 1 : Nat) : Int)) s) (Y := fun s => f_M_formula_l25 N m' s) (fun v s q => by
        obtain ⟨m, rfl, _⟩ := fuel (k := j + 1) hm1'
        exact l16_bad q _ _) (fun s q => by
        obtain ⟨m', rfl, _⟩ := fuel (k := j + 1) hm2'
        exact l25_bad q) (fun i' s t z q1 q2 q3 q4 q5 q6 => ih i' (k + 1) m m' z s t (by omega) hm1' hm2' (by omega) q2 q3 q4 q5 q6)
      rw [f_X_readFormula_l16, if_neg (show ¬ (200 : Int32) ≤ iZ (k : Int) by rw [show (200 : Int32) = iZ 200 from rfl, iZ_le (bd_lit _ rfl) ⟨by omega, by omega⟩]; omega), nd, if_neg ff_tt, (sg_ok h 45).1, (sg_ok h 43).1, i1, f_M_formula_l25, n1]
      by_cases s43 : f_M_isSign (43 : Int32) τ = true
      · have s45 : f_M_isSign (45 : Int32) τ = false := ft_tt (fun q => by
          have e1 := sg_val s43
          have e2 := sg_val q
          rw [e1] at e2; exact absurd e2 (by decide))
        rw [s43, s45, if_neg ff_tt, if_pos (c := true = true) rfl, if_pos (c := true = true) rfl, if_pos (c := true = true) rfl, n2, Option.bind_some, Option.bind_some]
        exact FRes_pre (frR_F (frN1_R n4)) (frQ_F (frN6_Q n5)) (st false)
      · rw [ft_tt s43, if_neg (c := false = true) ff_tt, if_neg (c := false = true) ff_tt]
        by_cases s45 : f_M_isSign (45 : Int32) τ = true
        · rw [s45, if_pos (c := true = true) rfl, if_pos (c := true = true) rfl, if_neg (c := false = true) ff_tt, n2, Option.bind_some, Option.bind_some]
          exact FRes_pre (frR_F (frN1_R n4)) (frQ_F (frN6_Q n5)) (st true)
        · obtain ⟨r1, r2, r3, r4⟩ := rf_ok h (p := (1 : Int32)) (by decide)
          rw [ft_tt s45, if_neg (c := false = true) ff_tt, if_neg (c := false = true) ff_tt, good_0 (TK_no h).2.2.1, if_pos (c := true = true) rfl, h.2.2.2.2.2.2.1, if_neg c0, lt_eq, lt_eq, r1, good_1 r2.2.2.1, if_neg (c := false = true) ff_tt]
          exact Or.inl ⟨_, _, _, rfl, rfl, r2, frR_F r3, frQ_F r4⟩
theorem fbody {N : Nat} (hc : CV a b M E) (hN : 10000 ≤ N) {T : Nat → Int} {n i : Nat} (ho : okT T n) {σ τ : aSt} (h : TK T n i σ τ) (hx : XC a b M E σ) (hm : MC a b M E τ) (mi : Bool) : FRes σ τ (f_X_readFormula_b10 N mi σ) (f_M_formula_b17 N (if mi = true then -1 else 1) τ) := by
  unfold f_X_readFormula_b10 f_M_formula_b17
  have hn := h.2.1.2.1
  rcases term_ok hc hN ho h hx hm mi with ⟨σ1, τ1, r, h1, h2, h3, h4, h5⟩ | ⟨σ1, τ1, w, i', h1, h2, h3, h4, h5, h6, h7⟩
  · obtain ⟨m, rfl, _⟩ := fuel (k := 0) (n := N) (by omega)
    rw [h1, h2, Option.bind_some, Option.bind_some, ssg_bad (τ := (r, τ1).2) h3.2.2.1, Option.bind_some, l16_bad (σ := (iZ (-6), σ1).2) h3.2.2.2, l25_bad (τ := s_i τ1 66 28 (1000 : Int32)) h3.2.2.1]
    exact Or.inl ⟨_, σ1, _, rfl, rfl, h3, h4, fr_trans h5 (fr28 _ _)⟩
  · have x1 := XC_F h6 hx
    have m1 := MC_F h7 hm
    have sz : scd a b M E (if mi = true then negC a b M E w else w) := by
      cases mi
      · rw [if_neg ff_tt]; exact h3
      · rw [if_pos rfl]; exact negC_scd hc
    obtain ⟨τ2, u1, u2⟩ := ssgn hc hN m1 (TK_no h4).2.2.1 (x := 1000) (Or.inl rfl) h3 mi
    have ez : addC a b M E 1000 (if mi = true then negC a b M E w else w) = (if mi = true then negC a b M E w else w) := by
      unfold addC
      rw [if_neg (by decide)]
      by_cases q : (if mi = true then negC a b M E w else w) = -6
      · rw [if_pos q, q]
      · rw [if_neg q, if_pos rfl]
    rw [ez] at u1
    rw [h1, h2, Option.bind_some, Option.bind_some, show f_M_sumSigned N (1000 : Int32) (iZ w, τ1).1 (if mi = true then -1 else 1) (iZ w, τ1).2 = some (iZ (if mi = true then negC a b M E w else w), τ2) from u1, Option.bind_some]
    refine FRes_pre h6 (fr_trans h7 (fr_trans (fr23_F u2) (fr28 _ (iZ (if mi = true then negC a b M E w else w))))) ?_
    exact floop hc hN ho n i' 0 N N _ σ1 _ (by omega) (by omega) (by omega) (by omega) (TK_28 (TK_22 (fr_refl _ _) u2 h4)) x1 (MC_F (fr28 _ _) (MC_F (fr23_F u2) m1)) sz (si_eq _ _ _ _)
/-- what the texts change -/
def frX7 : Nat → Nat → Bool := fun o k => Nat.beq o 22 || Nat.beq o 3 || (Nat.beq o 1 && (Nat.beq k 2 || Nat.beq k 3 || Nat.beq k 4 || Nat.beq k 5 || Nat.beq k 6 || Nat.beq k 7 || Nat.beq k 8))
def frM7 : Nat → Nat → Bool := fun o k => frFM o k || (Nat.beq o 66 && (Nat.beq k 11 || Nat.beq k 13))
theorem frFX_7 {σ σ' : aSt} (h : fr frFX σ σ') : fr frX7 σ σ' := fr_mono h (fun o k q => by
  revert q; unfold frX7 frFX frR
  cases Nat.beq o 1 <;> cases Nat.beq o 3 <;> cases Nat.beq o 22 <;> cases Nat.beq k 2 <;> cases Nat.beq k 3 <;> cases Nat.beq k 4 <;> cases Nat.beq k 5 <;> cases Nat.beq k 6 <;> cases Nat.beq k 7 <;> cases Nat.beq k 8 <;> decide)
theorem frFM_7 {σ σ' : aSt} (h : fr frFM σ σ') : fr frM7 σ σ' := fr_mono h (fun o k q => by
  unfold frM7 at q
  rw [Bool.or_eq_false_iff] at q
  exact q.1)
theorem bg_ok {N : Nat} (hN : 1000 ≤ N) {T : Nat → Int} {n : Nat} (ho : okT T n) {σ τ : aSt} (hx : XT T n σ) (hm : MT' T n τ) : ∃ σ1 τ1, f_Reader_begin N σ = some σ1 ∧ f_M_begins N τ = some τ1 ∧ TK T n 0 σ1 τ1 ∧ fr frR σ σ1 ∧ fr frM7 τ τ1 ∧ τ1.1 66 11 = 0 := by
  unfold f_Reader_begin f_M_begins
  obtain ⟨σ0, hσ0⟩ : ∃ s, s = s_i (s_i (s_i σ 1 7 (0 : Int32)) 1 8 (-1 : Int32)) 1 5 (0 : Int32) := ⟨_, rfl⟩
  obtain ⟨τ0, hτ0⟩ : ∃ s, s = s_i (s_i (s_i (s_i (s_i τ 66 13 (τ.1 66 11)) 66 11 (0 : Int32)) 66 14 (0 : Int32)) 66 18 (0 : Int32)) 66 19 (-1 : Int32) := ⟨_, rfl⟩
  rw [← hσ0, ← hτ0]
  have f0 : fr frR σ σ0 := by rw [hσ0]; exact fr_trans (fr_trans (fr_si rfl) (fr_si rfl)) (fr_si rfl)
  have g0 : fr frM7 τ τ0 := by rw [hτ0]; exact fr_trans (fr_trans (fr_trans (fr_trans (fr_si rfl) (fr_si rfl)) (fr_si rfl)) (fr_si rfl)) (fr_si rfl)
  have x0 : XT T n σ0 := XT_fr f0 rfl (fun _ => rfl) hx
  have m0 : MS T n τ0 := ⟨by rw [hτ0]; exact hm.1, hx.2.1, fun i hi => by rw [(g0 70 i rfl).1]; exact hm.2 i hi⟩
  obtain ⟨σ1, τ1, a1, a2, a3, a4, a5⟩ := tk_at hN ho (i := 0) (by omega) x0 m0 (by rw [hσ0]; rfl) (by rw [hτ0]; rfl) (by rw [hσ0]; rfl) (by rw [hσ0]; rfl) (by rw [hτ0]; rfl) (by rw [hτ0]; rfl)
  rw [a1, a2, Option.bind_some, Option.bind_some]
  exact ⟨σ1, τ1, rfl, rfl, a3, fr_trans f0 (frN1_R a4), fr_trans g0 (frFM_7 (frQ_F (frN6_Q a5))), by rw [(a5 66 11 rfl).1, hτ0]; rfl⟩
/-- the TAPE is empty, the faults are alike -/
def Emp (σ τ : aSt) : Prop := σ.1 1 2 = 0 ∧ τ.1 66 11 = 0 ∧ σ.1 1 7 = τ.1 66 18 ∧ σ.1 1 8 = τ.1 66 19
theorem formula_eq {N : Nat} (hc : CV a b M E) (hN : 10000 ≤ N) {T : Nat → Int} {n : Nat} (ho : okT T n) {σ τ : aSt} (hx : XT T n σ) (hm : MT' T n τ) (rx : RX a b M E σ) (rm : RM a b M E τ) : ∃ r σ' τ', f_X_formula N σ = some (r, σ') ∧ f_M_formula N τ = some (r, τ') ∧ Emp σ' τ' ∧ fr frX7 σ σ' ∧ fr frM7 τ τ' := by
  unfold f_X_formula f_M_formula
  rw [rx.1, rm.1, if_pos (c := true = true) rfl, if_pos (c := true = true) rfl]
  obtain ⟨σ1, τ1, b1, b2, b3, b4, b5, b6⟩ := bg_ok (show 1000 ≤ N by omega) ho hx hm
  rw [b1, b2, Option.bind_some, Option.bind_some]
  have x1 := XC_F (frR_F b4) rx.2
  have m1 : MC a b M E τ1 := MC_fr b5 ⟨rfl, rfl, rfl, rfl, rfl, fun _ => ⟨rfl, rfl, rfl⟩⟩ rm.2
  have key : FRes σ1 τ1 (f_X_readFormula N σ1) (if (f_M_isSign (45 : Int32) τ1) = true then ((f_M_advance N τ1).bind fun x4 => f_M_formula_b17 N (-1 : Int32) x4) else f_M_formula_b17 N (1 : Int32) τ1) := by
    unfold f_X_readFormula
    rw [(sg_ok b3 45).1]
    by_cases s45 : f_M_isSign (45 : Int32) τ1 = true
    · obtain ⟨σ2, τ2, n1, n2, n3, n4, n5⟩ := tk_next (show 1000 ≤ N by omega) ho b3
      rw [s45, if_pos (c := true = true) rfl, if_pos (c := true = true) rfl, n1, n2, Option.bind_some, Option.bind_some]
      exact FRes_pre (frR_F (frN1_R n4)) (frQ_F (frN6_Q n5)) (fbody hc hN ho n3 (XC_F (frR_F (frN1_R n4)) x1) (MC_F (frQ_F (frN6_Q n5)) m1) true)
    · rw [ft_tt s45, if_neg (c := false = true) ff_tt, if_neg (c := false = true) ff_tt]
      exact fbody hc hN ho b3 x1 m1 false
  rcases key with ⟨r, σ2, τ2, h1, h2, h3, h4, h5⟩ | ⟨r, σ2, τ2, h1, h2, h3, h4, h5⟩
  · rw [h1, h2, Option.bind_some, lt_eq]
    have e : f_Reader_faultNumber (f_Reader_cut (0 : Int32) (r, σ2).2) ≠ 0 := by
      show σ2.1 1 7 ≠ 0
      rw [h3.1]; exact h3.2.2.1
    rw [if_pos e]
    exact ⟨_, _, τ2, rfl, rfl, ⟨rfl, by rw [(h5 66 11 rfl).1]; exact b6, h3.1, h3.2.1⟩, fr_trans (frFX_7 (frR_F b4)) (fr_trans (frFX_7 h4) (fr_si rfl)), fr_trans b5 (frFM_7 h5)⟩
  · rw [h1, h2, Option.bind_some, lt_eq]
    have e : ¬ (f_Reader_faultNumber (f_Reader_cut (0 : Int32) (r, σ2).2) ≠ 0) := fun q => q h3.1
    rw [if_neg e]
    exact ⟨_, _, τ2, rfl, rfl, ⟨rfl, by rw [(h5 66 11 rfl).1]; exact b6, h3.1.trans h3.2.2.1.symm, h3.2.1.trans h3.2.2.2.symm⟩, fr_trans (frFX_7 (frR_F b4)) (fr_trans (frFX_7 h4) (fr_si rfl)), fr_trans b5 (frFM_7 h5)⟩
end FML
