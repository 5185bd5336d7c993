/-! a sign, a number, a fault: both programs -/
theorem sg_ok {T : Nat → Int} {n i : Nat} {σ τ : aSt} (h : TK T n i σ τ) (p : Int32) : f_Reader_isByte p σ = f_M_isSign p τ ∧ (f_M_isSign p τ = true → tkK T n i = 3) := by
  obtain ⟨hi, hx, hm, ⟨x1, x2, x3, x4, x5, x6⟩, ⟨y1, y2, y3, y4, y5, y6, y7⟩⟩ := h
  have hn := hx.2.1
  have kb := tkK_bd (T := T) (n := n) (i := i)
  have sb := tkS_bd (T := T) hi
  unfold f_Reader_isByte f_M_isSign
  rw [good_0 y6, if_pos (c := true = true) rfl, x3, y3, x1]
  have c3 : (iZ (tkK T n i) ≠ (3 : Int32)) = (tkK T n i ≠ 3) := by rw [ne_eq, show (3 : Int32) = iZ 3 from rfl, iZ_eq ⟨by omega, by omega⟩ (bd_lit _ rfl)]
  simp only [c3]
  by_cases d : tkK T n i = 3
  · rw [if_neg (c := tkK T n i ≠ 3) (fun q => q d), if_neg (c := tkK T n i ≠ 3) (fun q => q d), byteAt_ok hx (by omega), tpb_in (tkS_lt (by omega)), y5 d]
    exact ⟨rfl, fun _ => d⟩
  · rw [if_pos d, if_pos d]
    exact ⟨rfl, fun q => by cases q⟩
theorem sg_bad {τ : aSt} (h : τ.1 66 18 ≠ 0) (p : Int32) : f_M_isSign p τ = false := by
  unfold f_M_isSign
  rw [good_1 h, if_neg ff_tt]
theorem er_bad {τ : aSt} (h : τ.1 66 18 ≠ 0) (p q : Int32) : f_M_errs p q τ = τ := by
  unfold f_M_errs
  rw [good_1 h, if_neg ff_tt]
theorem rf_ok {T : Nat → Int} {n i : Nat} {σ τ : aSt} (h : TK T n i σ τ) {p : Int32} (hp : p ≠ 0) : f_Reader_refuse p σ = (false, (f_Reader_refuse p σ).2) ∧ TkF (f_Reader_refuse p σ).2 (f_M_errs p (τ.1 66 15) τ) ∧ fr frR σ (f_Reader_refuse p σ).2 ∧ fr frQ τ (f_M_errs p (τ.1 66 15) τ) := by
  obtain ⟨hi, hx, hm, ⟨x1, x2, x3, x4, x5, x6⟩, ⟨y1, y2, y3, y4, y5, y6, y7⟩⟩ := h
  unfold f_Reader_refuse f_M_errs
  rw [good_0 y6, if_pos (c := true = true) rfl, x5, if_neg (fun q => q rfl), x1, y1]
  exact ⟨rfl, ⟨rfl, rfl, hp, rfl⟩, fr_trans (fr_trans (fr_si rfl) (fr_si rfl)) (fr_si rfl), fr_trans (fr_si rfl) (fr_si rfl)⟩
theorem nb_bad {N : Nat} {τ : aSt} (h : τ.1 66 18 ≠ 0) (p q : Int32) : f_M_number N p q τ = some (p, τ) := by
  unfold f_M_number f_M_number_b12
  rw [good_1 h, if_neg ff_tt, if_neg ff_tt, if_neg ff_tt]
theorem ft_ok {N : Nat} {T : Nat → Int} {n i : Nat} {σ τ : aSt} (h : TK T n i σ τ) {lo hi : Int} (h0 : 0 ≤ lo) (h1 : hi < 99999) (h2 : lo ≤ 99999) (h3 : -10 ≤ hi) : (∃ σ' τ', f_Reader_fits (iZ lo) (iZ hi) σ = (false, σ') ∧ f_M_number N (iZ lo) (iZ hi) τ = some (iZ lo, τ') ∧ TkF σ' τ' ∧ fr frR σ σ' ∧ fr frQ τ τ') ∨ (∃ v, lo ≤ v ∧ v ≤ hi ∧ tkK T n i = 2 ∧ σ.1 1 6 = iZ v ∧ f_Reader_fits (iZ lo) (iZ hi) σ = (true, σ) ∧ f_M_number N (iZ lo) (iZ hi) τ = (f_M_advance N τ).bind fun x => some (iZ v, x)) := by
  obtain ⟨r1, r2, r3, r4⟩ := rf_ok h (p := (1 : Int32)) (by decide)
  obtain ⟨s1, s2, s3, s4⟩ := rf_ok h (p := (2 : Int32)) (by decide)
  obtain ⟨hi', hx, hm, ⟨x1, x2, x3, x4, x5, x6⟩, ⟨y1, y2, y3, y4, y5, y6, y7⟩⟩ := h
  have kb := tkK_bd (T := T) (n := n) (i := i)
  have lb := tkL_bd (T := T) (n := n) (i := i)
  unfold f_Reader_fits f_M_number
  rw [good_0 y6, if_pos (c := true = true) rfl, x3, y3]
  have c2 : (iZ (tkK T n i) = (2 : Int32)) = (tkK T n i = 2) := by rw [show (2 : Int32) = iZ 2 from rfl, iZ_eq ⟨by omega, by omega⟩ (bd_lit _ rfl)]
  simp only [c2, lt_eq]
  by_cases d : tkK T n i = 2
  · rw [if_pos d, if_pos d, x4 d]
    unfold f_M_number_b12
    rw [good_0 y6, if_pos (c := true = true) rfl, y4 d, i2j (z := lo) ⟨by omega, by omega⟩, i2j (z := hi) ⟨by omega, by omega⟩, in_iZ ⟨by omega, by omega⟩ ⟨by omega, by omega⟩ ⟨by omega, by omega⟩, ite_dec, if_pos (c := true = true) rfl, lt_eq]
    have q1 : (iZ (tkL T n i) < iZ lo) = (tkL T n i < lo) := iZ_lt ⟨by omega, by omega⟩ ⟨by omega, by omega⟩
    have q2 : (iZ (tkL T n i) ≤ iZ hi) = (tkL T n i ≤ hi) := iZ_le ⟨by omega, by omega⟩ ⟨by omega, by omega⟩
    simp only [q1, q2]
    have bad : ¬ (lo ≤ min 99999 (tkL T n i) ∧ min 99999 (tkL T n i) ≤ hi) → (∃ τ', (if lo ≤ min 99999 (tkL T n i) ∧ min 99999 (tkL T n i) ≤ hi then (f_M_advance N τ).bind fun x6 => some (iZ (min 99999 (tkL T n i)), x6) else if f_M_good (f_M_errs 2 (τ.1 66 15) τ) = true then (f_M_advance N (f_M_errs 2 (τ.1 66 15) τ)).bind fun x9 => some ((f_M_errs 2 (τ.1 66 15) τ).1 66 17, x9) else some (iZ lo, f_M_errs 2 (τ.1 66 15) τ)) = some (iZ lo, τ') ∧ TkF (f_Reader_refuse 2 σ).2 τ' ∧ fr frQ τ τ') := fun c => by
      rw [if_neg c, good_1 s2.2.2.1, if_neg ff_tt]
      exact ⟨_, rfl, s2, s4⟩
    by_cases l1 : tkL T n i < lo
    · rw [if_pos l1, s1]
      obtain ⟨τ', b1, b2, b3⟩ := bad (by omega)
      exact Or.inl ⟨_, τ', by rw [if_neg ff_tt], b1, b2, s3, b3⟩
    · rw [if_neg l1]
      by_cases l2 : tkL T n i ≤ hi
      · rw [if_pos l2, if_pos (c := lo ≤ min 99999 (tkL T n i) ∧ min 99999 (tkL T n i) ≤ hi) (by omega)]
        refine Or.inr ⟨tkL T n i, by omega, l2, d, rfl, rfl, ?_⟩
        rw [show min 99999 (tkL T n i) = tkL T n i by omega]
      · rw [if_neg l2, s1]
        obtain ⟨τ', b1, b2, b3⟩ := bad (by omega)
        exact Or.inl ⟨_, τ', by rw [if_neg ff_tt], b1, b2, s3, b3⟩
  · rw [if_neg d, if_neg d, r1]
    refine Or.inl ⟨_, _, rfl, ?_, r2, r3, r4⟩
    unfold f_M_number_b12
    rw [good_1 r2.2.2.1, if_neg ff_tt, if_neg ff_tt]
/-- a number is taken: what b14 of the class and number of the reference do -/
theorem tn14 {N : Nat} {T : Nat → Int} {n i : Nat} {σ τ : aSt} (h : TK T n i σ τ) {lo hi : Int} {v1 v2 : Int32} (hv : imax (0 : Int32) v2 = iZ lo) (h0 : 0 ≤ lo) (h1 : hi < 99999) (h2 : lo ≤ 99999) (h3 : -10 ≤ hi) (b : Bool) : (∃ σ' τ', f_Reader_takeNumber_b14 N v1 v2 (iZ hi) (if b = true then 1 else 0) σ = some (false, σ') ∧ f_M_number N (iZ lo) (iZ hi) τ = some (iZ lo, τ') ∧ TkF σ' τ' ∧ fr frR σ σ' ∧ fr frQ τ τ') ∨ (∃ v, lo ≤ v ∧ v ≤ hi ∧ tkK T n i = 2 ∧ f_Reader_takeNumber_b14 N v1 v2 (iZ hi) (if b = true then 1 else 0) σ = f_Reader_takeNumber_b34 N v1 v1 (iZ (if b = true then -v else v)) σ ∧ f_M_number N (iZ lo) (iZ hi) τ = (f_M_advance N τ).bind fun x => some (iZ v, x)) := by
  unfold f_Reader_takeNumber_b14
  rw [hv, lt_eq]
  rcases ft_ok (N := N) h h0 h1 h2 h3 with ⟨σ', τ', a1, a2, a3, a4, a5⟩ | ⟨v, a1, a2, a3, a4, a5, a6⟩
  · rw [a1]
    exact Or.inl ⟨σ', τ', rfl, a2, a3, a4, a5⟩
  · rw [a5]
    refine Or.inr ⟨v, a1, a2, a3, ?_, a6⟩
    cases b
    · rw [if_pos (c := (true, σ).1 = true) rfl, if_neg ff_tt, if_pos rfl, if_neg ff_tt]
      show f_Reader_takeNumber_b34 N v1 v1 (σ.1 1 6) σ = _
      rw [a4]
    · rw [if_pos (c := (true, σ).1 = true) rfl, if_pos (c := true = true) rfl, if_neg (by decide), if_pos (c := true = true) rfl]
      show f_Reader_takeNumber_b34 N v1 v1 (-(σ.1 1 6)) σ = _
      rw [a4, iZ_neg]
/-- the number is stored -/
def sto (σ : aSt) (k : Nat) (z : Int) : aSt := s_i σ 3 k (iZ z)
theorem sto_ok {σ : aSt} {k : Nat} (hk : k < 4) (z : Int) : f_store σ 3 (iZ k) (iZ z) = sto σ k z := by
  rw [store_in (by decide) (by decide) (by omega) (by show (k : Int) < ((4 : Nat) : Int); omega), Int.toNat_natCast]; rfl
theorem sto_TK {T : Nat → Int} {n i : Nat} {σ τ : aSt} (h : TK T n i σ τ) (k : Nat) (z : Int) : TK T n i (sto σ k z) τ :=
  TK_fr (S := fun o _ => Nat.beq o 3) (R := fun _ _ => false) (fr_si rfl) (fr_refl _ _) (fun _ _ => rfl) (fun _ => rfl) (fun _ _ _ => rfl) (fun _ => rfl) h
theorem sto_R {σ : aSt} {k : Nat} (z : Int) : fr frR σ (sto σ k z) := fr_si (by unfold frR; simp)
theorem st34 {N : Nat} (hN : 1000 ≤ N) {T : Nat → Int} {n i : Nat} (ho : okT T n) {σ τ : aSt} (h : TK T n i σ τ) {k : Nat} (hk : k < 4) (hk1 : k ≠ 1) (z : Int) : ∃ σ' τ', f_Reader_takeNumber_b34 N (iZ k) (iZ k) (iZ z) σ = some (true, σ') ∧ f_M_advance N τ = some τ' ∧ TK T n (tkP T n i) σ' τ' ∧ σ'.1 3 k = iZ z ∧ (∀ j, j ≠ k → σ'.1 3 j = σ.1 3 j) ∧ fr frR σ σ' ∧ fr frQ τ τ' := by
  obtain ⟨σ', τ', a1, a2, a3, a4, a5⟩ := tk_next hN ho (sto_TK h k z)
  unfold f_Reader_takeNumber_b34
  rw [sto_ok hk, lt_eq, if_pos (by rw [ne_eq, show (1 : Int32) = iZ 1 from rfl, iZ_eq ⟨by omega, by omega⟩ (bd_lit _ rfl)]; omega), a1, Option.bind_some]
  exact ⟨σ', τ', rfl, a2, a3, by rw [(a4 3 k rfl).1]; exact si_eq _ _ _ _, fun j hj => by rw [(a4 3 j rfl).1]; exact si_ne (Or.inr hj), fr_trans (sto_R z) (frN1_R a4), frN6_Q a5⟩
theorem flat_ok {σ : aSt} {a z : Int} (h0 : σ.1 3 0 = iZ a) (h1 : σ.1 3 1 = iZ z) (ha : bd 60 a) (hz : bd 200 z) : (f_Reader_isFlat σ = true) = (z = 0 ∨ a * a - 4 * z = 0) := by
  have haa := bd_mul ha ha
  have := haa.1; have := haa.2; have := hz.1; have := hz.2
  have e0 : f_Reader_number (0 : Int32) σ = iZ a := by
    unfold f_Reader_number
    rw [show (0 : Int32) = iZ 0 from rfl, pick_in (by decide) (by decide) (by omega) (by decide)]; exact h0
  have e1 : f_Reader_number (1 : Int32) σ = iZ z := by
    unfold f_Reader_number
    rw [show (1 : Int32) = iZ 1 from rfl, pick_in (by decide) (by decide) (by omega) (by decide)]; exact h1
  unfold f_Reader_isFlat
  rw [e0, e1, show (4 : Int32) = iZ 4 from rfl, iZ_mul, iZ_mul, iZ_sub]
  have c1 : (iZ z = 0) = (z = 0) := by rw [show (0 : Int32) = iZ 0 from rfl, iZ_eq ⟨by omega, by omega⟩ (bd_lit _ rfl)]
  have c2 : (iZ (a * a - 4 * z) ≠ 0) = (a * a - 4 * z ≠ 0) := by rw [ne_eq, show (0 : Int32) = iZ 0 from rfl, iZ_eq ⟨by omega, by omega⟩ (bd_lit _ rfl)]
  simp only [c1, c2]
  by_cases d1 : z = 0
  · rw [if_pos d1]; exact propext ⟨fun _ => Or.inl d1, fun _ => rfl⟩
  · rw [if_neg d1]
    by_cases d2 : a * a - 4 * z = 0
    · rw [if_neg (fun q => q d2)]; exact propext ⟨fun _ => Or.inr d2, fun _ => rfl⟩
    · rw [if_pos d2]; exact propext ⟨fun q => absurd q ff_tt, fun q => by rcases q with q | q; exact absurd q d1; exact absurd q d2⟩
theorem mcur_ok {a z : Int} (ha : bd 60 a) (hz : bd 200 z) : (f_M_isCurve (iZ a).toInt64 (iZ z).toInt64 = true) = ¬ (z = 0 ∨ a * a - 4 * z = 0) := by
  have haa := bd_mul ha ha
  have := haa.1; have := haa.2; have := hz.1; have := hz.2; have := ha.1; have := ha.2
  unfold f_M_isCurve
  rw [i2j ⟨by omega, by omega⟩, i2j ⟨by omega, by omega⟩, jZ_mul, show (4 : Int64) = jZ 4 from rfl, jZ_mul]
  have c1 : (jZ z = 0) = (z = 0) := by rw [show (0 : Int64) = jZ 0 from rfl, jZ_eq ⟨by omega, by omega⟩ (bd_lit _ rfl)]
  have c2 : (jZ (a * a) = jZ (4 * z)) = (a * a = 4 * z) := by rw [jZ_eq ⟨by omega, by omega⟩ ⟨by omega, by omega⟩]
  simp only [c1, c2]
  by_cases d1 : z = 0
  · rw [if_pos d1]; exact propext ⟨fun q => (by cases q), fun q => absurd (Or.inl d1) q⟩
  · rw [if_neg d1]
    by_cases d2 : a * a = 4 * z
    · rw [if_pos d2]; exact propext ⟨fun q => (by cases q), fun q => absurd (Or.inr (by omega)) q⟩
    · rw [if_neg d2]; exact propext ⟨fun _ q => by rcases q with q | q; exact d1 q; omega, fun _ => rfl⟩
/-- .. the second number, where the curve may be none -/
theorem st34b {N : Nat} (hN : 1000 ≤ N) {T : Nat → Int} {n i : Nat} (ho : okT T n) {σ τ : aSt} (h : TK T n i σ τ) {a z : Int} (ha : bd 60 a) (hz : bd 200 z) (h0 : σ.1 3 0 = iZ a) (h20 : τ.1 66 20 = iZ (tkS T n i)) : ∃ σ' τ', f_M_advance N τ = some τ' ∧ fr frR σ σ' ∧ fr frQ τ τ' ∧ τ'.1 66 18 = 0 ∧ (((z = 0 ∨ a * a - 4 * z = 0) ∧ f_Reader_takeNumber_b34 N (1 : Int32) (1 : Int32) (iZ z) σ = some (false, σ') ∧ TkF σ' (f_M_errs (3 : Int32) (τ'.1 66 20) τ')) ∨ (¬ (z = 0 ∨ a * a - 4 * z = 0) ∧ f_Reader_takeNumber_b34 N (1 : Int32) (1 : Int32) (iZ z) σ = some (true, σ') ∧ TK T n (tkP T n i) σ' τ' ∧ σ'.1 3 1 = iZ z ∧ (∀ j, j ≠ 1 → σ'.1 3 j = σ.1 3 j))) := by
  obtain ⟨σ', τ', a1, a2, a3, a4, a5⟩ := tk_next hN ho (sto_TK h 1 z)
  have e18 : τ'.1 66 18 = 0 := a3.2.2.2.2.2.2.2.2.2.1
  have fl := flat_ok (σ := sto σ 1 z) (a := a) (z := z) h0 (si_eq _ _ _ _) ha hz
  unfold f_Reader_takeNumber_b34
  have es : f_store σ 3 (1 : Int32) (iZ z) = sto σ 1 z := sto_ok (k := 1) (by decide) z
  rw [es, lt_eq, if_neg (fun q => q rfl)]
  simp only [fl]
  by_cases d : (z = 0 ∨ a * a - 4 * z = 0)
  · obtain ⟨r1, r2, r3, r4⟩ := rf_ok (sto_TK h 1 z) (p := (3 : Int32)) (by decide)
    rw [if_pos d, lt_eq, r1]
    refine ⟨(f_Reader_refuse 3 (sto σ 1 z)).2, τ', a2, fr_trans (sto_R z) r3, frN6_Q a5, e18, Or.inl ⟨d, rfl, ?_⟩⟩
    have e20 : τ'.1 66 20 = iZ (tkS T n i) := by rw [(a5 66 20 rfl).1]; exact h20
    have x := h.2.2.2.1
    obtain ⟨x1, x2, x3, x4, x5, x6⟩ := x
    unfold f_Reader_refuse f_M_errs
    rw [good_0 e18, if_pos (c := true = true) rfl, e20, show (sto σ 1 z).1 1 7 = 0 from x5, if_neg (fun q => q rfl), show (sto σ 1 z).1 1 4 = iZ (tkS T n i) from x1]
    exact ⟨rfl, rfl, (by decide : (3 : Int32) ≠ 0), rfl⟩
  · rw [if_neg d, a1, Option.bind_some]
    exact ⟨σ', τ', a2, fr_trans (sto_R z) (frN1_R a4), frN6_Q a5, e18, Or.inr ⟨d, rfl, a3, by rw [(a4 3 1 rfl).1]; exact si_eq _ _ _ _, fun j hj => by rw [(a4 3 j rfl).1]; exact si_ne (Or.inr hj)⟩⟩
