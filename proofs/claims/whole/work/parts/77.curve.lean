/-! curve: what the two readers do -/
def BadC (σ τ : aSt) (x : Option (Bool × aSt)) (y : Option (Int32 × aSt)) : Prop := ∃ σ' τ', x = some (false, σ') ∧ y = some ((-4 : Int32), τ') ∧ TkF σ' τ' ∧ fr frR σ σ' ∧ fr frQ τ τ'
def NoF (σ τ : aSt) : Prop := σ.1 1 7 = 0 ∧ σ.1 1 8 = (-1 : Int32) ∧ τ.1 66 18 = 0 ∧ τ.1 66 19 = (-1 : Int32)
def bcm (N : Nat) (a b : Int) (M E : Nat) (τ : aSt) : Option (Int32 × aSt) := (f_M_becomes N (iZ a) (iZ b) (iZ M) (iZ E) (s_i τ 66 22 (0 : Int32))).bind fun x21 => some ((x21.1 66 9), x21)
def GoodC (N : Nat) (σ τ : aSt) (x : Option (Bool × aSt)) (y : Option (Int32 × aSt)) : Prop := ∃ (σ' τ' : aSt) (a b : Int) (M E : Nat), x = some (true, σ') ∧ y = bcm N a b M E τ' ∧ CVc a b M E ∧ (σ'.1 3 0 = iZ a ∧ σ'.1 3 1 = iZ b ∧ σ'.1 3 2 = iZ M ∧ σ'.1 3 3 = iZ E) ∧ NoF σ' τ' ∧ fr frR σ σ' ∧ fr frQ τ τ'
def CRes (N : Nat) (σ τ : aSt) (x : Option (Bool × aSt)) (y : Option (Int32 × aSt)) : Prop := BadC σ τ x y ∨ GoodC N σ τ x y
theorem CRes_pre {N : Nat} {σ σ1 τ τ1 : aSt} {x : Option (Bool × aSt)} {y : Option (Int32 × aSt)} (f : fr frR σ σ1) (g : fr frQ τ τ1) (h : CRes N σ1 τ1 x y) : CRes N σ τ x y := by
  rcases h with ⟨σ', τ', h1, h2, h3, h4, h5⟩ | ⟨σ', τ', a, b, M, E, h1, h2, h3, h4, h5, h6, h7⟩
  · exact Or.inl ⟨σ', τ', h1, h2, h3, fr_trans f h4, fr_trans g h5⟩
  · exact Or.inr ⟨σ', τ', a, b, M, E, h1, h2, h3, h4, h5, fr_trans f h6, fr_trans g h7⟩
theorem TK_no {T : Nat → Int} {n i : Nat} {σ τ : aSt} (h : TK T n i σ τ) : NoF σ τ := ⟨h.2.2.2.1.2.2.2.2.1, h.2.2.2.1.2.2.2.2.2, h.2.2.2.2.2.2.2.2.2.1, h.2.2.2.2.2.2.2.2.2.2⟩
theorem b83_bad {N : Nat} {τ : aSt} (h : τ.1 66 18 ≠ 0) (v1 v2 v3 v4 : Int32) : f_M_curve_b83 N v1 v2 v3 v4 τ = some ((-4 : Int32), τ) := by
  unfold f_M_curve_b83
  rw [good_1 h, if_neg ff_tt]
theorem b67_bad {N : Nat} {τ : aSt} (h : τ.1 66 18 ≠ 0) (v1 v2 v3 v4 : Int32) : f_M_curve_b67 N v1 v2 v3 v4 τ = some ((-4 : Int32), τ) := by
  unfold f_M_curve_b67 f_M_curve_b72
  rw [good_1 h, if_neg ff_tt, if_neg ff_tt, b83_bad h]
theorem b58_bad {N : Nat} {τ : aSt} (h : τ.1 66 18 ≠ 0) (v1 v2 v3 v4 : Int32) : f_M_curve_b58 N v1 v2 v3 v4 τ = some ((-4 : Int32), τ) := by
  unfold f_M_curve_b58
  rw [sg_bad h, if_neg ff_tt, er_bad h, lt_eq, b67_bad h]
theorem b38_bad {N : Nat} (hN : 1000 ≤ N) {τ : aSt} (h : τ.1 66 18 ≠ 0) (v1 v2 : Int32) : f_M_curve_b38 N v1 v2 τ = some ((-4 : Int32), τ) := by
  unfold f_M_curve_b38
  rw [wb_201 hN h, Option.bind_some, if_neg ff_tt, b58_bad h]
theorem sig_bad {N : Nat} {τ : aSt} (h : τ.1 66 18 ≠ 0) (p : Int32) : f_M_signed N p τ = some (0, s_i τ 66 20 (τ.1 66 15)) := by
  unfold f_M_signed f_M_signed_b8
  rw [sg_bad h, if_neg ff_tt, nb_bad (show (s_i τ 66 20 (τ.1 66 15)).1 66 18 ≠ 0 from h), Option.bind_some, if_neg ff_tt]
/-- the rest of the class's reading -/
def rE (N : Nat) (σ : aSt) : Option (Bool × aSt) := (f_Reader_takeEnd N σ).bind fun x10 => (if x10.1 = true then some (true, x10.2) else some (false, x10.2))
def rB (N : Nat) (σ : aSt) : Option (Bool × aSt) := (f_Reader_takeBounds N σ).bind fun x8 => (if x8.1 = true then rE N x8.2 else some (false, x8.2))
def rO (N : Nat) (σ : aSt) : Option (Bool × aSt) := (f_Reader_takeNumber N (1 : Int32) (-200 : Int32) (200 : Int32) σ).bind fun x6 => (if x6.1 = true then rB N x6.2 else some (false, x6.2))
def rN (N : Nat) (σ : aSt) : Option (Bool × aSt) := (f_Reader_takeNumber N (0 : Int32) (-60 : Int32) (60 : Int32) σ).bind fun x4 => (if x4.1 = true then rO N x4.2 else some (false, x4.2))
def rW (N : Nat) (σ : aSt) : Option (Bool × aSt) := (f_Reader_takeWord_200 N σ).bind fun x2 => (if x2.1 = true then rN N x2.2 else some (false, x2.2))
theorem rC_is (N : Nat) (σ : aSt) : f_Reader_readCurve N σ = (f_Reader_begin N σ).bind (rW N) := rfl
def mO (N : Nat) (p : Int32) (τ : aSt) : Option (Int32 × aSt) := (f_M_signed N (200 : Int32) τ).bind fun x7 => (if (f_M_good x7.2) = true then (if (f_M_isCurve p.toInt64 x7.1.toInt64) = true then f_M_curve_b38 N p x7.1 x7.2 else (lt (f_M_errs (3 : Int32) (x7.2.1 66 20) x7.2) fun x24 => f_M_curve_b38 N p x7.1 x24)) else f_M_curve_b38 N p x7.1 x7.2)
theorem b16_is (N : Nat) (τ : aSt) : f_M_curve_b16 N τ = (f_M_signed N (60 : Int32) τ).bind fun x6 => mO N x6.1 x6.2 := rfl
theorem fr20 (τ : aSt) (v : Int32) : fr frQ τ (s_i τ 66 20 v) := fr_si rfl
theorem mO_bad {N : Nat} (hN : 1000 ≤ N) {τ : aSt} (h : τ.1 66 18 ≠ 0) (p : Int32) : ∃ τ', mO N p τ = some ((-4 : Int32), τ') ∧ τ'.1 66 18 = τ.1 66 18 ∧ τ'.1 66 19 = τ.1 66 19 ∧ fr frQ τ τ' := by
  unfold mO
  have h' : (s_i τ 66 20 (τ.1 66 15)).1 66 18 ≠ 0 := h
  rw [sig_bad h, Option.bind_some, good_1 h', if_neg ff_tt, b38_bad hN h']
  exact ⟨_, rfl, rfl, rfl, fr20 _ _⟩
theorem b16_bad {N : Nat} (hN : 1000 ≤ N) {τ : aSt} (h : τ.1 66 18 ≠ 0) : ∃ τ', f_M_curve_b16 N τ = some ((-4 : Int32), τ') ∧ τ'.1 66 18 = τ.1 66 18 ∧ τ'.1 66 19 = τ.1 66 19 ∧ fr frQ τ τ' := by
  rw [b16_is, sig_bad h, Option.bind_some]
  obtain ⟨τ', g1, g2, g3, g4⟩ := mO_bad hN (τ := s_i τ 66 20 (τ.1 66 15)) h (0, s_i τ 66 20 (τ.1 66 15)).1
  exact ⟨τ', g1, g2, g3, fr_trans (fr20 _ _) g4⟩
theorem bnd_id (x : Option (Bool × aSt)) : (x.bind fun x10 => (if x10.1 = true then some (true, x10.2) else some (false, x10.2))) = x := by
  cases x with
  | none => rfl
  | some x => obtain ⟨b, s⟩ := x; cases b <;> rfl
section CUR
variable {N : Nat} {T : Nat → Int} {n i : Nat} {σ τ : aSt}
theorem cEnd (hN : 1000 ≤ N) (ho : okT T n) (h : TK T n i σ τ) {a b : Int} {M E : Nat} (hc : CVc a b M E) (hs : σ.1 3 0 = iZ a ∧ σ.1 3 1 = iZ b ∧ σ.1 3 2 = iZ M ∧ σ.1 3 3 = iZ E) : CRes N σ τ (rE N σ) (f_M_curve_b58 N (iZ a) (iZ b) (iZ M) (iZ E) τ) := by
  unfold rE
  rw [bnd_id]
  unfold f_Reader_takeEnd f_M_curve_b58
  have sg := (sg_ok h 59).1
  rw [sg]
  by_cases d : f_M_isSign (59 : Int32) τ = true
  · rw [if_pos d, if_pos d]
    obtain ⟨σ1, τ1, a1, a2, a3, a4, a5⟩ := tk_next hN ho h
    have n1 := TK_no a3
    unfold f_M_curve_b67
    rw [a1, good_0 (TK_no h).2.2.1, if_pos (c := true = true) rfl, a2, Option.bind_some, Option.bind_some]
    unfold f_M_curve_b72
    rw [good_0 n1.2.2.1, if_pos (c := true = true) rfl, a3.2.2.2.1.2.2.1, a3.2.2.2.2.2.2.1]
    obtain ⟨r1, r2, r3, r4⟩ := rf_ok a3 (p := (1 : Int32)) (by decide)
    by_cases k : iZ (tkK T n (tkP T n i)) = 0
    · rw [if_pos k, if_pos k]
      unfold f_M_curve_b83
      rw [good_0 n1.2.2.1, if_pos (c := true = true) rfl]
      exact Or.inr ⟨σ1, τ1, a, b, M, E, rfl, rfl, hc, ⟨by rw [(a4 3 0 rfl).1]; exact hs.1, by rw [(a4 3 1 rfl).1]; exact hs.2.1, by rw [(a4 3 2 rfl).1]; exact hs.2.2.1, by rw [(a4 3 3 rfl).1]; exact hs.2.2.2⟩, n1, frN1_R a4, frN6_Q a5⟩
    · rw [if_neg k, if_neg k, lt_eq, lt_eq, r1, b83_bad r2.2.2.1]
      exact Or.inl ⟨_, _, rfl, rfl, r2, fr_trans (frN1_R a4) r3, fr_trans (frN6_Q a5) r4⟩
  · obtain ⟨r1, r2, r3, r4⟩ := rf_ok h (p := (1 : Int32)) (by decide)
    rw [if_neg d, if_neg d, lt_eq, lt_eq, r1, b67_bad r2.2.2.1]
    exact Or.inl ⟨_, _, rfl, rfl, r2, r3, r4⟩
/-- a number above 0 -/
theorem tnP (hN : 1000 ≤ N) (ho : okT T n) (h : TK T n i σ τ) {k : Nat} (hk : k < 4) (hk1 : k ≠ 1) {hi : Int} (h1 : 1 ≤ hi) (h2 : hi < 99999) : (∃ σ' τ', f_Reader_takeNumber N (iZ k) (1 : Int32) (iZ hi) σ = some (false, σ') ∧ f_M_number N (1 : Int32) (iZ hi) τ = some (1, τ') ∧ TkF σ' τ' ∧ fr frR σ σ' ∧ fr frQ τ τ') ∨ (∃ v σ' τ', 1 ≤ v ∧ v ≤ hi ∧ f_Reader_takeNumber N (iZ k) (1 : Int32) (iZ hi) σ = some (true, σ') ∧ f_M_number N (1 : Int32) (iZ hi) τ = some (iZ v, τ') ∧ TK T n (tkP T n i) σ' τ' ∧ σ'.1 3 k = iZ v ∧ (∀ j, j ≠ k → σ'.1 3 j = σ.1 3 j) ∧ fr frR σ σ' ∧ fr frQ τ τ') := by
  unfold f_Reader_takeNumber f_Reader_takeNumber_b8 f_Reader_takeNumber_b9
  rw [if_pos (c := (0 : Int32) ≤ (1 : Int32)) (by decide), if_pos rfl]
  have e := tn14 (N := N) h (v1 := iZ k) (v2 := (1 : Int32)) (lo := 1) (by decide) (by omega) h2 (by omega) (by omega) false
  rw [if_neg ff_tt] at e
  rcases e with ⟨σ', τ', a1, a2, a3, a4, a5⟩ | ⟨v, v1, v2, a3, a4, a5⟩
  · exact Or.inl ⟨σ', τ', a1, a2, a3, a4, a5⟩
  · rw [if_neg ff_tt] at a4
    obtain ⟨σ', τ', b1, b2, b3, b4, b5, b6, b7⟩ := st34 hN ho h hk hk1 v
    refine Or.inr ⟨v, σ', τ', v1, v2, by rw [a4]; exact b1, ?_, b3, b4, b5, b6, b7⟩
    have : f_M_number N (1 : Int32) (iZ hi) τ = (f_M_advance N τ).bind fun x => some (iZ v, x) := a5
    rw [this, b2]; rfl
theorem cBnd (hN : 1000 ≤ N) (ho : okT T n) (h : TK T n i σ τ) {a b : Int} (ha : bd 60 a) (hb : bd 200 b) (hf : ¬ (b = 0 ∨ a * a - 4 * b = 0)) (h0 : σ.1 3 0 = iZ a) (h1 : σ.1 3 1 = iZ b) : CRes N σ τ (rB N σ) (f_M_curve_b38 N (iZ a) (iZ b) τ) := by
  have hcv : ∀ M E : Nat, 1 ≤ M → M ≤ 1000 → 1 ≤ E → E ≤ 6 → CVc a b M E := fun M E q1 q2 q3 q4 => ⟨ha, hb, fun q => hf (Or.inl q), fun q => hf (Or.inr q), q1, q2, q3, q4⟩
  unfold rB f_Reader_takeBounds f_M_curve_b38
  have s1 : f_store σ 3 (2 : Int32) (200 : Int32) = sto σ 2 200 := sto_ok (k := 2) (by decide) 200
  rw [s1, lt_eq]
  have s2 : f_store (sto σ 2 200) 3 (3 : Int32) (4 : Int32) = sto (sto σ 2 200) 3 4 := sto_ok (k := 3) (by decide) 4
  rw [s2, lt_eq]
  obtain ⟨σ1, hσ1⟩ : ∃ σ1, σ1 = sto (sto σ 2 200) 3 4 := ⟨_, rfl⟩
  have t1 : TK T n i σ1 τ := by rw [hσ1]; exact sto_TK (sto_TK h _ _) _ _
  have f1 : fr frR σ σ1 := by rw [hσ1]; exact fr_trans (sto_R _) (sto_R _)
  have e0 : σ1.1 3 0 = iZ a := by rw [hσ1]; exact h0
  have e1 : σ1.1 3 1 = iZ b := by rw [hσ1]; exact h1
  have e2 : σ1.1 3 2 = iZ ((200 : Nat) : Int) := by rw [hσ1]; rfl
  have e3 : σ1.1 3 3 = iZ ((4 : Nat) : Int) := by rw [hσ1]; rfl
  rw [← hσ1]
  refine CRes_pre f1 (fr_refl _ _) ?_
  obtain ⟨bb, w1, w2, w3⟩ := wd_201 hN ho t1
  rw [w1, w2, Option.bind_some, Option.bind_some]
  cases bb
  · rw [if_neg ff_tt, if_neg ff_tt, Option.bind_some, if_pos (c := (true, σ1).1 = true) rfl]
    exact cEnd hN ho t1 (hcv 200 4 (by omega) (by omega) (by omega) (by omega)) ⟨e0, e1, e2, e3⟩
  · rw [if_pos (c := true = true) rfl, if_pos (c := true = true) rfl]
    obtain ⟨σ2, τ2, a1, a2, a3, a4, a5⟩ := tk_next hN ho t1
    rw [a1, a2, Option.bind_some, Option.bind_some]
    refine CRes_pre (frN1_R a4) (frN6_Q a5) ?_
    rcases tnP (N := N) hN ho a3 (k := 2) (by decide) (by decide) (hi := 1000) (by decide) (by decide) with ⟨σ3, τ3, b1, b2, b3, b4, b5⟩ | ⟨v, σ3, τ3, v1, v2, b1, b2, b3, b4, b5, b6, b7⟩
    · have b1' : f_Reader_takeNumber N (2 : Int32) (1 : Int32) (1000 : Int32) σ2 = some (false, σ3) := b1
      have b2' : f_M_number N (1 : Int32) (1000 : Int32) τ2 = some (1, τ3) := b2
      rw [b1', b2', Option.bind_some, Option.bind_some, if_neg (c := (false, σ3).1 = true) ff_tt]
      show CRes N σ2 τ2 _ ((f_M_number N (1 : Int32) (6 : Int32) τ3).bind _)
      rw [nb_bad b3.2.2.1, Option.bind_some, Option.bind_some, b58_bad b3.2.2.1]
      exact Or.inl ⟨σ3, τ3, rfl, rfl, b3, b4, b5⟩
    · have b1' : f_Reader_takeNumber N (2 : Int32) (1 : Int32) (1000 : Int32) σ2 = some (true, σ3) := b1
      have b2' : f_M_number N (1 : Int32) (1000 : Int32) τ2 = some (iZ v, τ3) := b2
      rw [b1', b2', Option.bind_some, Option.bind_some, if_pos (c := (true, σ3).1 = true) rfl]
      refine CRes_pre b6 b7 ?_
      rcases tnP (N := N) hN ho b3 (k := 3) (by decide) (by decide) (hi := 6) (by decide) (by decide) with ⟨σ4, τ4, d1, d2, d3, d4, d5⟩ | ⟨w, σ4, τ4, u1, u2, d1, d2, d3, d4, d5, d6, d7⟩
      · have d1' : f_Reader_takeNumber N (3 : Int32) (1 : Int32) (6 : Int32) σ3 = some (false, σ4) := d1
        have d2' : f_M_number N (1 : Int32) (6 : Int32) τ3 = some (1, τ4) := d2
        show CRes N σ3 τ3 ((Option.bind (f_Reader_takeNumber N (3 : Int32) (1 : Int32) (6 : Int32) σ3) _).bind _) ((f_M_number N (1 : Int32) (6 : Int32) τ3).bind _)
        rw [d1', d2', Option.bind_some, Option.bind_some, if_neg (c := (false, σ4).1 = true) ff_tt, b58_bad d3.2.2.1]
        exact Or.inl ⟨σ4, τ4, rfl, rfl, d3, d4, d5⟩
      · have d1' : f_Reader_takeNumber N (3 : Int32) (1 : Int32) (6 : Int32) σ3 = some (true, σ4) := d1
        have d2' : f_M_number N (1 : Int32) (6 : Int32) τ3 = some (iZ w, τ4) := d2
        show CRes N σ3 τ3 ((Option.bind (f_Reader_takeNumber N (3 : Int32) (1 : Int32) (6 : Int32) σ3) _).bind _) ((f_M_number N (1 : Int32) (6 : Int32) τ3).bind _)
        rw [d1', d2', Option.bind_some, Option.bind_some, if_pos (c := (true, σ4).1 = true) rfl, Option.bind_some, if_pos (c := (true, σ4).1 = true) rfl]
        refine CRes_pre d6 d7 ?_
        obtain ⟨M, hM⟩ : ∃ M : Nat, v = M := ⟨v.toNat, by omega⟩
        obtain ⟨E, hE⟩ : ∃ E : Nat, w = E := ⟨w.toNat, by omega⟩
        subst hM; subst hE
        exact cEnd hN ho d3 (hcv M E (by omega) (by omega) (by omega) (by omega)) ⟨by rw [d5 0 (by decide), b5 0 (by decide), (a4 3 0 rfl).1]; exact e0, by rw [d5 1 (by decide), b5 1 (by decide), (a4 3 1 rfl).1]; exact e1, by rw [d5 2 (by decide)]; exact b4, d4⟩
/-- a number with its sign -/
theorem tnS (hN : 1000 ≤ N) (ho : okT T n) (h : TK T n i σ τ) {hi : Int} (h1 : 0 ≤ hi) (h2 : hi < 99999) {v1 lo : Int32} (hlo : ¬ (0 : Int32) ≤ lo) (hm : imax (0 : Int32) lo = iZ 0) : (∃ σ' τ' w, f_Reader_takeNumber N v1 lo (iZ hi) σ = some (false, σ') ∧ f_M_signed N (iZ hi) τ = some (w, τ') ∧ TkF σ' τ' ∧ fr frR σ σ' ∧ fr frQ τ τ') ∨ (∃ i' σ1 τ2 z, bd hi z ∧ TK T n i' σ1 τ2 ∧ τ2.1 66 20 = iZ (tkS T n i') ∧ f_Reader_takeNumber N v1 lo (iZ hi) σ = f_Reader_takeNumber_b34 N v1 v1 (iZ z) σ1 ∧ f_M_signed N (iZ hi) τ = ((f_M_advance N τ2).bind fun x => some (iZ z, x)) ∧ (∀ j, σ1.1 3 j = σ.1 3 j) ∧ fr frR σ σ1 ∧ fr frQ τ τ2) := by
  obtain ⟨i', σ1, τ1, b, t1, f1, g1, e1, e2, e3⟩ : ∃ (i' : Nat) (σ1 τ1 : aSt) (b : Bool), TK T n i' σ1 τ1 ∧ fr frR σ σ1 ∧ fr frQ τ τ1 ∧ f_Reader_takeNumber N v1 lo (iZ hi) σ = f_Reader_takeNumber_b14 N v1 lo (iZ hi) (if b = true then 1 else 0) σ1 ∧ f_M_signed N (iZ hi) τ = f_M_signed_b8 N (iZ hi) b τ1 ∧ (∀ j, σ1.1 3 j = σ.1 3 j) := by
    unfold f_Reader_takeNumber f_M_signed
    rw [if_neg hlo, (sg_ok h 45).1]
    by_cases d : f_M_isSign (45 : Int32) τ = true
    · obtain ⟨σ1, τ1, a1, a2, a3, a4, a5⟩ := tk_next hN ho h
      rw [if_pos d, if_pos d, d, a2, Option.bind_some]
      unfold f_Reader_takeNumber_b9
      rw [if_neg (by decide), a1, Option.bind_some]
      exact ⟨_, σ1, τ1, true, a3, frN1_R a4, frN6_Q a5, rfl, rfl, fun j => (a4 3 j rfl).1⟩
    · rw [if_neg d, if_neg d]
      have d' : f_M_isSign (45 : Int32) τ = false := by cases q : f_M_isSign (45 : Int32) τ with | false => rfl | true => exact absurd q d
      unfold f_Reader_takeNumber_b8 f_Reader_takeNumber_b9
      rw [if_pos rfl, d']
      exact ⟨i, σ, τ, false, h, fr_refl _ _, fr_refl _ _, rfl, rfl, fun _ => rfl⟩
  have y1 : τ1.1 66 15 = iZ (tkS T n i') := t1.2.2.2.2.1
  obtain ⟨τ2, hτ2⟩ : ∃ τ2, τ2 = s_i τ1 66 20 (τ1.1 66 15) := ⟨_, rfl⟩
  have g2 : fr frQ τ1 τ2 := by rw [hτ2]; exact fr20 _ _
  have t2 : TK T n i' σ1 τ2 := TK_fr (S := fun _ _ => false) (R := fun o k => Nat.beq o 66 && Nat.beq k 20) (fr_refl _ _) (by rw [hτ2]; exact fr_si rfl) (fun _ _ => rfl) (fun _ => rfl) (fun k k1 k2 => by
    show (Nat.beq 66 66 && Nat.beq k 20) = false
    rw [beqN (show k ≠ 20 by omega)]; rfl) (fun _ => rfl) t1
  have e20 : τ2.1 66 20 = iZ (tkS T n i') := by rw [hτ2, si_eq]; exact y1
  have e8 : f_M_signed_b8 N (iZ hi) b τ1 = ((f_M_number N (0 : Int32) (iZ hi) τ2).bind fun x3 => (if b = true then some ((-x3.1), x3.2) else some (x3.1, x3.2))) := by rw [hτ2]; rfl
  rw [e1, e2, e8]
  rcases tn14 (N := N) t2 (v1 := v1) (v2 := lo) (lo := 0) hm (by omega) h2 (by omega) (by omega) b with ⟨σ', τ', a1, a2, a3, a4, a5⟩ | ⟨v, v1', v2', a3, a4, a5⟩
  · have a2' : f_M_number N (0 : Int32) (iZ hi) τ2 = some (iZ 0, τ') := a2
    rw [a2', Option.bind_some]
    cases b
    · exact Or.inl ⟨σ', τ', _, a1, rfl, a3, fr_trans f1 a4, fr_trans g1 (fr_trans g2 a5)⟩
    · exact Or.inl ⟨σ', τ', _, a1, rfl, a3, fr_trans f1 a4, fr_trans g1 (fr_trans g2 a5)⟩
  · have a5' : f_M_number N (0 : Int32) (iZ hi) τ2 = ((f_M_advance N τ2).bind fun x => some (iZ v, x)) := a5
    refine Or.inr ⟨i', σ1, τ2, if b = true then -v else v, ?_, t2, e20, a4, ?_, e3, f1, fr_trans g1 g2⟩
    · cases b
      · exact ⟨by rw [if_neg ff_tt]; omega, by rw [if_neg ff_tt]; omega⟩
      · exact ⟨by rw [if_pos rfl]; omega, by rw [if_pos rfl]; omega⟩
    · rw [a5']
      cases f_M_advance N τ2 with
      | none => rfl
      | some x =>
        cases b
        · rfl
        · show some (-iZ v, x) = some (iZ (-v), x)
          rw [iZ_neg]
theorem cOne (hN : 1000 ≤ N) (ho : okT T n) (h : TK T n i σ τ) {a : Int} (ha : bd 60 a) (h0 : σ.1 3 0 = iZ a) : CRes N σ τ (rO N σ) (mO N (iZ a) τ) := by
  unfold rO mO
  rcases tnS (N := N) hN ho h (hi := 200) (v1 := (1 : Int32)) (lo := (-200 : Int32)) (by decide) (by decide) (by decide) (by decide) with ⟨σ', τ', w, a1, a2, a3, a4, a5⟩ | ⟨i', σ1, τ2, z, hz, t2, e20, a1, a2, a3, a4, a5⟩
  · have a1' : f_Reader_takeNumber N (1 : Int32) (-200 : Int32) (200 : Int32) σ = some (false, σ') := a1
    have a2' : f_M_signed N (200 : Int32) τ = some (w, τ') := a2
    rw [a1', a2', Option.bind_some, Option.bind_some, if_neg (c := (false, σ').1 = true) ff_tt, good_1 (τ := (w, τ').2) a3.2.2.1, if_neg ff_tt, b38_bad hN (τ := (w, τ').2) a3.2.2.1]
    exact Or.inl ⟨σ', τ', rfl, rfl, a3, a4, a5⟩
  · have a1' : f_Reader_takeNumber N (1 : Int32) (-200 : Int32) (200 : Int32) σ = f_Reader_takeNumber_b34 N (1 : Int32) (1 : Int32) (iZ z) σ1 := a1
    have a2' : f_M_signed N (200 : Int32) τ = ((f_M_advance N τ2).bind fun x => some (iZ z, x)) := a2
    obtain ⟨σ', τ', b1, b2, b3, b4, b5⟩ := st34b hN ho t2 ha hz (by rw [a3 0]; exact h0) e20
    rw [a1', a2', b1, Option.bind_some, Option.bind_some, good_0 (τ := (iZ z, τ').2) b4, if_pos (c := true = true) rfl]
    simp only [mcur_ok ha hz]
    rcases b5 with ⟨d, c1, c2⟩ | ⟨d, c1, c2, c3, c4⟩
    · rw [if_neg (fun q => q d), c1, lt_eq, b38_bad hN c2.2.2.1, Option.bind_some]
      refine CRes_pre a4 a5 (Or.inl ⟨σ', _, rfl, rfl, c2, b2, fr_trans b3 ?_⟩)
      unfold f_M_errs
      rw [good_0 b4, if_pos rfl]
      exact fr_trans (fr_si rfl) (fr_si rfl)
    · rw [if_pos d, c1, Option.bind_some]
      exact CRes_pre (fr_trans a4 b2) (fr_trans a5 b3) (cBnd hN ho c2 ha hz d (by rw [c4 0 (by decide), a3 0]; exact h0) c3)
theorem cNum (hN : 1000 ≤ N) (ho : okT T n) (h : TK T n i σ τ) : CRes N σ τ (rN N σ) (f_M_curve_b16 N τ) := by
  rw [b16_is]
  unfold rN
  rcases tnS (N := N) hN ho h (hi := 60) (v1 := (0 : Int32)) (lo := (-60 : Int32)) (by decide) (by decide) (by decide) (by decide) with ⟨σ', τ', w, a1, a2, a3, a4, a5⟩ | ⟨i', σ1, τ2, z, hz, t2, e20, a1, a2, a3, a4, a5⟩
  · have a1' : f_Reader_takeNumber N (0 : Int32) (-60 : Int32) (60 : Int32) σ = some (false, σ') := a1
    have a2' : f_M_signed N (60 : Int32) τ = some (w, τ') := a2
    obtain ⟨τ3, c1, c2, c3, c4⟩ := mO_bad hN a3.2.2.1 w
    rw [a1', a2', Option.bind_some, Option.bind_some, if_neg (c := (false, σ').1 = true) ff_tt]
    exact Or.inl ⟨σ', τ3, rfl, c1, ⟨by rw [c2]; exact a3.1, by rw [c3]; exact a3.2.1, by rw [c2]; exact a3.2.2.1, a3.2.2.2⟩, a4, fr_trans a5 c4⟩
  · have a1' : f_Reader_takeNumber N (0 : Int32) (-60 : Int32) (60 : Int32) σ = f_Reader_takeNumber_b34 N (iZ ((0 : Nat) : Int)) (iZ ((0 : Nat) : Int)) (iZ z) σ1 := a1
    have a2' : f_M_signed N (60 : Int32) τ = ((f_M_advance N τ2).bind fun x => some (iZ z, x)) := a2
    obtain ⟨σ', τ', b1, b2, b3, b4, b5, b6, b7⟩ := st34 hN ho t2 (k := 0) (by decide) (by decide) z
    rw [a1', a2', b1, b2, Option.bind_some, Option.bind_some, Option.bind_some, if_pos (c := (true, σ').1 = true) rfl]
    exact CRes_pre (fr_trans a4 b6) (fr_trans a5 b7) (cOne hN ho b3 hz b4)
theorem cWrd (hN : 1000 ≤ N) (ho : okT T n) (h : TK T n i σ τ) : CRes N σ τ (rW N σ) ((f_M_isWord_200 N τ).bind fun x2 => (if x2 = true then f_M_curve_b11 N τ else (lt (f_M_errs (1 : Int32) (τ.1 66 15) τ) fun x25 => f_M_curve_b11 N x25))) := by
  unfold rW f_Reader_takeWord_200
  obtain ⟨bb, w1, w2, w3⟩ := wd_200 hN ho h
  rw [w1, w2, Option.bind_some, Option.bind_some]
  unfold f_M_curve_b11
  cases bb
  · obtain ⟨r1, r2, r3, r4⟩ := rf_ok h (p := (1 : Int32)) (by decide)
    obtain ⟨τ3, c1, c2, c3, c4⟩ := b16_bad hN r2.2.2.1
    rw [if_neg ff_tt, if_neg ff_tt, lt_eq, lt_eq, r1, good_1 r2.2.2.1, if_neg ff_tt, c1]
    exact Or.inl ⟨_, τ3, rfl, rfl, ⟨by rw [c2]; exact r2.1, by rw [c3]; exact r2.2.1, by rw [c2]; exact r2.2.2.1, r2.2.2.2⟩, r3, fr_trans r4 c4⟩
  · obtain ⟨σ1, τ1, a1, a2, a3, a4, a5⟩ := tk_next hN ho h
    rw [if_pos (c := true = true) rfl, if_pos (c := true = true) rfl, a1, good_0 (TK_no h).2.2.1, if_pos (c := true = true) rfl, a2, Option.bind_some, Option.bind_some, Option.bind_some, if_pos (c := (true, σ1).1 = true) rfl]
    exact CRes_pre (frN1_R a4) (frN6_Q a5) (cNum hN ho a3)
end CUR
