/-! CLASSES: classes, classOf, rank -/
def frCQ : Nat → Nat → Bool := fun o k => frX_41 o k || frX_49 o k
theorem fr41_Q {σ σ' : aSt} (h : fr frX_41 σ σ') : fr frCQ σ σ' := fr_mono h (fun o k q => (Bool.or_eq_false_iff.mp q).1)
theorem fr49_Q {σ σ' : aSt} (h : fr frX_49 σ σ') : fr frCQ σ σ' := fr_mono h (fun o k q => (Bool.or_eq_false_iff.mp q).2)
theorem KT49_41 {σ σ' : aSt} (h : fr frX_41 σ σ') (hk : KT_49 σ) : KT_49 σ' := KT_49_fr h rfl rfl rfl (fun _ => rfl) (fun _ => rfl) (fun _ => rfl) (fun _ => rfl) (fun _ => rfl) (fun _ => rfl) (fun _ => rfl) hk
theorem KT41_49 {σ σ' : aSt} (h : fr frX_49 σ σ') (hk : KT_41 σ) : KT_41 σ' := KT_41_fr h rfl rfl rfl (fun _ => rfl) (fun _ => rfl) (fun _ => rfl) (fun _ => rfl) (fun _ => rfl) (fun _ => rfl) (fun _ => rfl) hk
theorem XT41_49 {A B : Int} {σ σ' : aSt} (h : fr frX_49 σ σ') (hk : XTb_41 A B σ) : XTb_41 A B σ' := XTb_41_fr h rfl rfl rfl (fun _ => rfl) (fun _ => rfl) (fun _ => rfl) (fun _ => rfl) (fun _ => rfl) (fun _ => rfl) (fun _ => rfl) hk
theorem CM_Q {σ σ' : aSt} (h : fr frCQ σ σ') (hk : CM σ) : CM σ' := CM_fr h (fun _ => rfl) (fun _ => rfl) (fun _ => rfl) hk
section CLS
variable {a b : Int} {M E : Nat}
/-- a and b of a side -/
def sA (a : Int) (s : Nat) : Int := if s = 0 then a else -2 * a
def sB (a b : Int) (s : Nat) : Int := if s = 0 then b else a * a - 4 * b
theorem VC_s (h : CVc a b M E) (s : Nat) : VC (sA a s) (sB a b s) := by
  unfold sA sB
  by_cases c : s = 0
  · rw [if_pos c, if_pos c]; exact VC_0 h
  · rw [if_neg c, if_neg c]; exact VC_1 h.1 h.2.1 h.2.2.1 h.2.2.2.1
theorem side0_ok {N : Nat} (hc : CVc a b M E) (hN : 10000 ≤ N) {σ : aSt} (hx : XC a b M E σ) (hM : CM σ) (h1 : KT_41 σ) : ∃ σ', f_ClassTable_prepare_41 N (f_PointList_a_11 σ) (f_PointList_b_11 σ) σ = some σ' ∧ XTb_41 a b σ' ∧ fr frX_41 σ σ' := by
  unfold f_PointList_a_11 f_PointList_b_11
  rw [hx.2.1, hx.2.2.1]
  exact prep_41 hN (VC_0 hc) hM h1
theorem side1_ok {N : Nat} (hc : CVc a b M E) (hN : 10000 ≤ N) {σ : aSt} (hx : XC a b M E σ) (hM : CM σ) (h1 : KT_49 σ) : ∃ σ', f_ClassTable_prepare_49 N ((-2 : Int32) * (f_PointList_a_11 σ)) (f_X_besideB σ) σ = some σ' ∧ XTb_49 (-2 * a) (a * a - 4 * b) σ' ∧ fr frX_49 σ σ' := by
  unfold f_X_besideB f_PointList_a_11 f_PointList_b_11
  rw [hx.2.1, hx.2.2.1, show (-2 : Int32) = iZ (-2) from by decide, show (4 : Int32) = iZ 4 from rfl, iZ_mul, iZ_mul, iZ_mul, iZ_sub]
  exact prep_49 hN (VC_1 hc.1 hc.2.1 hc.2.2.1 hc.2.2.2.1) hM h1
theorem mside {N : Nat} (hc : CVc a b M E) (hN : 10000 ≤ N) {τ : aSt} (hm : MC a b M E τ) (s : Nat) (hs : s < 2) : ∃ τ', f_M_laysSide N (iZ (s : Int)) τ = some τ' ∧ MTb (sA a s) (sB a b s) τ' ∧ fr frSi τ τ' := by
  have hv := VC_s hc s
  refine laysS hN hc.1 hc.2.1 (iZ (s : Int)) hm.2.1 hm.2.2.1 ?_ ?_ (cd_len hv)
  · unfold sA
    by_cases c : s = 0
    · subst c; rfl
    · have e : s = 1 := by omega
      subst e; rfl
  · unfold sB
    by_cases c : s = 0
    · subst c; rfl
    · have e : s = 1 := by omega
      subst e; rfl
theorem p_of {p : Int32} {k : Nat} (h : p.toInt = (k : Int)) : p = iZ (k : Int) := by rw [← h, iZ_self]
theorem sd2 {p : Int32} (h : 0 ≤ p.toInt ∧ p.toInt ≤ 1) : p = iZ ((0 : Nat) : Int) ∨ p = iZ ((1 : Nat) : Int) := by
  rcases (show p.toInt = ((0 : Nat) : Int) ∨ p.toInt = ((1 : Nat) : Int) by omega) with e | e
  · exact Or.inl (p_of e)
  · exact Or.inr (p_of e)
theorem classes_eq {N : Nat} (hc : CVc a b M E) (hN : 10000 ≤ N) {σ τ : aSt} (hx : RX a b M E σ) (hm : RM a b M E τ) (hM : CM σ) (h1 : KT_41 σ) (h2 : KT_49 σ) (p q : Int32) : ∃ r σ' τ', f_X_classes N p q σ = some (r, σ') ∧ f_M_classes N p q τ = some (r, τ') ∧ KT_41 σ' ∧ KT_49 σ' ∧ fr frCQ σ σ' ∧ fr frSi τ τ' := by
  unfold f_X_classes f_M_classes
  rw [hx.1, hm.1, if_pos rfl, if_pos rfl, show (0 : Int64) = jZ 0 from rfl, show (1 : Int64) = jZ 1 from rfl, show (3 : Int64) = jZ 3 from rfl, in_p (bd_lit _ rfl) (bd_lit _ rfl), in_p (bd_lit _ rfl) (bd_lit _ rfl), ite_dec, ite_dec]
  have same : ∃ r σ' τ', some ((-2 : Int32), σ) = some (r, σ') ∧ some ((-2 : Int32), τ) = some (r, τ') ∧ KT_41 σ' ∧ KT_49 σ' ∧ fr frCQ σ σ' ∧ fr frSi τ τ' := ⟨_, σ, τ, rfl, rfl, h1, h2, fr_refl _ _, fr_refl _ _⟩
  have c0 : (p < 0) = (p.toInt < 0) := by rw [show (0 : Int32) = iZ 0 from rfl, pl_lt (bd_lit _ rfl)]
  have c1 : ((1 : Int32) < p) = (1 < p.toInt) := by rw [show (1 : Int32) = iZ 1 from rfl, pl_gt (bd_lit _ rfl)]
  have c2 : (q < 0) = (q.toInt < 0) := by rw [show (0 : Int32) = iZ 0 from rfl, pl_lt (bd_lit _ rfl)]
  have c3 : (q ≤ (3 : Int32)) = (q.toInt ≤ 3) := by rw [show (3 : Int32) = iZ 3 from rfl, pl_le (bd_lit _ rfl)]
  simp only [c0, c1, c2, c3]
  by_cases d1 : 0 ≤ p.toInt ∧ p.toInt ≤ 1
  · rw [if_neg (show ¬ p.toInt < 0 by omega), if_neg (show ¬ 1 < p.toInt by omega), if_pos (c := 0 ≤ p.toInt ∧ p.toInt ≤ 1) d1]
    by_cases d2 : 0 ≤ q.toInt ∧ q.toInt ≤ 3
    · rw [if_neg (show ¬ q.toInt < 0 by omega), if_pos (show q.toInt ≤ 3 by omega), if_pos (c := 0 ≤ q.toInt ∧ q.toInt ≤ 3) d2]
      have eq : q = iZ ((q.toInt.toNat : Nat) : Int) := p_of (by omega)
      have hw : q.toInt.toNat < 4 := by omega
      generalize q.toInt.toNat = w at eq hw
      subst eq
      rcases sd2 d1 with e | e
      · subst e
        obtain ⟨τ', m1, m2, m3⟩ := mside hc hN hm.2 0 (by omega)
        obtain ⟨σ', x1, x2, x3⟩ := side0_ok hc hN hx.2 hM h1
        unfold f_X_side
        rw [if_neg (show ¬ iZ ((0 : Nat) : Int) ≠ 0 from fun z => z rfl), x1, m1, Option.bind_some, Option.bind_some, Option.bind_some, manyOf_k hN (cd_len (VC_s hc 0)) m2 hw, Option.bind_some]
        show ∃ r σ'' τ'', (if 41 = 41 then some ((f_ClassTable_tally_41 (iZ (w : Int)) σ'), σ') else _) = some (r, σ'') ∧ _ ∧ _
        rw [if_pos rfl, tly_41 x2 hw]
        exact ⟨_, σ', τ', rfl, rfl, Or.inr ⟨_, _, x2⟩, KT49_41 x3 h2, fr41_Q x3, m3⟩
      · subst e
        obtain ⟨τ', m1, m2, m3⟩ := mside hc hN hm.2 1 (by omega)
        obtain ⟨σ', x1, x2, x3⟩ := side1_ok hc hN hx.2 hM h2
        unfold f_X_side
        rw [if_pos (show iZ ((1 : Nat) : Int) ≠ 0 by decide), x1, m1, Option.bind_some, Option.bind_some, Option.bind_some, manyOf_k hN (cd_len (VC_s hc 1)) m2 hw, Option.bind_some]
        show ∃ r σ'' τ'', (if 49 = 41 then _ else (if 49 = 49 then some ((f_ClassTable_tally_49 (iZ (w : Int)) σ'), σ') else none)) = some (r, σ'') ∧ _ ∧ _
        rw [if_neg (by decide), if_pos rfl, tly_49 x2 hw]
        exact ⟨_, σ', τ', rfl, rfl, KT41_49 x3 h1, Or.inr ⟨_, _, x2⟩, fr49_Q x3, m3⟩
    · rw [if_neg (c := 0 ≤ q.toInt ∧ q.toInt ≤ 3) d2]
      by_cases d3 : q.toInt < 0
      · rw [if_pos d3]; exact same
      · rw [if_neg d3, if_neg (by omega)]; exact same
  · rw [if_neg (c := 0 ≤ p.toInt ∧ p.toInt ≤ 1) d1]
    by_cases d3 : p.toInt < 0
    · rw [if_pos d3]; exact same
    · rw [if_neg d3, if_pos (by omega)]; exact same
/-- what classOf tells of a CLASS -/
def cOf (p2 : Int32) (dv : Int32) (fo po ma : Bool) (fm fe : Int32) : Int64 := if p2 = (0 : Int32) then dv.toInt64 else if p2 = (1 : Int32) then (if fo = true then 1 else 0) else if p2 = (2 : Int32) then (if po = true then 1 else 0) else if p2 = (3 : Int32) then (if ma = true then 1 else 0) else if p2 = (4 : Int32) then (if fo = true then fm.toInt64 else (-9223372036854775808 : Int64)) else (if fo = true then fe.toInt64 else (-9223372036854775808 : Int64))
theorem cOf_c (p2 : Int32) (dv : Int32) (fo po ma : Bool) (fm fe : Int32) (σ : aSt) : (if p2 = (0 : Int32) then some (dv.toInt64, σ) else (if p2 = (1 : Int32) then (if fo = true then some ((1 : Int64), σ) else some ((0 : Int64), σ)) else (if p2 = (2 : Int32) then (if po = true then some ((1 : Int64), σ) else some ((0 : Int64), σ)) else (if p2 = (3 : Int32) then (if ma = true then some ((1 : Int64), σ) else some ((0 : Int64), σ)) else (if p2 = (4 : Int32) then (if fo = true then some (fm.toInt64, σ) else some ((-9223372036854775808 : Int64), σ)) else (if fo = true then some (fe.toInt64, σ) else some ((-9223372036854775808 : Int64), σ))))))) = some (cOf p2 dv fo po ma fm fe, σ) := by
  unfold cOf
  by_cases h0 : p2 = 0
  · rw [if_pos h0, if_pos h0]
  rw [if_neg h0, if_neg h0]
  by_cases h1 : p2 = 1
  · rw [if_pos h1, if_pos h1]; cases fo <;> rfl
  rw [if_neg h1, if_neg h1]
  by_cases h2 : p2 = 2
  · rw [if_pos h2, if_pos h2]; cases po <;> rfl
  rw [if_neg h2, if_neg h2]
  by_cases h3 : p2 = 3
  · rw [if_pos h3, if_pos h3]; cases ma <;> rfl
  rw [if_neg h3, if_neg h3]
  by_cases h4 : p2 = 4
  · rw [if_pos h4, if_pos h4]; cases fo <;> rfl
  rw [if_neg h4, if_neg h4]
  cases fo <;> rfl
theorem cOf_eq {p2 : Int32} {dv : Int32} {fo po ma : Bool} {fm fe fm' fe' : Int32} (h : fo = true → fm = fm' ∧ fe = fe') : cOf p2 dv fo po ma fm fe = cOf p2 dv fo po ma fm' fe' := by
  cases fo with
  | false => unfold cOf; simp only [Bool.false_eq_true, if_false]
  | true =>
    obtain ⟨h1, h2⟩ := h rfl
    rw [h1, h2]
/-- the reference, a CLASS seen -/
theorem mcOf {A B : Int} {τ : aSt} (hL : (cdN B.natAbs).length ≤ 32) (h : MTb A B τ) {k : Nat} (hk : k < 2 * (cdN B.natAbs).length) (p2 : Int32) : (if p2 = (0 : Int32) then (if 0 ≤ iZ (k : Int) ∧ iZ (k : Int) < (64 : Int32) then some ((τ.1 73 (iZ (k : Int)).toNatClampNeg).toInt64, τ) else none) else (if p2 = (1 : Int32) then (if 0 ≤ iZ (k : Int) ∧ iZ (k : Int) < (64 : Int32) then (if (τ.2.2 74 (iZ (k : Int)).toNatClampNeg) = true then some ((1 : Int64), τ) else some ((0 : Int64), τ)) else none) else (if p2 = (2 : Int32) then (if 0 ≤ iZ (k : Int) ∧ iZ (k : Int) < (64 : Int32) then (if (τ.2.2 77 (iZ (k : Int)).toNatClampNeg) = true then some ((1 : Int64), τ) else some ((0 : Int64), τ)) else none) else (if p2 = (3 : Int32) then (if 0 ≤ iZ (k : Int) ∧ iZ (k : Int) < (64 : Int32) then (if (τ.2.2 78 (iZ (k : Int)).toNatClampNeg) = true then some ((1 : Int64), τ) else some ((0 : Int64), τ)) else none) else (if p2 = (4 : Int32) then (if 0 ≤ iZ (k : Int) ∧ iZ (k : Int) < (64 : Int32) then (if (τ.2.2 74 (iZ (k : Int)).toNatClampNeg) = true then some ((τ.1 75 (iZ (k : Int)).toNatClampNeg).toInt64, τ) else some ((-9223372036854775808 : Int64), τ)) else none) else (if 0 ≤ iZ (k : Int) ∧ iZ (k : Int) < (64 : Int32) then (if (τ.2.2 74 (iZ (k : Int)).toNatClampNeg) = true then some ((τ.1 76 (iZ (k : Int)).toNatClampNeg).toInt64, τ) else some ((-9223372036854775808 : Int64), τ)) else none)))))) = some (cOf p2 (iZ (dvK (cdN B.natAbs) k)) (fdK A B (cdN B.natAbs) k) (psK A B (cdN B.natAbs) k) (mdB A B k) (τ.1 75 k) (τ.1 76 k), τ) := by
  obtain ⟨h1, h2, h3⟩ := h
  obtain ⟨⟨r1, r2, r3⟩, r4⟩ := h3 k hk
  have r4' : τ.2.2 78 k = mdB A B k := bool_eq (r4.trans mdB_iff.symm)
  have ci : (0 ≤ iZ (k : Int) ∧ iZ (k : Int) < (64 : Int32)) = True := by
    apply propext
    rw [show (0 : Int32) = iZ 0 from rfl, show (64 : Int32) = iZ 64 from rfl, iZ_le (bd_lit _ rfl) ⟨by omega, by omega⟩, iZ_lt ⟨by omega, by omega⟩ (bd_lit _ rfl)]
    exact ⟨fun _ => trivial, fun _ => by omega⟩
  simp only [ci, if_true]
  rw [iZ_idx (by omega) (by omega), Int.toNat_natCast, h2.2.2 k hk, r1, r3, r4']
  exact cOf_c p2 _ _ _ _ _ _ τ
noncomputable def clB (A B : Int) (k q : Int32) (fm fe : Int32) : Int64 := if 0 ≤ k.toInt ∧ k.toInt < ((2 * (cdN B.natAbs).length : Nat) : Int) then cOf q (iZ (dvK (cdN B.natAbs) k.toInt.toNat)) (fdK A B (cdN B.natAbs) k.toInt.toNat) (psK A B (cdN B.natAbs) k.toInt.toNat) (mdB A B k.toInt.toNat) fm fe else (-9223372036854775808 : Int64)
theorem clB_eq {A B : Int} {k q fm fe fm' fe' : Int32} (h : k.toInt.toNat < 2 * (cdN B.natAbs).length → ∀ m e, sqF A B (dvK (cdN B.natAbs) k.toInt.toNat) = some (m, e) → 0 ≤ k.toInt → fm = iZ ((m : Nat) : Int) ∧ fe = iZ ((e : Nat) : Int)) (h' : k.toInt.toNat < 2 * (cdN B.natAbs).length → ∀ m e, sqF A B (dvK (cdN B.natAbs) k.toInt.toNat) = some (m, e) → 0 ≤ k.toInt → fm' = iZ ((m : Nat) : Int) ∧ fe' = iZ ((e : Nat) : Int)) : clB A B k q fm fe = clB A B k q fm' fe' := by
  unfold clB
  by_cases g : 0 ≤ k.toInt ∧ k.toInt < ((2 * (cdN B.natAbs).length : Nat) : Int)
  · rw [if_pos g, if_pos g]
    refine cOf_eq (fun hf => ?_)
    unfold fdK at hf
    cases hq : sqF A B (dvK (cdN B.natAbs) k.toInt.toNat) with
    | none => rw [hq] at hf; exact absurd hf ff_tt
    | some me =>
      obtain ⟨m, e⟩ := me
      have f1 := h (by omega) m e hq g.1
      have f2 := h' (by omega) m e hq g.1
      exact ⟨by rw [f1.1, f2.1], by rw [f1.2, f2.2]⟩
  · rw [if_neg g, if_neg g]
def xIn_41 (k q : Int32) (σ : aSt) : Option (Int64 × aSt) := (if k < 0 then some ((-9223372036854775808 : Int64), σ) else (if k < (f_ClassTable_size_41 σ) then (if q = (0 : Int32) then some ((f_ClassTable_divisor_41 k σ).toInt64, σ) else (if q = (1 : Int32) then (if (f_ClassTable_isFound_41 k σ) = true then some ((1 : Int64), σ) else some ((0 : Int64), σ)) else (if q = (2 : Int32) then (if (f_ClassTable_isPossible_41 k σ) = true then some ((1 : Int64), σ) else some ((0 : Int64), σ)) else (if q = (3 : Int32) then (if (f_ClassTable_isMade_41 k σ) = true then some ((1 : Int64), σ) else some ((0 : Int64), σ)) else (if q = (4 : Int32) then (if (f_ClassTable_isFound_41 k σ) = true then some ((f_ClassTable_firstM_41 k σ).toInt64, σ) else some ((-9223372036854775808 : Int64), σ)) else (if (f_ClassTable_isFound_41 k σ) = true then some ((f_ClassTable_firstE_41 k σ).toInt64, σ) else some ((-9223372036854775808 : Int64), σ))))))) else some ((-9223372036854775808 : Int64), σ)))
theorem xIn_41_ok {A B : Int} {σ : aSt} (hL : (cdN B.natAbs).length ≤ 32) (h : XTb_41 A B σ) (k q : Int32) : ∃ fm fe, xIn_41 k q σ = some (clB A B k q fm fe, σ) ∧ (k.toInt.toNat < 2 * (cdN B.natAbs).length → ∀ m e, sqF A B (dvK (cdN B.natAbs) k.toInt.toNat) = some (m, e) → 0 ≤ k.toInt → fm = iZ ((m : Nat) : Int) ∧ fe = iZ ((e : Nat) : Int)) := by
  have ck : (k < 0) = (k.toInt < 0) := by rw [show (0 : Int32) = iZ 0 from rfl, pl_lt (bd_lit _ rfl)]
  have ck2 : (k < iZ ((2 * (cdN B.natAbs).length : Nat) : Int)) = (k.toInt < ((2 * (cdN B.natAbs).length : Nat) : Int)) := pl_lt ⟨by omega, by omega⟩
  refine ⟨f_ClassTable_firstM_41 k σ, f_ClassTable_firstE_41 k σ, ?_, fun hk m e hq h0 => ?_⟩
  · unfold xIn_41 clB
    rw [sz_41 h]
    by_cases g : 0 ≤ k.toInt ∧ k.toInt < ((2 * (cdN B.natAbs).length : Nat) : Int)
    · rw [if_neg (c := k < 0) (by rw [ck]; omega), if_pos (c := k < iZ ((2 * (cdN B.natAbs).length : Nat) : Int)) (by rw [ck2]; omega), if_pos g]
      have ek : k = iZ ((k.toInt.toNat : Nat) : Int) := p_of (by omega)
      have hk : k.toInt.toNat < 2 * (cdN B.natAbs).length := by omega
      generalize k.toInt.toNat = i at ek hk
      subst ek
      rw [cOf_c, dvs_41 h hk, ifd_41 h hk, ips_41 h hk, imd_41 h hk]
    · rw [if_neg g]
      by_cases g2 : k.toInt < 0
      · rw [if_pos (c := k < 0) (by rw [ck]; exact g2)]
      · rw [if_neg (c := k < 0) (by rw [ck]; exact g2), if_neg (c := k < iZ ((2 * (cdN B.natAbs).length : Nat) : Int)) (by rw [ck2]; omega)]
  · have ek : k = iZ ((k.toInt.toNat : Nat) : Int) := p_of (by omega)
    generalize k.toInt.toNat = i at ek hk hq
    subst ek
    exact fst_41 h hk hq
def xIn_49 (k q : Int32) (σ : aSt) : Option (Int64 × aSt) := (if k < 0 then some ((-9223372036854775808 : Int64), σ) else (if k < (f_ClassTable_size_49 σ) then (if q = (0 : Int32) then some ((f_ClassTable_divisor_49 k σ).toInt64, σ) else (if q = (1 : Int32) then (if (f_ClassTable_isFound_49 k σ) = true then some ((1 : Int64), σ) else some ((0 : Int64), σ)) else (if q = (2 : Int32) then (if (f_ClassTable_isPossible_49 k σ) = true then some ((1 : Int64), σ) else some ((0 : Int64), σ)) else (if q = (3 : Int32) then (if (f_ClassTable_isMade_49 k σ) = true then some ((1 : Int64), σ) else some ((0 : Int64), σ)) else (if q = (4 : Int32) then (if (f_ClassTable_isFound_49 k σ) = true then some ((f_ClassTable_firstM_49 k σ).toInt64, σ) else some ((-9223372036854775808 : Int64), σ)) else (if (f_ClassTable_isFound_49 k σ) = true then some ((f_ClassTable_firstE_49 k σ).toInt64, σ) else some ((-9223372036854775808 : Int64), σ))))))) else some ((-9223372036854775808 : Int64), σ)))
theorem xIn_49_ok {A B : Int} {σ : aSt} (hL : (cdN B.natAbs).length ≤ 32) (h : XTb_49 A B σ) (k q : Int32) : ∃ fm fe, xIn_49 k q σ = some (clB A B k q fm fe, σ) ∧ (k.toInt.toNat < 2 * (cdN B.natAbs).length → ∀ m e, sqF A B (dvK (cdN B.natAbs) k.toInt.toNat) = some (m, e) → 0 ≤ k.toInt → fm = iZ ((m : Nat) : Int) ∧ fe = iZ ((e : Nat) : Int)) := by
  have ck : (k < 0) = (k.toInt < 0) := by rw [show (0 : Int32) = iZ 0 from rfl, pl_lt (bd_lit _ rfl)]
  have ck2 : (k < iZ ((2 * (cdN B.natAbs).length : Nat) : Int)) = (k.toInt < ((2 * (cdN B.natAbs).length : Nat) : Int)) := pl_lt ⟨by omega, by omega⟩
  refine ⟨f_ClassTable_firstM_49 k σ, f_ClassTable_firstE_49 k σ, ?_, fun hk m e hq h0 => ?_⟩
  · unfold xIn_49 clB
    rw [sz_49 h]
    by_cases g : 0 ≤ k.toInt ∧ k.toInt < ((2 * (cdN B.natAbs).length : Nat) : Int)
    · rw [if_neg (c := k < 0) (by rw [ck]; omega), if_pos (c := k < iZ ((2 * (cdN B.natAbs).length : Nat) : Int)) (by rw [ck2]; omega), if_pos g]
      have ek : k = iZ ((k.toInt.toNat : Nat) : Int) := p_of (by omega)
      have hk : k.toInt.toNat < 2 * (cdN B.natAbs).length := by omega
      generalize k.toInt.toNat = i at ek hk
      subst ek
      rw [cOf_c, dvs_49 h hk, ifd_49 h hk, ips_49 h hk, imd_49 h hk]
    · rw [if_neg g]
      by_cases g2 : k.toInt < 0
      · rw [if_pos (c := k < 0) (by rw [ck]; exact g2)]
      · rw [if_neg (c := k < 0) (by rw [ck]; exact g2), if_neg (c := k < iZ ((2 * (cdN B.natAbs).length : Nat) : Int)) (by rw [ck2]; omega)]
  · have ek : k = iZ ((k.toInt.toNat : Nat) : Int) := p_of (by omega)
    generalize k.toInt.toNat = i at ek hk hq
    subst ek
    exact fst_49 h hk hq
def mIn (k q : Int32) (τ : aSt) : Option (Int64 × aSt) := (if (f_M_in k.toInt64 (0 : Int64) ((τ.1 66 46) - (1 : Int32)).toInt64) = true then (if q = (0 : Int32) then (if 0 ≤ k ∧ k < (64 : Int32) then some ((τ.1 73 k.toNatClampNeg).toInt64, τ) else none) else (if q = (1 : Int32) then (if 0 ≤ k ∧ k < (64 : Int32) then (if (τ.2.2 74 k.toNatClampNeg) = true then some ((1 : Int64), τ) else some ((0 : Int64), τ)) else none) else (if q = (2 : Int32) then (if 0 ≤ k ∧ k < (64 : Int32) then (if (τ.2.2 77 k.toNatClampNeg) = true then some ((1 : Int64), τ) else some ((0 : Int64), τ)) else none) else (if q = (3 : Int32) then (if 0 ≤ k ∧ k < (64 : Int32) then (if (τ.2.2 78 k.toNatClampNeg) = true then some ((1 : Int64), τ) else some ((0 : Int64), τ)) else none) else (if q = (4 : Int32) then (if 0 ≤ k ∧ k < (64 : Int32) then (if (τ.2.2 74 k.toNatClampNeg) = true then some ((τ.1 75 k.toNatClampNeg).toInt64, τ) else some ((-9223372036854775808 : Int64), τ)) else none) else (if 0 ≤ k ∧ k < (64 : Int32) then (if (τ.2.2 74 k.toNatClampNeg) = true then some ((τ.1 76 k.toNatClampNeg).toInt64, τ) else some ((-9223372036854775808 : Int64), τ)) else none)))))) else some ((-9223372036854775808 : Int64), τ))
theorem inK {A B : Int} {τ : aSt} (hL : (cdN B.natAbs).length ≤ 32) (h : MTb A B τ) (k : Int32) : f_M_in k.toInt64 (0 : Int64) ((τ.1 66 46) - (1 : Int32)).toInt64 = decide (0 ≤ k.toInt ∧ k.toInt < ((2 * (cdN B.natAbs).length : Nat) : Int)) := by
  rw [h.2.1.1, show (1 : Int32) = iZ 1 from rfl, iZ_sub, i2j ⟨by omega, by omega⟩, show (0 : Int64) = jZ 0 from rfl, in_p (bd_lit _ rfl) ⟨by omega, by omega⟩]
  congr 1
  apply propext
  omega
theorem mIn_ok {A B : Int} {τ : aSt} (hL : (cdN B.natAbs).length ≤ 32) (h : MTb A B τ) (k q : Int32) : ∃ fm fe, mIn k q τ = some (clB A B k q fm fe, τ) ∧ (k.toInt.toNat < 2 * (cdN B.natAbs).length → ∀ m e, sqF A B (dvK (cdN B.natAbs) k.toInt.toNat) = some (m, e) → 0 ≤ k.toInt → fm = iZ ((m : Nat) : Int) ∧ fe = iZ ((e : Nat) : Int)) := by
  refine ⟨τ.1 75 k.toInt.toNat, τ.1 76 k.toInt.toNat, ?_, fun hk m e hq h0 => (h.2.2 _ hk).1.2.1 m e hq⟩
  unfold mIn clB
  rw [inK hL h, ite_dec]
  by_cases g : 0 ≤ k.toInt ∧ k.toInt < ((2 * (cdN B.natAbs).length : Nat) : Int)
  · rw [if_pos (c := 0 ≤ k.toInt ∧ k.toInt < ((2 * (cdN B.natAbs).length : Nat) : Int)) g, if_pos (c := 0 ≤ k.toInt ∧ k.toInt < ((2 * (cdN B.natAbs).length : Nat) : Int)) g]
    have ek : k = iZ ((k.toInt.toNat : Nat) : Int) := p_of (by omega)
    have hk : k.toInt.toNat < 2 * (cdN B.natAbs).length := by omega
    generalize k.toInt.toNat = i at ek hk
    subst ek
    exact mcOf hL h hk q
  · rw [if_neg (c := 0 ≤ k.toInt ∧ k.toInt < ((2 * (cdN B.natAbs).length : Nat) : Int)) g, if_neg (c := 0 ≤ k.toInt ∧ k.toInt < ((2 * (cdN B.natAbs).length : Nat) : Int)) g]
theorem classOf_eq {N : Nat} (hc : CVc a b M E) (hN : 10000 ≤ N) {σ τ : aSt} (hx : RX a b M E σ) (hm : RM a b M E τ) (hM : CM σ) (h1 : KT_41 σ) (h2 : KT_49 σ) (p k q : Int32) : ∃ r σ' τ', f_X_classOf N p k q σ = some (r, σ') ∧ f_M_classOf N p k q τ = some (r, τ') ∧ KT_41 σ' ∧ KT_49 σ' ∧ fr frCQ σ σ' ∧ fr frSi τ τ' := by
  have same : ∃ r σ' τ', some ((-9223372036854775808 : Int64), σ) = some (r, σ') ∧ some ((-9223372036854775808 : Int64), τ) = some (r, τ') ∧ KT_41 σ' ∧ KT_49 σ' ∧ fr frCQ σ σ' ∧ fr frSi τ τ' := ⟨_, σ, τ, rfl, rfl, h1, h2, fr_refl _ _, fr_refl _ _⟩
  have c0 : (p < 0) = (p.toInt < 0) := by rw [show (0 : Int32) = iZ 0 from rfl, pl_lt (bd_lit _ rfl)]
  have c1 : ((1 : Int32) < p) = (1 < p.toInt) := by rw [show (1 : Int32) = iZ 1 from rfl, pl_gt (bd_lit _ rfl)]
  have c2 : (q < 0) = (q.toInt < 0) := by rw [show (0 : Int32) = iZ 0 from rfl, pl_lt (bd_lit _ rfl)]
  have c3 : (q ≤ (5 : Int32)) = (q.toInt ≤ 5) := by rw [show (5 : Int32) = iZ 5 from rfl, pl_le (bd_lit _ rfl)]
  have eX : f_X_classOf N p k q σ = (if (σ.2.2 0 13) = true then (if p < 0 then some ((-9223372036854775808 : Int64), σ) else (if (1 : Int32) < p then some ((-9223372036854775808 : Int64), σ) else (if q < 0 then some ((-9223372036854775808 : Int64), σ) else (if q ≤ (5 : Int32) then ((f_X_side N p σ).bind fun x6 => (if x6.1 = 41 then xIn_41 k q x6.2 else (if x6.1 = 49 then xIn_49 k q x6.2 else none))) else some ((-9223372036854775808 : Int64), σ))))) else some ((-9223372036854775808 : Int64), σ)) := rfl
  have eM : f_M_classOf N p k q τ = (if (τ.2.2 66 1) = true then (if (f_M_in p.toInt64 (0 : Int64) (1 : Int64)) = true then (if (f_M_in q.toInt64 (0 : Int64) (5 : Int64)) = true then ((f_M_laysSide N p τ).bind fun x4 => mIn k q x4) else some ((-9223372036854775808 : Int64), τ)) else some ((-9223372036854775808 : Int64), τ)) else some ((-9223372036854775808 : Int64), τ)) := rfl
  rw [eX, eM, hx.1, hm.1, if_pos rfl, if_pos rfl, show (0 : Int64) = jZ 0 from rfl, show (1 : Int64) = jZ 1 from rfl, show (5 : Int64) = jZ 5 from rfl, in_p (p := p) (bd_lit _ rfl) (bd_lit _ rfl), in_p (p := q) (bd_lit _ rfl) (bd_lit _ rfl), ite_dec, ite_dec]
  simp only [c0, c1, c2, c3]
  by_cases d1 : 0 ≤ p.toInt ∧ p.toInt ≤ 1
  · rw [if_neg (show ¬ p.toInt < 0 by omega), if_neg (show ¬ 1 < p.toInt by omega), if_pos (c := 0 ≤ p.toInt ∧ p.toInt ≤ 1) d1]
    by_cases d2 : 0 ≤ q.toInt ∧ q.toInt ≤ 5
    · rw [if_neg (show ¬ q.toInt < 0 by omega), if_pos (show q.toInt ≤ 5 by omega), if_pos (c := 0 ≤ q.toInt ∧ q.toInt ≤ 5) d2]
      rcases sd2 d1 with e | e
      · subst e
        obtain ⟨τ', m1, m2, m3⟩ := mside hc hN hm.2 0 (by omega)
        obtain ⟨σ', x1, x2, x3⟩ := side0_ok hc hN hx.2 hM h1
        have hl : (cdN b.natAbs).length ≤ 32 := cd_len (VC_s hc 0)
        have m2' : MTb a b τ' := m2
        unfold f_X_side
        rw [if_neg (show ¬ iZ ((0 : Nat) : Int) ≠ 0 from fun z => z rfl), x1, m1, Option.bind_some, Option.bind_some, Option.bind_some]
        obtain ⟨fm, fe, y1, y2⟩ := xIn_41_ok hl x2 k q
        obtain ⟨gm, ge, z1, z2⟩ := mIn_ok hl m2' k q
        refine ⟨_, σ', τ', y1, ?_, Or.inr ⟨_, _, x2⟩, KT49_41 x3 h2, fr41_Q x3, m3⟩
        rw [z1, clB_eq z2 y2]
      · subst e
        obtain ⟨τ', m1, m2, m3⟩ := mside hc hN hm.2 1 (by omega)
        obtain ⟨σ', x1, x2, x3⟩ := side1_ok hc hN hx.2 hM h2
        have hl : (cdN (a * a - 4 * b).natAbs).length ≤ 32 := cd_len (VC_s hc 1)
        have m2' : MTb (-2 * a) (a * a - 4 * b) τ' := m2
        unfold f_X_side
        rw [if_pos (show iZ ((1 : Nat) : Int) ≠ 0 by decide), x1, m1, Option.bind_some, Option.bind_some, Option.bind_some]
        obtain ⟨fm, fe, y1, y2⟩ := xIn_49_ok hl x2 k q
        obtain ⟨gm, ge, z1, z2⟩ := mIn_ok hl m2' k q
        refine ⟨_, σ', τ', y1, ?_, KT41_49 x3 h1, Or.inr ⟨_, _, x2⟩, fr49_Q x3, m3⟩
        rw [z1, clB_eq z2 y2]
    · rw [if_neg (c := 0 ≤ q.toInt ∧ q.toInt ≤ 5) d2]
      by_cases d3 : q.toInt < 0
      · rw [if_pos d3]; exact same
      · rw [if_neg d3, if_neg (by omega)]; exact same
  · rw [if_neg (c := 0 ≤ p.toInt ∧ p.toInt ≤ 1) d1]
    by_cases d3 : p.toInt < 0
    · rw [if_pos d3]; exact same
    · rw [if_neg d3, if_pos (by omega)]; exact same
/-- RANK -/
noncomputable def rkN (a b : Int) (w : Nat) : Int := max 0 ((hlv (kdC a b w) : Int) + (hlv (kdC (-2 * a) (a * a - 4 * b) w) : Int) - 2)
theorem hlv_le {v : Nat} (h : v ≤ 64) : hlv v ≤ 6 := by
  unfold hlv
  rcases Nat.lt_or_ge 7 (bln v) with q | q
  · have := bln_iff.mp q; omega
  · omega
theorem MTb_sd {A B : Int} {τ τ' : aSt} (hf : fr frSi τ τ') (hm : MC a b M E τ) : MC a b M E τ' := MC_fr hf ⟨rfl, rfl, rfl, rfl, rfl, fun _ => ⟨rfl, rfl, rfl⟩⟩ hm
/-- the reference's rank, at any a, b it holds -/
theorem mrank {N : Nat} (hN : 10000 ≤ N) {a b : Int} (h1 : bd 60 a) (h2 : bd 200 b) (h3 : b ≠ 0) (h4 : a * a - 4 * b ≠ 0) {τ : aSt} (hr : τ.2.2 66 1 = true) (ha : τ.1 66 2 = iZ a) (hb : τ.1 66 3 = iZ b) {p : Nat} (hp : p < 2) : ∃ τ', f_M_rank N (iZ (p : Int)) τ = some (iZ (rkN a b (if p = 0 then 3 else 2)), τ') ∧ fr frSi τ τ' := by
  have v0 : VC a b := ⟨bd_mono h1 (by decide), bd_mono h2 (by decide), h3, h4⟩
  have v1 := VC_1 h1 h2 h3 h4
  obtain ⟨τ1, m1, m2, m3⟩ := laysS (A := a) (B := b) hN h1 h2 (iZ ((0 : Nat) : Int)) ha hb rfl rfl (cd_len v0)
  obtain ⟨τ2, n1, n2, n3⟩ := laysS (A := -2 * a) (B := a * a - 4 * b) hN h1 h2 (iZ ((1 : Nat) : Int)) (τ := τ1) (by rw [(m3 66 2 rfl).1]; exact ha) (by rw [(m3 66 3 rfl).1]; exact hb) rfl rfl (cd_len v1)
  have l0 := cd_len v0
  have l1 := cd_len v1
  have fin : ∀ w : Nat, w < 4 → imax (0 : Int32) ((iZ ((hlv (kdC a b w) : Nat) : Int) + iZ ((hlv (kdC (-2 * a) (a * a - 4 * b) w) : Nat) : Int)) - (2 : Int32)) = iZ (rkN a b w) := fun w hw => by
    have q1 := hlv_le (v := kdC a b w) (by have := kdC_le a b w; omega)
    have q2 := hlv_le (v := kdC (-2 * a) (a * a - 4 * b) w) (by have := kdC_le (-2 * a) (a * a - 4 * b) w; omega)
    rw [show (0 : Int32) = iZ 0 from rfl, show (2 : Int32) = iZ 2 from rfl, iZ_add, iZ_sub, imax_Z (bd_lit _ rfl) ⟨by omega, by omega⟩]
    rfl
  have m1' : f_M_laysSide N (0 : Int32) τ = some τ1 := m1
  have n1' : f_M_laysSide N (1 : Int32) τ1 = some τ2 := n1
  unfold f_M_rank
  rw [hr, if_pos rfl, show (0 : Int64) = jZ 0 from rfl, show (1 : Int64) = jZ 1 from rfl, in_p (bd_lit _ rfl) (bd_lit _ rfl), ite_dec, if_pos (by rw [iZ_int ⟨by omega, by omega⟩]; omega), m1', Option.bind_some]
  have c : (iZ (p : Int) ≠ 0) = ¬ p = 0 := by rw [ne_eq, show (0 : Int32) = iZ 0 from rfl, iZ_eq ⟨by omega, by omega⟩ (bd_lit _ rfl)]; apply propext; omega
  refine ⟨τ2, ?_, fr_trans m3 n3⟩
  unfold f_M_rank_b20
  simp only [c]
  by_cases d : p = 0
  · rw [if_neg (fun z => z d), if_pos d]
    rw [show (3 : Int32) = iZ ((3 : Nat) : Int) from rfl, manyOf_k hN l0 m2 (by omega), Option.bind_some, twosIn_k hN (by have := kdC_le a b 3; omega), Option.bind_some, n1', Option.bind_some, if_neg (fun z => z d), manyOf_k hN l1 n2 (by omega), Option.bind_some, twosIn_k hN (by have := kdC_le (-2 * a) (a * a - 4 * b) 3; omega), Option.bind_some, fin 3 (by omega)]
  · rw [if_pos d, if_neg d]
    rw [show (2 : Int32) = iZ ((2 : Nat) : Int) from rfl, manyOf_k hN l0 m2 (by omega), Option.bind_some, twosIn_k hN (by have := kdC_le a b 2; omega), Option.bind_some, n1', Option.bind_some, if_pos d, manyOf_k hN l1 n2 (by omega), Option.bind_some, twosIn_k hN (by have := kdC_le (-2 * a) (a * a - 4 * b) 2; omega), Option.bind_some, ← fin 2 (by omega)]
    rfl
theorem rank_eq {N : Nat} (hc : CVc a b M E) (hN : 10000 ≤ N) {σ τ : aSt} (hx : RX a b M E σ) (hm : RM a b M E τ) (hM : CM σ) (h1 : KT_41 σ) (h2 : KT_49 σ) (p : Int32) : ∃ r σ' τ', f_X_rank N p σ = some (r, σ') ∧ f_M_rank N p τ = some (r, τ') ∧ KT_41 σ' ∧ KT_49 σ' ∧ fr frCQ σ σ' ∧ fr frSi τ τ' := by
  by_cases d1 : 0 ≤ p.toInt ∧ p.toInt ≤ 1
  · have ep : p = iZ ((p.toInt.toNat : Nat) : Int) := p_of (by omega)
    have hp : p.toInt.toNat < 2 := by omega
    generalize p.toInt.toNat = i at ep hp
    subst ep
    obtain ⟨τ', n1, n2⟩ := mrank hN hc.1 hc.2.1 hc.2.2.1 hc.2.2.2.1 hm.1 hm.2.2.1 hm.2.2.2.1 hp
    obtain ⟨σ1, x1, x2, x3⟩ := side0_ok hc hN hx.2 hM h1
    have hx1 : XC a b M E σ1 := XC_fr x3 (fun _ => ⟨rfl, rfl, rfl, rfl, rfl⟩) hx.2
    obtain ⟨σ2, y1, y2, y3⟩ := side1_ok hc hN hx1 (CM_Q (fr41_Q x3) hM) (KT49_41 x3 h2)
    have fr12 := fr_trans (fr41_Q x3) (fr49_Q y3)
    have b15 : ∀ w : Nat, w < 4 → f_X_rank_b15 N (iZ (w : Int)) σ = some (iZ (rkN a b w), σ2) := fun w hw => by
      have q1 := hlv_le (v := kdC a b w) (by have := kdC_le a b w; have := cd_len (VC_0 hc); omega)
      have q2 := hlv_le (v := kdC (-2 * a) (a * a - 4 * b) w) (by have := kdC_le (-2 * a) (a * a - 4 * b) w; have := cd_len (VC_1 hc.1 hc.2.1 hc.2.2.1 hc.2.2.2.1); omega)
      unfold f_X_rank_b15 f_X_side_c0 f_X_side_c1
      rw [x1, Option.bind_some, Option.bind_some, y1, Option.bind_some, Option.bind_some, hlv_41 x2 hw, hlv_49 y2 hw, show (0 : Int32) = iZ 0 from rfl, show (2 : Int32) = iZ 2 from rfl, iZ_add, iZ_sub, imax_Z (bd_lit _ rfl) ⟨by omega, by omega⟩]
      rfl
    have c : (iZ (i : Int) ≠ 0) = ¬ i = 0 := by rw [ne_eq, show (0 : Int32) = iZ 0 from rfl, iZ_eq ⟨by omega, by omega⟩ (bd_lit _ rfl)]; apply propext; omega
    refine ⟨_, σ2, τ', ?_, n1, KT41_49 y3 (Or.inr ⟨_, _, x2⟩), Or.inr ⟨_, _, y2⟩, fr12, n2⟩
    unfold f_X_rank
    rw [hx.1, if_pos rfl, if_neg (show ¬ iZ (i : Int) < 0 by rw [show (0 : Int32) = iZ 0 from rfl, iZ_lt ⟨by omega, by omega⟩ (bd_lit _ rfl)]; omega), if_pos (show iZ (i : Int) ≤ (1 : Int32) by rw [show (1 : Int32) = iZ 1 from rfl, iZ_le ⟨by omega, by omega⟩ (bd_lit _ rfl)]; omega)]
    simp only [c]
    by_cases d : i = 0
    · rw [if_neg (fun z => z d), if_pos d]; exact b15 3 (by omega)
    · rw [if_pos d, if_neg d]; exact b15 2 (by omega)
  · refine ⟨(-2 : Int32), σ, τ, ?_, ?_, h1, h2, fr_refl _ _, fr_refl _ _⟩
    · unfold f_X_rank
      have c0 : (p < 0) = (p.toInt < 0) := by rw [show (0 : Int32) = iZ 0 from rfl, pl_lt (bd_lit _ rfl)]
      have c1 : (p ≤ (1 : Int32)) = (p.toInt ≤ 1) := by rw [show (1 : Int32) = iZ 1 from rfl, pl_le (bd_lit _ rfl)]
      simp only [c0, c1]
      rw [hx.1, if_pos rfl]
      by_cases d3 : p.toInt < 0
      · rw [if_pos d3]
      · rw [if_neg d3, if_neg (show ¬ p.toInt ≤ 1 by omega)]
    · unfold f_M_rank
      rw [hm.1, if_pos rfl, show (0 : Int64) = jZ 0 from rfl, show (1 : Int64) = jZ 1 from rfl, in_p (bd_lit _ rfl) (bd_lit _ rfl), ite_dec, if_neg d1]
end CLS
