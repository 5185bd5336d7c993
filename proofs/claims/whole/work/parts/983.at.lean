/-! CLASSES: classAt, shows -/
theorem dv_sqf {b : Nat} (hb : b ≤ 4400) {k : Nat} (hk : k < 2 * (cdN b).length) : sqf (dvK (cdN b) k).natAbs ∧ 0 < (dvK (cdN b) k).natAbs := by
  rw [dvK_sg, sg_abs]
  have m := (cdF_mem _ _ _).mp (getD_mem (L := cdN b) (i := k / 2) (by omega))
  exact ⟨(freeB_iff (by omega) (by omega)).mp m.2.2.2, by omega⟩
theorem found_cop {A B d : Int} {m e : Nat} (hd : sqf d.natAbs) (hd0 : 0 < d.natAbs) (h : sqF A B d = some (m, e)) : Int.gcd (d * m * m) ((e : Int) * e) = 1 := by
  obtain ⟨a1, a2, a3, a4⟩ := sqF_in h
  obtain ⟨s, hs⟩ := isq_ex a4
  have a3' : Nat.Coprime m e := a3
  have c1 : Nat.gcd d.natAbs e ∣ d.natAbs := Nat.gcd_dvd_left _ _
  have c2 : Nat.gcd d.natAbs e ∣ e := Nat.gcd_dvd_right _ _
  have c0 : 0 < Nat.gcd d.natAbs e := Nat.gcd_pos_of_pos_left _ hd0
  have key : Nat.gcd d.natAbs e = 1 := by
    generalize Nat.gcd d.natAbs e = c at c1 c2 c0
    obtain ⟨t, ht⟩ := c1
    obtain ⟨u, hu⟩ := c2
    have dI : (c : Int) ∣ d := Int.ofNat_dvd_left.mpr ⟨t, ht⟩
    obtain ⟨t', ht'⟩ := dI
    have eI : (e : Int) = (c : Int) * u := by rw [hu, Int.natCast_mul]
    have sc : c ∣ s * s := by
      apply Int.natCast_dvd_natCast.mp
      rw [Int.natCast_mul, ← hs]
      refine ⟨t' * m * m * m * m + A * m * m * u * e + B.tdiv d * u * e * e * e, ?_⟩
      unfold wth
      generalize B.tdiv d = w
      grind
    have sc2 := sqf_sq (sqf_dvd hd ⟨t, ht⟩) c0 sc
    obtain ⟨v, hv⟩ := sc2
    have dm : c * c ∣ d.natAbs * (m * m * (m * m)) := by
      apply Int.natCast_dvd_natCast.mp
      have hs' : d * (m * m * (m * m)) = (c : Int) * c * (v * v - A * m * m * u * u - B.tdiv d * u * u * e * e) := by
        have sI : (s : Int) = (c : Int) * v := by rw [hv, Int.natCast_mul]
        unfold wth at hs
        generalize B.tdiv d = w at hs ⊢
        grind
      have e1 : ((d.natAbs * (m * m * (m * m)) : Nat) : Int) = d * (m * m * (m * m)) ∨ ((d.natAbs * (m * m * (m * m)) : Nat) : Int) = -(d * (m * m * (m * m))) := by
        rw [Int.natCast_mul, Int.natCast_mul, Int.natCast_mul]
        rcases Int.natAbs_eq d with q | q
        · left; rw [← q]
        · right
          have : ((d.natAbs : Nat) : Int) = -d := by omega
          rw [this, Int.neg_mul]
      rw [Int.natCast_mul]
      rcases e1 with q | q
      · rw [q, hs']; exact ⟨_, rfl⟩
      · rw [q, hs']; exact ⟨-(v * v - A * m * m * u * u - B.tdiv d * u * u * e * e), by rw [Int.mul_neg]⟩
    have cm : Nat.Coprime c m := Nat.Coprime.coprime_dvd_left ⟨u, hu⟩ (Nat.Coprime.symm a3')
    have cm2 : Nat.Coprime (c * c) (m * m * (m * m)) := by
      have x1 : Nat.Coprime c (m * m) := Nat.Coprime.mul_right cm cm
      have x2 : Nat.Coprime c (m * m * (m * m)) := Nat.Coprime.mul_right x1 x1
      exact Nat.Coprime.mul_left x2 x2
    exact sqf_one hd hd0 (Nat.Coprime.dvd_of_dvd_mul_right cm2 dm)
  show Nat.gcd (d * m * m).natAbs ((e : Int) * e).natAbs = 1
  rw [Int.natAbs_mul, Int.natAbs_mul, Int.natAbs_mul, Int.natAbs_natCast, Int.natAbs_natCast]
  have k1 : Nat.Coprime d.natAbs e := key
  have k2 : Nat.Coprime (d.natAbs * m) e := Nat.Coprime.mul_left k1 a3'
  have k3 : Nat.Coprime (d.natAbs * m * m) e := Nat.Coprime.mul_left k2 a3'
  exact Nat.Coprime.mul_right k3 k3
section AT
variable {a b : Int} {M E : Nat}
theorem classAt_one {N : Nat} (hc : CVc a b M E) (hN : 10000 ≤ N) {σ τ τ' : aSt} (hx : XC a b M E σ) (hl : (cdN b.natAbs).length ≤ 32) (hm : MTb a b τ') {z : Int} (hz : bd 1000 z) (h0 : z ≠ 0) : ∃ r, f_X_classAt_b18 N (iZ z) σ = some r ∧ ((f_M_freeOf N (jZ z)).bind fun x4 => ((f_M_classFor N x4 τ').bind fun x6 => (if x6 ≠ (-1 : Int32) then some (x4, τ') else some ((-9223372036854775808 : Int64), τ')))) = some (r, τ') := by
  have z1 := hz.1; have z2 := hz.2
  have b1 := hc.2.1.1; have b2 := hc.2.1.2; have b0 := hc.2.2.1
  have sp := sfp_ok (v := z.natAbs) (by omega) (by omega)
  have ho := okL_cd (b := b.natAbs) (by omega)
  have hzz := sg_of z
  have w : f_Whole_withoutSquares N (iZ z) = some (iZ (sg (decide (z < 0)) (sfp z.natAbs))) := by
    have := withoutSquares_Z hN (decide (z < 0)) (v := z.natAbs) (by omega)
    rw [← hzz] at this; exact this
  have f : f_M_freeOf N (jZ z) = some (jZ (sg (decide (z < 0)) (sfp z.natAbs))) := by
    have := freeOf_Z hN (decide (z < 0)) (v := z.natAbs) (by omega) (by omega)
    rw [← hzz] at this; exact this
  have bs := sg_bd (decide (z < 0)) (n := sfp z.natAbs) (A := 1000) (by omega)
  have bs1 := bs.1; have bs2 := bs.2
  unfold f_X_classAt_b18 f_PointList_b_11
  rw [w, f, Option.bind_some, Option.bind_some, hx.2.2.1, i2j (z := b) ⟨by omega, by omega⟩, iabs_Z ⟨by omega, by omega⟩, sg_abs, residue_ok (bd_mono hc.2.1 (by decide)) (by omega) (by omega), Option.bind_some, i2j (z := sg (decide (z < 0)) (sfp z.natAbs)) ⟨by omega, by omega⟩]
  have eb := em_bd b (p := sfp z.natAbs) (by omega)
  have cc : (iZ (b % (sfp z.natAbs : Int)) ≠ 0) = ¬ (sfp z.natAbs ∣ b.natAbs) := by
    rw [ne_eq, show (0 : Int32) = iZ 0 from rfl, iZ_eq ⟨by omega, by omega⟩ (bd_lit _ rfl)]
    apply propext
    rw [← Int.ofNat_dvd_left, Int.dvd_iff_emod_eq_zero]
  simp only [cc]
  unfold f_M_classFor
  rcases classFor_ok (N := N) ho hm.2.1 (z := sg (decide (z < 0)) (sfp z.natAbs)) ⟨by omega, by omega⟩ (2 * (cdN b.natAbs).length) 0 N (by omega) (by omega) with ⟨i, r1, r2, r3, r4⟩ | ⟨r1, r2⟩
  · have dv : sfp z.natAbs ∣ b.natAbs := by
      have m := (cdF_mem _ _ _).mp (getD_mem (L := cdN b.natAbs) (i := i / 2) (by omega))
      have e : (cdN b.natAbs).getD (i / 2) 0 = sfp z.natAbs := by
        have := congrArg Int.natAbs r3
        rw [dvK_sg, sg_abs, sg_abs] at this
        exact this
      rw [e] at m
      exact Nat.dvd_of_mod_eq_zero m.2.2.1
    rw [if_neg (fun q => q dv), show f_M_classFor_l2 N τ' N (jZ (sg (decide (z < 0)) (sfp z.natAbs))) (0 : Int32) = some (iZ (i : Int)) from r4, Option.bind_some, if_pos (by rw [ne_eq, show (-1 : Int32) = iZ (-1) from by decide, iZ_eq ⟨by omega, by omega⟩ (bd_lit _ rfl)]; omega)]
    exact ⟨_, rfl, rfl⟩
  · have dv : ¬ sfp z.natAbs ∣ b.natAbs := fun q => by
      have le := Nat.le_of_dvd (by omega) q
      have m : sfp z.natAbs ∈ cdN b.natAbs := (cdF_mem _ _ _).mpr ⟨by omega, by omega, Nat.mod_eq_zero_of_dvd q, (freeB_iff (by omega) (by omega)).mpr sp.2.2.1⟩
      obtain ⟨n, hn, en⟩ := List.getElem_of_mem m
      have en' : (cdN b.natAbs).getD n 0 = sfp z.natAbs := by
        rw [List.getD_eq_getElem?_getD, List.getElem?_eq_getElem hn, ← en]; rfl
      by_cases c : z < 0
      · refine r1 (2 * n + 1) (Nat.zero_le _) (by omega) ?_
        rw [dvK_sg, show (2 * n + 1) / 2 = n by omega, show (2 * n + 1) % 2 = 1 by omega, en', decide_eq_true c]; rfl
      · refine r1 (2 * n) (Nat.zero_le _) (by omega) ?_
        rw [dvK_sg, show (2 * n) / 2 = n by omega, show (2 * n) % 2 = 0 by omega, en', decide_eq_false c]; rfl
    rw [if_pos dv, show f_M_classFor_l2 N τ' N (jZ (sg (decide (z < 0)) (sfp z.natAbs))) (0 : Int32) = some (-1 : Int32) from r2, Option.bind_some, if_neg (fun q => q rfl)]
    exact ⟨_, rfl, rfl⟩
theorem classAt_eq {N : Nat} (hc : CVc a b M E) (hN : 10000 ≤ N) {σ τ : aSt} (hx : RX a b M E σ) (hm : RM a b M E τ) (p : Int32) : ∃ r τ', f_X_classAt N p σ = some r ∧ f_M_classAt N p τ = some (r, τ') ∧ fr frSi τ τ' := by
  have b1 := hc.2.1.1; have b2 := hc.2.1.2; have b0 := hc.2.2.1
  have hM := hc.2.2.2.2.2.1
  unfold f_X_classAt f_M_classAt
  rw [xListed hx, mListed hm, ite_dec, ite_dec]
  by_cases c : 0 ≤ p.toInt ∧ p.toInt < ((hL a b M E).length : Int)
  · rw [if_pos c, if_pos c]
    obtain ⟨i, hi⟩ : ∃ i : Nat, p.toInt = i := ⟨p.toInt.toNat, by omega⟩
    have ep := lit32 hi
    subst ep
    obtain ⟨q, g0, g1, g2, g3, g4⟩ := see_x hx.2 (i := i) (by omega)
    obtain ⟨k1, k2, k3, k4⟩ := see_m hm.2 g0
    have q1 := g1.1.1; have q2 := g1.1.2
    obtain ⟨τ', m1, m2, m3⟩ := mside hc hN hm.2 0 (by omega)
    have m1' : f_M_laysSide N (0 : Int32) τ = some τ' := m1
    have m2' : MTb a b τ' := m2
    have hl : (cdN b.natAbs).length ≤ 32 := cd_len (VC_0 hc)
    have c1 : (iZ q.1 ≠ 0) = ¬ (q.1 = 0) := by rw [ne_eq, show (0 : Int32) = iZ 0 from rfl, iZ_eq ⟨by omega, by omega⟩ (bd_lit _ rfl)]
    rw [g2, k1, if_pos k4, hm.2.2.2.1, show f_PointList_b_11 σ = iZ b from hx.2.2.2.1, m1', i2j (z := q.1) ⟨by omega, by omega⟩, i2j (z := b) ⟨by omega, by omega⟩]
    simp only [c1, Option.bind_some]
    by_cases d : q.1 = 0
    · rw [if_neg (fun z => z d), if_neg (fun z => z d)]
      obtain ⟨r, x1, x2⟩ := classAt_one (τ := τ) hc hN hx.2 hl m2' (z := b) ⟨by omega, by omega⟩ b0
      exact ⟨r, τ', x1, x2, m3⟩
    · rw [if_pos d, if_pos d]
      obtain ⟨r, x1, x2⟩ := classAt_one (τ := τ) hc hN hx.2 hl m2' (z := q.1) ⟨by omega, by omega⟩ d
      exact ⟨r, τ', x1, x2, m3⟩
  · rw [if_neg c, if_neg c]
    exact ⟨_, τ, rfl, rfl, fr_refl _ _⟩
def frSh : Nat → Nat → Bool := fun o k => frSi o k || fr23 o k
theorem frSi_h {σ σ' : aSt} (h : fr frSi σ σ') : fr frSh σ σ' := fr_mono h (fun o k q => (Bool.or_eq_false_iff.mp q).1)
theorem rtN_e (e : Nat) : rtN ((e : Int) * e).toNat = e := by
  rw [← Int.natCast_mul, Int.toNat_natCast, rtN_sq]
theorem shows_eq {N : Nat} (hc : CVc a b M E) (hN : 10000 ≤ N) {σ τ : aSt} (hx : RX a b M E σ) (hm : RM a b M E τ) (hM : CM σ) (h1 : KT_41 σ) (p : Int32) : ∃ r σ' τ', f_X_shows N p σ = some (r, σ') ∧ f_M_shows N p τ = some (r, τ') ∧ KT_41 σ' ∧ fr frX_41 σ σ' ∧ fr frSh τ τ' := by
  have hl : (cdN b.natAbs).length ≤ 32 := cd_len (VC_0 hc)
  have b1 := hc.2.1.1; have b2 := hc.2.1.2
  have hab : inB a b := ⟨bd_mono hc.1 (by decide), bd_mono hc.2.1 (by decide)⟩
  have hM1 := hc.2.2.2.2.2.1
  have hE := hc.2.2.2.2.2.2.2
  obtain ⟨τ', m1, m2, m3⟩ := mside hc hN hm.2 0 (by omega)
  have m1' : f_M_laysSide N (0 : Int32) τ = some τ' := m1
  have m2' : MTb a b τ' := m2
  unfold f_X_shows f_M_shows
  rw [hx.1, hm.1, if_pos rfl, if_pos rfl, m1', Option.bind_some, inK hl m2', ite_dec]
  have ck : (p < 0) = (p.toInt < 0) := by rw [show (0 : Int32) = iZ 0 from rfl, pl_lt (bd_lit _ rfl)]
  by_cases g1 : p.toInt < 0
  · rw [if_pos (c := p < 0) (by rw [ck]; exact g1), if_neg (c := 0 ≤ p.toInt ∧ p.toInt < ((2 * (cdN b.natAbs).length : Nat) : Int)) (by omega)]
    exact ⟨_, σ, τ', rfl, rfl, h1, fr_refl _ _, frSi_h m3⟩
  rw [if_neg (c := p < 0) (by rw [ck]; exact g1)]
  obtain ⟨σ1, x1, x2, x3⟩ := side0_ok hc hN hx.2 hM h1
  have ck2 : (p < iZ ((2 * (cdN b.natAbs).length : Nat) : Int)) = (p.toInt < ((2 * (cdN b.natAbs).length : Nat) : Int)) := pl_lt ⟨by omega, by omega⟩
  have hx1 : XC a b M E σ1 := XC_fr x3 (fun _ => ⟨rfl, rfl, rfl, rfl, rfl⟩) hx.2
  obtain ⟨σ2, y1, y2, y3⟩ := side0_ok hc hN hx1 (CM_Q (fr41_Q x3) hM) (Or.inr ⟨_, _, x2⟩)
  have hx2 : XC a b M E σ2 := XC_fr y3 (fun _ => ⟨rfl, rfl, rfl, rfl, rfl⟩) hx1
  have f12 := fr_trans x3 y3
  unfold f_X_side_c0
  rw [x1, Option.bind_some, Option.bind_some, sz_41 x2, y1, Option.bind_some, Option.bind_some]
  by_cases g2 : p.toInt < ((2 * (cdN b.natAbs).length : Nat) : Int)
  case neg =>
    rw [if_neg (c := p < iZ ((2 * (cdN b.natAbs).length : Nat) : Int)) (by rw [ck2]; exact g2), if_neg (c := 0 ≤ p.toInt ∧ p.toInt < ((2 * (cdN b.natAbs).length : Nat) : Int)) (by omega)]
    exact ⟨_, σ1, τ', rfl, rfl, Or.inr ⟨_, _, x2⟩, x3, frSi_h m3⟩
  rw [if_pos (c := p < iZ ((2 * (cdN b.natAbs).length : Nat) : Int)) (by rw [ck2]; exact g2), if_pos (c := 0 ≤ p.toInt ∧ p.toInt < ((2 * (cdN b.natAbs).length : Nat) : Int)) (by omega)]
  have ep : p = iZ ((p.toInt.toNat : Nat) : Int) := p_of (by omega)
  have hk : p.toInt.toNat < 2 * (cdN b.natAbs).length := by omega
  generalize p.toInt.toNat = k at ep hk
  clear g1 g2 ck ck2
  subst ep
  have K2 : KT_41 σ2 := Or.inr ⟨_, _, y2⟩
  obtain ⟨⟨r1, r2, r3⟩, r4⟩ := m2'.2.2 k hk
  have hd := dv_ok (VC_0 hc) hk
  have hsq := dv_sqf (b := b.natAbs) (by omega) hk
  rw [if_pos (c := 0 ≤ iZ (k : Int) ∧ iZ (k : Int) < (64 : Int32)) (by rw [show (0 : Int32) = iZ 0 from rfl, show (64 : Int32) = iZ 64 from rfl, iZ_le (bd_lit _ rfl) ⟨by omega, by omega⟩, iZ_lt ⟨by omega, by omega⟩ (bd_lit _ rfl)]; omega), iZ_idx (by omega) (by omega), Int.toNat_natCast, ifd_41 y2 hk, r1, m2'.2.1.2.2 k hk]
  by_cases hf : fdK a b (cdN b.natAbs) k = true
  case neg =>
    rw [if_neg hf, if_neg hf]
    exact ⟨_, σ2, τ', rfl, rfl, K2, f12, frSi_h m3⟩
  rw [if_pos hf, if_pos hf]
  cases hq : sqF a b (dvK (cdN b.natAbs) k) with
  | none => unfold fdK at hf; rw [hq] at hf; exact absurd hf ff_tt
  | some me =>
  obtain ⟨m, e⟩ := me
  obtain ⟨s1, s2, s3, s4⟩ := sqF_in hq
  have fs := fst_41 y2 hk hq
  have rs := r2 m e hq
  have cop := found_cop hsq.1 hsq.2 hq
  have dB := hd.2.1
  have dvE := dvs_41 y2 hk
  have d1 := dB.1; have d2 := dB.2
  have t8 : σ2.1 41 8 = iZ a := by obtain ⟨L, S, _, _, h3, _⟩ := y2; exact h3.2.1
  have t9 : σ2.1 41 9 = iZ b := by obtain ⟨L, S, _, _, h3, _⟩ := y2; exact h3.2.2.1
  generalize dvK (cdN b.natAbs) k = d at hq cop dB d1 d2 hd dvE hsq s4
  rw [fs.1, fs.2, rs.1, rs.2, dvE, i2j (z := (e : Int)) ⟨by omega, by omega⟩, i2j (z := (m : Int)) ⟨by omega, by omega⟩, i2j (z := d) ⟨by omega, by omega⟩]
  have c1 : (jZ (e : Int) ≠ (0 : Int64)) = ¬ (e = 0) := by rw [ne_eq, show (0 : Int64) = jZ 0 from rfl, jZ_eq ⟨by omega, by omega⟩ (bd_lit _ rfl)]; apply propext; omega
  simp only [c1]
  by_cases e0 : e = 0
  · rw [if_neg (fun z => z e0), if_neg (fun z => z e0)]
    exact ⟨_, σ2, τ', rfl, rfl, K2, f12, frSi_h m3⟩
  rw [if_pos e0, if_pos e0]
  have mB : bd 20 (m : Int) := ⟨by omega, by omega⟩
  have eB : bd 20 (e : Int) := ⟨by omega, by omega⟩
  have wb := wth_bd hab.1 hab.2 dB (m := (m : Int)) (e := (e : Int)) (bd_mono mB (by decide)) (bd_mono eB (by decide))
  obtain ⟨wn, hwn⟩ : ∃ w : Nat, wth a b d (m : Int) (e : Int) = (w : Int) := ⟨(wth a b d (m : Int) (e : Int)).toNat, by have := isq_nn s4; omega⟩
  have hr : rtN wn * rtN wn = wn := by
    unfold isq at s4
    rw [hwn, Bool.and_eq_true, decide_eq_true_eq, decide_eq_true_eq, Int.toNat_natCast] at s4
    exact s4.2
  have rl : rtN wn ≤ 1000000 := by
    rcases Nat.lt_or_ge 1000000 (rtN wn) with q | q
    · have := Nat.mul_le_mul (Nat.le_of_lt q) (Nat.le_of_lt q)
      have := wb.2
      omega
    · exact q
  have rB : bd 1000000 ((rtN wn : Nat) : Int) := ⟨by omega, by omega⟩
  have dmB : bd 88000 (d * m) := bd_mono (bd_mul dB mB) (by decide)
  have dmmB : bd 1760000 (d * m * m) := bd_mono (bd_mul dmB mB) (by decide)
  have eeB : bd 400 ((e : Int) * e) := bd_mono (bd_mul eB eB) (by decide)
  have nB : bd 88000000000 (d * m * (rtN wn : Nat)) := bd_mono (bd_mul dmB rB) (by decide)
  have eeeB : bd 8000 ((e : Int) * e * e) := bd_mono (bd_mul eeB eB) (by decide)
  have nnB : bd 704000000000000 (d * m * (rtN wn : Nat) * e * e * e) := bd_mono (bd_mul (bd_mul (bd_mul nB eB) eB) eB) (by decide)
  have epos : (0 : Int) < (e : Int) := by omega
  have eene : (e : Int) * e * e ≠ 0 := Int.mul_ne_zero (Int.mul_ne_zero (by omega) (by omega)) (by omega)
  have eepos : (0 : Int) < (e : Int) * e := Int.mul_pos epos epos
  have nq : d * m * (rtN wn : Nat) * e * e * e = d * m * (rtN wn : Nat) * ((e : Int) * e * e) := by grind
  have td : (d * m * (rtN wn : Nat) * e * e * e).tdiv ((e : Int) * e * e) = d * m * (rtN wn : Nat) := by rw [nq]; exact Int.mul_tdiv_cancel _ eene
  have tm : (d * m * (rtN wn : Nat) * e * e * e).tmod ((e : Int) * e * e) = 0 := by rw [nq]; exact Int.mul_tmod_left _ _
  -- the class
  have eq1 : f_Whole_gcd N (jZ d * jZ (m : Int) * jZ (m : Int)) (jZ (e : Int) * jZ (e : Int)) = some (jZ 1) := by
    rw [jZ_mul, jZ_mul, jZ_mul, gcd_Z hN (bd_mono dmmB (by decide)) (bd_mono eeB (by decide)), cop]; rfl
  have eq2 : f_Whole_rootOf N (f_Whole_quotient (jZ (e : Int) * jZ (e : Int)) (jZ 1)) = some (jZ (e : Int)) := by
    rw [jZ_mul, quot_Z (bd_mono eeB (by decide)) (bd_lit _ rfl), Int.tdiv_one, rootOf_Z hN (bd_mono eeB (by decide))]
    unfold rtA isq
    rw [rtN_e, decide_eq_true (Int.le_of_lt eepos), decide_eq_true (by rw [← Int.natCast_mul, Int.toNat_natCast]), Bool.true_and, if_pos rfl]
  have eq3 : f_ClassTable_firstRoot_41 N (iZ (k : Int)) σ2 = some (jZ ((rtN wn : Nat) : Int)) := by
    unfold f_ClassTable_firstRoot_41
    rw [dvE, fs.1, fs.2, t9, i2j (z := (e : Int)) ⟨by omega, by omega⟩, i2j (z := (m : Int)) ⟨by omega, by omega⟩, i2j (z := d) ⟨by omega, by omega⟩, i2j (z := b) ⟨by omega, by omega⟩, quot_Z ⟨by omega, by omega⟩ ⟨by omega, by omega⟩, jZ_mul, jZ_mul, val_41 hab.1 t8, rootOf_Z hN (bd_mono wb (by decide)), Option.bind_some]
    unfold rtA
    rw [if_pos s4, hwn, Int.toNat_natCast]
  have fx := find11 hN hab hM1 hE hx2.1 hx2.2.2.2.1 hx2.2.2.2.2 (m := d * m * m) (n := d * m * (rtN wn : Nat)) (e := (e : Int)) (bd_mono dmmB (by decide)) (bd_mono nB (by decide)) (bd_mono eB (by decide))
  have fb := fnd_rng (hX a b M E) (d * m * m, d * m * (rtN wn : Nat), (e : Int)) (hX_KS hab hM1 hE)
  have hxl := hX_len a b M E
  have hll := hL_le (a := a) (b := b) (M := M) (E := E)
  rw [eq1, Option.bind_some, eq2, Option.bind_some, if_pos (show (1 : Int64) ≤ jZ (e : Int) by rw [show (1 : Int64) = jZ 1 from rfl, jZ_le (bd_lit _ rfl) ⟨by omega, by omega⟩]; omega), eq3, Option.bind_some]
  have eq4 : f_Whole_quotient (jZ d * jZ (m : Int) * jZ (m : Int)) (jZ 1) = jZ (d * m * m) := by
    rw [jZ_mul, jZ_mul, quot_Z (bd_mono dmmB (by decide)) (bd_lit _ rfl), Int.tdiv_one]
  have eq5 : f_Whole_quotient (jZ d * jZ (m : Int) * jZ ((rtN wn : Nat) : Int) * jZ (e : Int) * jZ (e : Int) * jZ (e : Int)) (jZ (e : Int) * jZ (e : Int) * jZ (e : Int)) = jZ (d * m * (rtN wn : Nat)) := by
    simp only [jZ_mul]
    rw [quot_Z (bd_mono nnB (by decide)) (bd_mono eeeB (by decide)), td]
  rw [eq4, eq5, fx, Option.bind_some, shownOnly_Z hx2 ⟨by omega, by omega⟩]
  -- the reference
  have em1 : f_M_worthOf N (jZ d) (jZ (m : Int)) (jZ (e : Int)) τ' = some (jZ (wn : Int)) := by
    rw [worthM hab.1 hab.2 dB hd.1 m2'.1, hwn]
  have wlt : wn < 9223372036854775808 := by have := wb.2; omega
  have em2 : f_M_lowers N (jZ d * jZ (m : Int) * jZ (m : Int)) (jZ (e : Int) * jZ (e : Int)) τ' = some (s_l (s_l τ' 66 23 (jZ (d * m * m))) 66 24 (jZ ((e : Int) * e))) := by
    rw [jZ_mul, jZ_mul, jZ_mul, lowers_pos hN (bd_mono dmmB (by decide)) (bd_mono eeB (by decide)) eepos]
    unfold lwU lwV
    rw [cop, show (((1 : Nat) : Int)) = 1 from rfl, Int.tdiv_one, Int.tdiv_one]
  rw [em1, Option.bind_some, root_Z hN wlt, Option.bind_some, em2, Option.bind_some]
  obtain ⟨τ2, hτ2⟩ : ∃ t, t = s_l (s_l τ' 66 23 (jZ (d * m * m))) 66 24 (jZ ((e : Int) * e)) := ⟨_, rfl⟩
  rw [← hτ2]
  have v23 : τ2.2.1 66 23 = jZ (d * m * m) := by rw [hτ2, sl_ne (Or.inr (by decide)), sl_eq]
  have v24 : τ2.2.1 66 24 = jZ ((e * e : Nat) : Int) := by rw [hτ2, sl_eq, Int.natCast_mul]
  have f2 : fr fr23 τ' τ2 := by rw [hτ2]; exact fr_trans (fr_sl rfl) (fr_sl rfl)
  have hm2 : MC a b M E τ2 := MC_fr f2 ok23 (MTb_sd (A := a) (B := b) m3 hm.2)
  have ee2 : e * e ≤ 20 * 20 := Nat.mul_le_mul s2 s2
  rw [v24, root_Z hN (by omega), Option.bind_some, rtN_sq, v23]
  simp only [jZ_mul]
  rw [if_pos (show ¬ jZ ((e : Int) * e * e) = 0 by rw [show (0 : Int64) = jZ 0 from rfl, jZ_eq (bd_mono eeeB (by decide)) (bd_lit _ rfl)]; exact eene), jZ_rem (bd_mono nnB (by decide)) (bd_mono eeeB (by decide)), tm, if_pos (show jZ 0 = (0 : Int64) from rfl), jZ_div (bd_mono nnB (by decide)) (bd_mono eeeB (by decide)), td, mfind_ok hN hm2.1 (fun p hp => by
    obtain ⟨i, hi, ei⟩ := List.getElem_of_mem hp
    exact isPt_kb hab hM1 hE (hL_pt (i := i) (by rw [List.getElem?_eq_getElem hi, ei]))) (bd_mono dmmB (by decide)) (bd_mono nB (by decide)) (bd_mono eB (by decide)), Option.bind_some]
  refine ⟨_, σ2, τ2, rfl, ?_, K2, f12, fr_trans (frSi_h m3) (fr_mono f2 (fun o k q => (Bool.or_eq_false_iff.mp q).2))⟩
  congr 2
  congr 1
  rw [fnd_shown hab hM1 hE]
  have lk := hL_len a b M E
  generalize fnd (hX a b M E) (d * m * m, d * m * (rtN wn : Nat), (e : Int)) = v at fb ⊢
  rw [if_neg (show ¬ v = 1000 by omega)]
  by_cases c2 : v < 120
  · rw [if_pos c2, if_neg (by omega)]
  · rw [if_neg c2, if_pos (by omega)]
end AT
