/-! more CALLS OVER THE LIST: at, above, upTo, bits, part, between, nearest, sorts -/
theorem sh64 : ∀ k, k < 64 → (((iZ ((k : Nat) : Int)).toInt64 &&& 63).toBitVec.smod 64).toNat = k := by decide +kernel
theorem jshr {z : Int} (hz : bd 9223372036854775807 z) {k : Nat} (hk : k < 64) : jZ z >>> ((iZ k).toInt64 &&& 63) = jZ (z / 2 ^ k) := by
  have e : (jZ z >>> ((iZ (k : Int)).toInt64 &&& 63)).toInt = z / 2 ^ k := by
    show ((jZ z).toBitVec.sshiftRight' (((iZ (k : Int)).toInt64 &&& 63).toBitVec.smod 64)).toInt = _
    rw [BitVec.toInt_sshiftRight', sh64 k hk]
    show (jZ z).toInt >>> k = _
    rw [jZ_int hz, Int.shiftRight_eq_div_pow]
    norm_cast
  rw [← e, jZ_self]
theorem sh32 : ((31 : Int32) &&& 31).toBitVec.smod 32 = 31#32 := by decide +kernel
theorem sign_neg32 {n : Int} (h1 : -2147483647 ≤ n) (h2 : n < 0) : iZ n >>> ((31 : Int32) &&& 31) = -1 := by
  apply Int32.toInt_inj.mp
  show ((iZ n).toBitVec.sshiftRight' (((31 : Int32) &&& 31).toBitVec.smod 32)).toInt = _
  rw [BitVec.toInt_sshiftRight', sh32]
  show (iZ n).toInt >>> 31 = -1
  rw [iZ_int ⟨by omega, by omega⟩, Int.shiftRight_eq_div_pow]
  show n / 2147483648 = -1
  omega
theorem sign_pos32 {n : Int} (h1 : 0 ≤ n) (h2 : n ≤ 2147483647) : iZ n >>> ((31 : Int32) &&& 31) = 0 := by
  apply Int32.toInt_inj.mp
  show ((iZ n).toBitVec.sshiftRight' (((31 : Int32) &&& 31).toBitVec.smod 32)).toInt = _
  rw [BitVec.toInt_sshiftRight', sh32]
  show (iZ n).toInt >>> 31 = 0
  rw [iZ_int ⟨by omega, by omega⟩, Int.shiftRight_eq_div_pow]
  show n / 2147483648 = 0
  omega
theorem sgnI {n : Int} (hn : bd 1000000000 n) : f_Integer_signum (iZ n) = iZ n.sign := by
  have n1 := hn.1
  have n2 := hn.2
  unfold f_Integer_signum
  rcases Int.lt_trichotomy n 0 with c | c | c
  · rw [sign_neg32 (by omega) c, Int32.neg_one_or, Int.sign_eq_neg_one_of_neg c]; decide
  · subst c; decide +kernel
  · rw [sign_pos32 (by omega) (by omega), Int32.zero_or, Int.sign_eq_one_of_pos c, iZ_neg]
    have e : iushr (iZ (-n)) (31 : Int32) = iZ 1 := by
      unfold iushr
      have e3 : (Int32.toUInt32 31 &&& Int32.toUInt32 31) = UInt32.ofNat 31 := by decide
      have e1 : (iZ (-n)).toUInt32 = UInt32.ofNat (4294967296 - n.toNat) := by
        apply UInt32.toNat_inj.mp
        have ht : (iZ (-n)).toInt = -n := iZ_int ⟨by omega, by omega⟩
        have : (iZ (-n)).toUInt32.toNat = (iZ (-n)).toBitVec.toNat := rfl
        rw [this, UInt32.toNat_ofNat']
        have hb : (iZ (-n)).toBitVec.toInt = -n := ht
        rw [BitVec.toInt_eq_toNat_cond] at hb
        have := (iZ (-n)).toBitVec.isLt
        split at hb <;> omega
      show ((iZ (-n)).toUInt32 >>> (Int32.toUInt32 31 &&& Int32.toUInt32 31)).toInt32 = iZ 1
      rw [e3, e1]
      have e5 : UInt32.ofNat (4294967296 - n.toNat) >>> UInt32.ofNat 31 = UInt32.ofNat 1 := by
        apply UInt32.toNat_inj.mp
        rw [UInt32.toNat_shiftRight, UInt32.toNat_ofNat', UInt32.toNat_ofNat', UInt32.toNat_ofNat', show 31 % 2 ^ 32 % 32 = 31 from rfl, Nat.shiftRight_eq_div_pow]
        omega
      rw [e5]; decide
    exact e
theorem sgnJ {n : Int} (hn : bd 1000000000 n) : f_Long_signum (jZ n) = iZ n.sign := by
  have n1 := hn.1
  have n2 := hn.2
  unfold f_Long_signum
  have hs : jZ n >>> ((63 : Int32).toInt64 &&& 63) = jZ (n / 2 ^ 63) := jshr (k := 63) (bd_mono hn (by decide)) (by omega)
  rw [hs]
  rcases Int.lt_trichotomy n 0 with c | c | c
  · rw [show n / 2 ^ 63 = -1 from by omega, show jZ (-1) = -1 from by decide, Int64.neg_one_or, Int.sign_eq_neg_one_of_neg c]; decide
  · subst c; decide +kernel
  · rw [show n / 2 ^ 63 = 0 from by omega, show jZ 0 = 0 from rfl, Int64.zero_or, Int.sign_eq_one_of_pos c, jZ_neg]
    have e : lushr (jZ (-n)) (63 : Int32) = jZ 1 := by
      unfold lushr
      have e3 : ((63 : Int32).toInt64.toUInt64 &&& Int64.toUInt64 63) = UInt64.ofNat 63 := by decide +kernel
      have e1 : (jZ (-n)).toUInt64 = UInt64.ofNat (18446744073709551616 - n.toNat) := by
        apply UInt64.toNat_inj.mp
        have ht : (jZ (-n)).toInt = -n := jZ_int ⟨by omega, by omega⟩
        have : (jZ (-n)).toUInt64.toNat = (jZ (-n)).toBitVec.toNat := rfl
        rw [this, UInt64.toNat_ofNat']
        have hb : (jZ (-n)).toBitVec.toInt = -n := ht
        rw [BitVec.toInt_eq_toNat_cond] at hb
        have := (jZ (-n)).toBitVec.isLt
        split at hb <;> omega
      rw [e3, e1]
      have e5 : UInt64.ofNat (18446744073709551616 - n.toNat) >>> UInt64.ofNat 63 = UInt64.ofNat 1 := by
        apply UInt64.toNat_inj.mp
        rw [UInt64.toNat_shiftRight, UInt64.toNat_ofNat', UInt64.toNat_ofNat', UInt64.toNat_ofNat', show 63 % 2 ^ 64 % 64 = 63 from rfl, Nat.shiftRight_eq_div_pow]
        omega
      rw [e5]; decide
    rw [e]; decide
theorem bln_iff {h k : Nat} : k < bln h ↔ 2 ^ k ≤ h := by
  unfold bln
  by_cases c : h = 0
  · rw [if_pos c]
    have := Nat.two_pow_pos k
    omega
  · rw [if_neg c, ← Nat.le_log2 c]
    omega
theorem bln_le {h : Nat} (hh : h < 4611686018427387904) : bln h ≤ 62 := by
  rcases Nat.lt_or_ge 62 (bln h) with q | q
  · have := bln_iff.mp q
    omega
  · exact q
theorem bitsL (N : Nat) {h : Nat} (hh : h < 4611686018427387904) : ∀ (j n k : Nat), k + j = bln h → j + 1 ≤ n → f_M_bitsOf_l2 N n (jZ h) (iZ k) = some (iZ (bln h)) := by
  have hb := bln_le hh
  intro j
  induction j with
  | zero =>
    intro n k hk hn
    obtain ⟨n, rfl, hn⟩ := fuel hn
    have e : k = bln h := by omega
    have h0 : h / 2 ^ k = 0 := by
      have : ¬ 2 ^ k ≤ h := fun q => by have := bln_iff.mpr q; omega
      exact Nat.div_eq_of_lt (by omega)
    rw [f_M_bitsOf_l2, jshr (bdN63 (by omega)) (by omega), show (h : Int) / 2 ^ k = ((h / 2 ^ k : Nat) : Int) from by norm_cast, h0, if_pos (by decide), e]
  | succ j ih =>
    intro n k hk hn
    obtain ⟨n, rfl, hn⟩ := fuel hn
    have h1 : 2 ^ k ≤ h := bln_iff.mp (by omega)
    have h0 : 1 ≤ h / 2 ^ k := (Nat.one_le_div_iff (Nat.two_pow_pos k)).mpr h1
    have h2 : h / 2 ^ k ≤ h := Nat.div_le_self _ _
    rw [f_M_bitsOf_l2, jshr (bdN63 (by omega)) (by omega), show (h : Int) / 2 ^ k = ((h / 2 ^ k : Nat) : Int) from by norm_cast, if_neg (by rw [jZ_lit, jZ_le (bdN63 (by omega)) (bd_lit _ rfl)]; omega), i1]
    exact ih n (k + 1) (by omega) (by omega)
theorem bitsOf_Z {N : Nat} (hN : 10000 ≤ N) {h : Nat} (hh : h < 4611686018427387904) : f_M_bitsOf N (jZ h) = some (iZ (bln h)) := by
  have hb := bln_le hh
  exact bitsL N hh (bln h) N 0 (by omega) (by omega)
section OPS
variable {a b : Int} {M E : Nat}
/-- HEIGHT of a POINT's x -/
def hgt (p : Pt) : Int := max (p.1.natAbs : Int) (p.2.2 * p.2.2)
theorem hgt_bd (hM : M ≤ 1000) (hE : E ≤ 6) {p : Pt} (h : isPt a b M E p) : 0 ≤ hgt p ∧ hgt p ≤ 1000 := by
  have m := isPt_m hM h
  have e := isPt_e hE h
  have ee := bd_mul e e
  have := m.1; have := m.2; have := ee.2
  unfold hgt
  omega
theorem xheight (hM : M ≤ 1000) (hE : E ≤ 6) {σ : aSt} (h : XC a b M E σ) {i : Nat} {p : Pt} (hp : (hL a b M E)[i]? = some p) : f_PointList_height_11 (iZ i) σ = iZ (hgt p) := by
  have hx := (hL_get hp).1
  have hpt := hL_pt hp
  have m := isPt_m hM hpt
  have e := isPt_e hE hpt
  have m1 := m.1; have m2 := m.2
  unfold f_PointList_height_11 hgt
  rw [m11 h.1 hx, e11 h.1 hx, iabs_Z (bd_mono m (by decide)), iZ_mul, imax_Z ⟨by omega, by omega⟩ (bd_mono (bd_mul e e) (by decide))]
theorem mheight (N : Nat) (hM : M ≤ 1000) (hE : E ≤ 6) {τ : aSt} (h : MC a b M E τ) {i : Nat} {p : Pt} (hp : (hL a b M E)[i]? = some p) : f_M_heightAt N (iZ i) τ = some (jZ (hgt p)) := by
  have hpt := hL_pt hp
  have m := isPt_m hM hpt
  have e := isPt_e hE hpt
  have m1 := m.1; have m2 := m.2
  obtain ⟨k1, k2, k3, k4⟩ := see_m h hp
  unfold f_M_heightAt f_M_heightOf hgt
  rw [if_pos k4, k1, k3, i2j (bd_mono m (by decide)), i2j (bd_mono e (by decide)), labs_Z (bd_mono m (by decide)), jZ_mul, lmax_Z ⟨by omega, by omega⟩ (bd_mono (bd_mul e e) (by decide))]
theorem above_l (N : Nat) (hM : M ≤ 1000) (hE : E ≤ 6) {σ τ : aSt} (hx : XC a b M E σ) (hm : MC a b M E τ) (w : Int32) : ∀ (j n i : Nat), i + j = (hL a b M E).length → j + 1 ≤ n → ∃ r, f_X_above_l13 N σ n w (iZ i) = some r ∧ f_M_above_l13 N τ n w (iZ i) = some r := by
  intro j
  induction j with
  | zero =>
    intro n i hi hn
    obtain ⟨n, rfl, hn⟩ := fuel hn
    rw [f_X_above_l13, f_M_above_l13, shownZ hx, len_m hm, if_pos (stop (by omega)), if_pos (stop (by omega))]
    exact ⟨_, rfl, rfl⟩
  | succ j ih =>
    intro n i hi hn
    obtain ⟨n, rfl, hn⟩ := fuel hn
    obtain ⟨p, hp⟩ := get_some (L := hL a b M E) (i := i) (by omega)
    have hh := hgt_bd hM hE (hL_pt hp)
    rw [f_X_above_l13, f_M_above_l13, shownZ hx, len_m hm, if_neg (ngo (by omega)), if_neg (ngo (by omega)), xheight hM hE hx hp, mheight N hM hE hm hp, Option.bind_some, i1]
    have e : (jZ (hgt p) < w.toInt64) = (iZ (hgt p) < w) := by
      rw [pl_gt ⟨by omega, by omega⟩, Int64.lt_iff_toInt_lt, jZ_int ⟨by omega, by omega⟩, Int32.toInt_toInt64]
    simp only [e]
    by_cases c : iZ (hgt p) < w
    · rw [if_pos c, if_pos c]; exact ih n (i + 1) (by omega) (by omega)
    · rw [if_neg c, if_neg c]; exact ⟨_, rfl, rfl⟩
theorem above_eq {N : Nat} (hc : CV a b M E) (hN : 10000 ≤ N) {σ τ : aSt} (hx : RX a b M E σ) (hm : RM a b M E τ) (w : Int32) : ∃ r, f_X_above N w σ = some r ∧ f_M_above N w τ = some r := by
  have hl := hL_le (a := a) (b := b) (M := M) (E := E)
  obtain ⟨hab, -, -, hM, -, hE⟩ := hc
  unfold f_X_above f_M_above
  rw [hx.1, hm.1, if_pos (c := true = true) rfl, if_pos (c := true = true) rfl]
  simp only [jZ_lit, iZ_lit, in_p (lo := 1) (hi := 1000) (bd_lit _ rfl) (bd_lit _ rfl), ite_dec, pl_lt (y := 1) (bd_lit _ rfl), pl_le (y := 1000) (bd_lit _ rfl)]
  by_cases c : 1 ≤ w.toInt ∧ w.toInt ≤ 1000
  · rw [if_pos c, if_neg (by omega), if_pos c.2]
    exact above_l N hM hE hx.2 hm.2 w _ N 0 (Nat.zero_add _) (by omega)
  · rw [if_neg c]
    by_cases c2 : w.toInt < 1
    · rw [if_pos c2]; exact ⟨_, rfl, rfl⟩
    · rw [if_neg c2, if_neg (by omega)]; exact ⟨_, rfl, rfl⟩
theorem upTo_l (N : Nat) (hM : M ≤ 1000) (hE : E ≤ 6) {σ τ : aSt} (hx : XC a b M E σ) (hm : MC a b M E τ) (w : Int32) : ∀ (j n i : Nat) (s : Int32), i + j = (hL a b M E).length → j + 1 ≤ n → ∃ r, f_X_upTo_l15 N σ n w s (iZ i) = some r ∧ f_M_upTo_l15 N τ n w s (iZ i) = some r := by
  intro j
  induction j with
  | zero =>
    intro n i s hi hn
    obtain ⟨n, rfl, hn⟩ := fuel hn
    rw [f_X_upTo_l15, f_M_upTo_l15, shownZ hx, len_m hm, if_pos (stop (by omega)), if_pos (stop (by omega))]
    exact ⟨_, rfl, rfl⟩
  | succ j ih =>
    intro n i s hi hn
    obtain ⟨n, rfl, hn⟩ := fuel hn
    obtain ⟨p, hp⟩ := get_some (L := hL a b M E) (i := i) (by omega)
    have hh := hgt_bd hM hE (hL_pt hp)
    rw [f_X_upTo_l15, f_M_upTo_l15, shownZ hx, len_m hm, if_neg (ngo (by omega)), if_neg (ngo (by omega)), xheight hM hE hx hp, mheight N hM hE hm hp, Option.bind_some, i1, Int32.add_zero]
    have e : (w.toInt64 < jZ (hgt p)) = (w < iZ (hgt p)) := by
      rw [pl_lt ⟨by omega, by omega⟩, Int64.lt_iff_toInt_lt, jZ_int ⟨by omega, by omega⟩, Int32.toInt_toInt64]
    simp only [e]
    by_cases c : w < iZ (hgt p)
    · rw [if_pos c, if_pos c]; exact ih n (i + 1) _ (by omega) (by omega)
    · rw [if_neg c, if_neg c]; exact ih n (i + 1) _ (by omega) (by omega)
theorem upTo_eq {N : Nat} (hc : CV a b M E) (hN : 10000 ≤ N) {σ τ : aSt} (hx : RX a b M E σ) (hm : RM a b M E τ) (w : Int32) : ∃ r, f_X_upTo N w σ = some r ∧ f_M_upTo N w τ = some r := by
  have hl := hL_le (a := a) (b := b) (M := M) (E := E)
  obtain ⟨hab, -, -, hM, -, hE⟩ := hc
  unfold f_X_upTo f_M_upTo
  rw [hx.1, hm.1, if_pos (c := true = true) rfl, if_pos (c := true = true) rfl]
  simp only [jZ_lit, iZ_lit, in_p (lo := 1) (hi := 1000) (bd_lit _ rfl) (bd_lit _ rfl), ite_dec, pl_lt (y := 1) (bd_lit _ rfl), pl_le (y := 1000) (bd_lit _ rfl)]
  by_cases c : 1 ≤ w.toInt ∧ w.toInt ≤ 1000
  · rw [if_pos c, if_neg (by omega), if_pos c.2]
    exact upTo_l N hM hE hx.2 hm.2 w _ N 0 _ (Nat.zero_add _) (by omega)
  · rw [if_neg c]
    by_cases c2 : w.toInt < 1
    · rw [if_pos c2]; exact ⟨_, rfl, rfl⟩
    · rw [if_neg c2, if_neg (by omega)]; exact ⟨_, rfl, rfl⟩
theorem bits_eq {N : Nat} (hc : CV a b M E) (hN : 10000 ≤ N) {σ τ : aSt} (hx : RX a b M E σ) (hm : RM a b M E τ) (p : Int32) : f_M_bits N p τ = some (f_X_bits p σ) := by
  obtain ⟨hab, -, -, hM, -, hE⟩ := hc
  unfold f_M_bits f_X_bits
  rw [xPoint hx, mPoint hm, ite_dec, ite_dec]
  by_cases c : p.toInt = 1000 ∨ (0 ≤ p.toInt ∧ p.toInt < ((hL a b M E).length : Int))
  · rw [if_pos c, if_pos c]
    by_cases c2 : p ≠ (1000 : Int32)
    · rw [if_pos c2, if_pos c2]
      have c3 : 0 ≤ p.toInt ∧ p.toInt < ((hL a b M E).length : Int) := by
        rcases c with c | c
        · exact absurd (lit32 c) c2
        · exact c
      obtain ⟨i, hi⟩ : ∃ i : Nat, p.toInt = i := ⟨p.toInt.toNat, by omega⟩
      have ep := lit32 hi
      subst ep
      obtain ⟨q, hq⟩ := get_some (L := hL a b M E) (i := i) (by omega)
      have hh := hgt_bd hM hE (hL_pt hq)
      rw [xheight hM hE hx.2 hq, mheight N hM hE hm.2 hq, Option.bind_some, i2j ⟨by omega, by omega⟩]
      obtain ⟨h, eh⟩ : ∃ h : Nat, hgt q = h := ⟨(hgt q).toNat, by omega⟩
      rw [eh, bitsOf_Z hN (by omega), digits_Z (by omega)]; rfl
    · rw [if_neg c2, if_neg c2]
  · rw [if_neg c, if_neg c]
theorem at_l (N : Nat) (hab : inB a b) (hM : M ≤ 1000) (hE : E ≤ 6) {σ τ : aSt} (hx : XC a b M E σ) (hm : MC a b M E τ) (x y z : Int32) : ∀ (j n i : Nat), i + j = (hL a b M E).length → j + 1 ≤ n → ∃ r, f_X_at_l13 N σ n x y z (iZ i) = some r ∧ f_M_at_l13 N τ n x y z (iZ i) = some r := by
  intro j
  induction j with
  | zero =>
    intro n i hi hn
    obtain ⟨n, rfl, hn⟩ := fuel hn
    rw [f_X_at_l13, f_M_at_l13, shownZ hx, len_m hm, if_pos (stop (by omega)), if_pos (stop (by omega))]
    exact ⟨_, rfl, rfl⟩
  | succ j ih =>
    intro n i hi hn
    obtain ⟨n, rfl, hn⟩ := fuel hn
    obtain ⟨p, hp, g1, g2, g3, g4⟩ := see_x hx (i := i) (by omega)
    obtain ⟨k1, k2, k3, k4⟩ := see_m hm hp
    have hn := isPt_n hab hM hE g1
    rw [f_X_at_l13, f_M_at_l13, shownZ hx, len_m hm, if_neg (ngo (by omega)), if_neg (ngo (by omega)), if_pos k4, g2, g3, g4, k1, k2, k3, sgnI (bd_mono hn (by decide)), sgnJ (bd_mono hn (by decide)), i1]
    have hi := ih n (i + 1) (by omega) (by omega)
    by_cases c1 : iZ p.1 ≠ x
    · rw [if_pos c1, if_pos c1]; exact hi
    · rw [if_neg c1, if_neg c1]
      by_cases c2 : iZ p.2.2 ≠ y
      · rw [if_pos c2, if_pos c2]; exact hi
      · rw [if_neg c2, if_neg c2]
        by_cases c3 : iZ p.2.1.sign ≠ z
        · rw [if_pos c3, if_pos c3]; exact hi
        · rw [if_neg c3, if_neg c3]; exact ⟨_, rfl, rfl⟩
theorem at_eq {N : Nat} (hc : CV a b M E) (hN : 10000 ≤ N) {σ τ : aSt} (hx : RX a b M E σ) (hm : RM a b M E τ) (x y z : Int32) : ∃ r, f_X_at N x y z σ = some r ∧ f_M_at N x y z τ = some r := by
  have hl := hL_le (a := a) (b := b) (M := M) (E := E)
  obtain ⟨hab, -, -, hM, -, hE⟩ := hc
  unfold f_X_at f_M_at
  rw [hx.1, hm.1, if_pos (c := true = true) rfl, if_pos (c := true = true) rfl]
  simp only [jZ_lit, jZ_neg, iZ_lit, iZ_neg, in_p (lo := -1) (hi := 1) (bd_lit _ rfl) (bd_lit _ rfl), ite_dec, pl_lt (y := -1) (bd_lit _ rfl), pl_le (y := 1) (bd_lit _ rfl)]
  by_cases c : -1 ≤ z.toInt ∧ z.toInt ≤ 1
  · rw [if_pos c, if_neg (by omega), if_pos c.2]
    exact at_l N hab hM hE hx.2 hm.2 x y z _ N 0 (Nat.zero_add _) (by omega)
  · rw [if_neg c]
    by_cases c2 : z.toInt < -1
    · rw [if_pos c2]; exact ⟨_, rfl, rfl⟩
    · rw [if_neg c2, if_neg (by omega)]; exact ⟨_, rfl, rfl⟩
end OPS
