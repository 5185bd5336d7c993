/-! bad, breaks -/
def bdL (p v : Int) : Nat → Nat → Int32
  | 0, _ => 2
  | j + 1, k => if ((k : Int) * k) % p = v then 1 else bdL p v j (k + 1)
theorem bdL_s (p v : Int) (j k : Nat) : bdL p v (j + 1) k = if ((k : Int) * k) % p = v then 1 else bdL p v j (k + 1) := rfl
theorem sq97 {k p : Nat} (hk : k ≤ p) (hp : p ≤ 97) : (0 : Int) ≤ (k : Int) * k ∧ (k : Int) * k ≤ 9409 := by
  have h1 := Nat.mul_le_mul (show k ≤ 97 by omega) (show k ≤ 97 by omega)
  have e : (k : Int) * k = ((k * k : Nat) : Int) := (Int.natCast_mul k k).symm
  omega
theorem badX {N : Nat} {p : Nat} (hp0 : 3 ≤ p) (hp : p ≤ 97) {v : Int} (hv : 0 ≤ v ∧ v < p) {σ : aSt} : ∀ j k n, k + j = p → j + 1 ≤ n → f_X_bad_l49 N σ n (iZ p) (iZ v) (iZ ((k : Nat) : Int)) = some (bdL p v j k) := by
  intro j
  induction j with
  | zero =>
    intro k n hk hn
    obtain ⟨n, rfl, _⟩ := fuel hn
    rw [f_X_bad_l49, if_pos (by rw [iZ_le ⟨by omega, by omega⟩ ⟨by omega, by omega⟩]; omega)]; rfl
  | succ j ih =>
    intro k n hk hn
    obtain ⟨n, rfl, hn'⟩ := fuel hn
    have sq := sq97 (show k ≤ p by omega) hp
    have eb := em_bd ((k : Int) * k) (p := p) (by omega)
    rw [f_X_bad_l49, if_neg (by rw [iZ_le ⟨by omega, by omega⟩ ⟨by omega, by omega⟩]; omega), i2j ⟨by omega, by omega⟩, jZ_mul, residue_ok ⟨by omega, by omega⟩ (by omega) (by omega), Option.bind_some, i1, ih (k + 1) n (by omega) hn', bdL_s]
    have c : (iZ ((k : Int) * k % p) ≠ iZ v) = ¬ ((k : Int) * k % p = v) := by rw [ne_eq, iZ_eq ⟨by omega, by omega⟩ ⟨by omega, by omega⟩]
    simp only [c]
    by_cases d : (k : Int) * k % p = v
    · rw [if_neg (fun q => q d), if_pos d]
    · rw [if_pos d, if_neg d]
theorem badM {N : Nat} {p : Nat} (hp0 : 3 ≤ p) (hp : p ≤ 97) {v : Int} (hv : 0 ≤ v ∧ v < p) {τ : aSt} : ∀ j k n, k + j = p → j + 1 ≤ n → f_M_bad_l35 N τ n (iZ p) (iZ v) (iZ ((k : Nat) : Int)) = some (bdL p v j k) := by
  intro j
  induction j with
  | zero =>
    intro k n hk hn
    obtain ⟨n, rfl, _⟩ := fuel hn
    rw [f_M_bad_l35, if_pos (by rw [iZ_le ⟨by omega, by omega⟩ ⟨by omega, by omega⟩]; omega)]; rfl
  | succ j ih =>
    intro k n hk hn
    obtain ⟨n, rfl, hn'⟩ := fuel hn
    have sq := sq97 (show k ≤ p by omega) hp
    have eb := em_bd ((k : Int) * k) (p := p) (by omega)
    rw [f_M_bad_l35, if_neg (by rw [iZ_le ⟨by omega, by omega⟩ ⟨by omega, by omega⟩]; omega), if_pos (by rw [show (0 : Int32) = iZ 0 from rfl, iZ_eq ⟨by omega, by omega⟩ (bd_lit _ rfl)]; omega), iZ_mul, irem_nn (by omega) (by omega) (by omega) (by omega), i1, ih (k + 1) n (by omega) hn', bdL_s]
    have c : (iZ ((k : Int) * k % p) ≠ iZ v) = ¬ ((k : Int) * k % p = v) := by rw [ne_eq, iZ_eq ⟨by omega, by omega⟩ ⟨by omega, by omega⟩]
    simp only [c]
    by_cases d : (k : Int) * k % p = v
    · rw [if_neg (fun q => q d), if_pos d]
    · rw [if_pos d, if_neg d]
section BYP
variable {a b : Int} {M E : Nat}
theorem bad40 {N : Nat} (hN : 10000 ≤ N) {p : Nat} (hp0 : 3 ≤ p) (hp : p ≤ 97) {z : Int} (hz : bd 1000 z) {σ τ : aSt} : f_X_bad_b40 N (iZ p) (jZ z) σ = f_M_bad_b26 N (iZ p) (jZ z) τ ∧ ∃ r, f_M_bad_b26 N (iZ p) (jZ z) τ = some r := by
  unfold f_X_bad_b40 f_M_bad_b26
  have := hz.1; have := hz.2
  have eb := em_bd z (p := p) (by omega)
  rw [residue_ok ⟨by omega, by omega⟩ (by omega) (by omega), mod_ok ⟨by omega, by omega⟩ (by omega) (by omega), Option.bind_some, Option.bind_some]
  by_cases c : iZ (z % p) ≠ 0
  · rw [if_pos c, if_pos c]
    have e1 := badX (N := N) hp0 hp eb (σ := σ) (p - 1) 1 N (by omega) (by omega)
    have e2 := badM (N := N) hp0 hp eb (τ := τ) (p - 1) 1 N (by omega) (by omega)
    rw [show (1 : Int32) = iZ ((1 : Nat) : Int) from rfl, e1, e2]
    exact ⟨rfl, _, rfl⟩
  · rw [if_neg c, if_neg c]
    exact ⟨rfl, _, rfl⟩
theorem bad_eq {N : Nat} (hc : CVc a b M E) (hN : 10000 ≤ N) {σ τ : aSt} (hx : RX a b M E σ) (hm : RM a b M E τ) (hp : CP σ) (p : Int32) : ∃ r, f_X_bad N p σ = some r ∧ f_M_bad N p τ = some r := by
  obtain ⟨b1, b2, b3, b4⟩ := cvc_bd hc
  have := b2.1; have := b2.2; have := b1.1; have := b1.2
  obtain ⟨r, r1, r2⟩ := primeIx hN hp p
  unfold f_X_bad f_M_bad
  rw [hx.1, hm.1, if_pos (c := true = true) rfl, if_pos (c := true = true) rfl, r1, Option.bind_some, isPrime_ok hN, Option.bind_some, byX hc hN hx hp, byM hc hN hm, Option.bind_some, Option.bind_some]
  by_cases c2 : p = 2
  · rw [if_pos c2, c2, show prm (2 : Int32).toInt = false from rfl, if_neg ff_tt]
    exact ⟨_, rfl, rfl⟩
  · rw [if_neg c2]
    by_cases c3 : prm p.toInt = true
    · rw [if_neg (fun q => r2.mp q (Or.inr c3)), if_pos c3]
      by_cases c4 : gP a b p.toInt = true
      · rw [if_pos c4, if_pos c4]
        exact ⟨_, rfl, rfl⟩
      · obtain ⟨q, e, hq⟩ := prm_ex c3
        have hb := opr_bd q hq
        have eb := em_bd b (p := q) (by omega)
        unfold f_X_bad_b26 f_PointList_a_11 f_PointList_b_11
        rw [if_neg c4, if_neg c4, lit32 e, if_pos (c := ¬ iZ (q : Int) = 0) (by rw [show (0 : Int32) = iZ 0 from rfl, iZ_eq ⟨by omega, by omega⟩ (bd_lit _ rfl)]; omega), hx.2.2.1, hx.2.2.2.1, hm.2.2.1, hm.2.2.2.1, i2j ⟨by omega, by omega⟩, i2j ⟨by omega, by omega⟩, residue_ok ⟨by omega, by omega⟩ (by omega) (by omega), Option.bind_some, show (-2 : Int64) = jZ (-2) from rfl, jZ_mul]
        have q1 : (iZ (b % (q : Int)) ≠ 0) = (b % (q : Int) ≠ 0) := by rw [ne_eq, show (0 : Int32) = iZ 0 from rfl, iZ_eq ⟨by omega, by omega⟩ (bd_lit _ rfl)]
        have q2 := irem_0 (x := b) ⟨by omega, by omega⟩ (p := q) (by omega) (by omega)
        simp only [q1, ne_eq, q2]
        obtain ⟨k1, s1, k2⟩ := bad40 hN hb.1 hb.2 (z := -2 * a) ⟨by omega, by omega⟩ (σ := σ) (τ := τ)
        obtain ⟨l1, s2, l2⟩ := bad40 hN hb.1 hb.2 (z := a) ⟨by omega, by omega⟩ (σ := σ) (τ := τ)
        by_cases d : b % (q : Int) = 0
        · rw [if_neg (c := ¬ b % (q : Int) = 0) (fun z => z d), if_neg (c := ¬ b % (q : Int) = 0) (fun z => z d), if_neg (c := (1 : Int32) = 0) (by decide)]
          exact ⟨s2, by rw [l1]; exact l2, l2⟩
        · rw [if_pos d, if_pos d, if_pos (c := True) trivial]
          exact ⟨s1, by rw [k1]; exact k2, k2⟩
    · rw [if_pos (r2.mpr (fun z => by rcases z with z | z; exact c2 z; exact c3 z)), if_neg c3]
      exact ⟨_, rfl, rfl⟩
theorem brkL {N : Nat} {p : Nat} (hp0 : 2 ≤ p) (hp : p ≤ 97) {σ τ : aSt} : ∀ (j c m m' : Nat) (v : Int), v ≠ 0 → v.natAbs < 2 ^ j → c + j ≤ 40 → j + 1 ≤ m → j + 1 ≤ m' → ∃ r, f_X_breaks_l35 N σ m (iZ p) (jZ v) (iZ ((c : Nat) : Int)) (iZ ((c : Nat) : Int)) = some r ∧ f_M_breaks_l43 N τ m' (iZ p) (jZ v) (jZ ((c : Nat) : Int)) = some r := by
  intro j
  induction j with
  | zero => intro c m m' v h0 h1; have h1' : v.natAbs < 1 := h1; omega
  | succ j ih =>
    intro c m m' v h0 h1 hcj hm hm'
    obtain ⟨m, rfl, hm1⟩ := fuel hm
    obtain ⟨m', rfl, hm2⟩ := fuel hm'
    have h40 : 2 ^ (j + 1) ≤ 2 ^ 40 := Nat.pow_le_pow_right (by omega) (by omega)
    have h40' : (2 : Nat) ^ 40 = 1099511627776 := by decide
    have vb : bd 9223372036854775807 v := ⟨by omega, by omega⟩
    have eb := em_bd v (p := p) (by omega)
    have e1 : jZ (c : Int) + (1 : Int64) = jZ ((c + 1 : Nat) : Int) := by rw [show (1 : Int64) = jZ 1 from rfl, jZ_add]; congr 1
    rw [f_X_breaks_l35, f_M_breaks_l43, if_neg (by rw [show (64 : Int32) = iZ 64 from rfl, iZ_le (bd_lit _ rfl) ⟨by omega, by omega⟩]; omega), residue_ok vb (by omega) (by omega), Option.bind_some, i2j (z := (p : Int)) ⟨by omega, by omega⟩, if_pos (c := ¬ jZ (p : Int) = 0) (by rw [show (0 : Int64) = jZ 0 from rfl, jZ_eq ⟨by omega, by omega⟩ (bd_lit _ rfl)]; omega), jZ_rem vb ⟨by omega, by omega⟩, quot_Z vb ⟨by omega, by omega⟩, jZ_div vb ⟨by omega, by omega⟩, i1, e1, i2j (z := (c : Int)) ⟨by omega, by omega⟩]
    have q1 : (iZ (v % (p : Int)) ≠ 0) = (v % (p : Int) ≠ 0) := by rw [ne_eq, show (0 : Int32) = iZ 0 from rfl, iZ_eq ⟨by omega, by omega⟩ (bd_lit _ rfl)]
    have q2 : (jZ (v.tmod (p : Int)) ≠ (0 : Int64)) = (v % (p : Int) ≠ 0) := by
      rcases tm_em (z := v) (p := p) (by omega) with ⟨a1, a2, a3⟩ | ⟨a1, a2, a3⟩
      · rw [ne_eq, show (0 : Int64) = jZ 0 from rfl, jZ_eq ⟨by omega, by omega⟩ (bd_lit _ rfl), a3]
      · rw [ne_eq, show (0 : Int64) = jZ 0 from rfl, jZ_eq ⟨by omega, by omega⟩ (bd_lit _ rfl)]; apply propext; omega
    simp only [q1, q2]
    by_cases d : v % (p : Int) = 0
    · rw [if_neg (fun z => z d), if_neg (fun z => z d)]
      have dv : (p : Int) ∣ v := Int.dvd_of_emod_eq_zero d
      have dn : p ∣ v.natAbs := Int.ofNat_dvd_left.mp dv
      have en : (v.tdiv p).natAbs = v.natAbs / p := by rw [Int.natAbs_tdiv, Int.natAbs_natCast]; rfl
      have hd := Nat.div_mul_cancel dn
      have hm2 : v.natAbs / p * 2 ≤ v.natAbs / p * p := Nat.mul_le_mul_left _ hp0
      have h2 : 2 ^ (j + 1) = 2 ^ j * 2 := Nat.pow_succ ..
      exact ih (c + 1) m m' (v.tdiv p) (by
        intro z
        rw [z] at en
        rw [← en, show (0 : Int).natAbs = 0 from rfl, Nat.zero_mul] at hd
        omega) (by omega) (by omega) hm1 (by omega)
    · rw [if_pos d, if_pos d]
      exact ⟨_, rfl, rfl⟩
theorem breaks_eq {N : Nat} (hc : CVc a b M E) (hN : 10000 ≤ N) {σ τ : aSt} (hx : RX a b M E σ) (hm : RM a b M E τ) (hp : CP σ) (p : Int32) : ∃ r, f_X_breaks N p σ = some r ∧ f_M_breaks N p τ = some r := by
  obtain ⟨b1, b2, b3, b4⟩ := cvc_bd hc
  have := b2.1; have := b2.2; have := b1.1; have := b1.2; have := b3.1; have := b3.2; have := b4.1; have := b4.2
  obtain ⟨r, r1, r2⟩ := primeIx hN hp p
  have hbb := bd_mul b2 b2
  have hv := bd_mul (bd_mul (bd_mul (bd_lit (A := 16) 16 rfl) b2) b2) b3
  have hv1 := hv.1; have hv2 := hv.2
  have hv0 : 16 * b * b * (a * a - 4 * b) ≠ 0 := by
    intro z
    rcases Int.mul_eq_zero.mp z with z | z
    · rcases Int.mul_eq_zero.mp z with z | z
      · rcases Int.mul_eq_zero.mp z with z | z
        · omega
        · exact hc.2.2.1 z
      · exact hc.2.2.1 z
    · exact hc.2.2.2.1 z
  obtain ⟨v, hvv⟩ : ∃ v, v = 16 * b * b * (a * a - 4 * b) := ⟨_, rfl⟩
  have eX : (((16 : Int64) * (f_PointList_b_11 σ).toInt64) * (f_PointList_b_11 σ).toInt64) * (f_X_besideB σ).toInt64 = jZ v := by
    rw [besB hc hx.2]
    unfold f_PointList_b_11
    rw [hx.2.2.2.1, i2j ⟨by omega, by omega⟩, i2j ⟨by omega, by omega⟩, show (16 : Int64) = jZ 16 from rfl, jZ_mul, jZ_mul, jZ_mul, hvv]
  have eM : (((16 : Int64) * (τ.1 66 3).toInt64) * (τ.1 66 3).toInt64) * (((τ.1 66 2).toInt64 * (τ.1 66 2).toInt64) - ((4 : Int64) * (τ.1 66 3).toInt64)) = jZ v := by
    rw [hm.2.2.1, hm.2.2.2.1, i2j ⟨by omega, by omega⟩, i2j ⟨by omega, by omega⟩, show (16 : Int64) = jZ 16 from rfl, show (4 : Int64) = jZ 4 from rfl, jZ_mul, jZ_mul, jZ_mul, jZ_mul, jZ_sub, jZ_mul, hvv]
  rw [← hvv] at hv0 hv1 hv2
  have go : ∀ q : Nat, 2 ≤ q → q ≤ 97 → ∃ r, f_X_breaks_b11 N (iZ q) σ = some r ∧ f_M_breaks_b13 N (iZ q) τ = some r := fun q h1 h2 => by
    unfold f_X_breaks_b11 f_M_breaks_b13
    have c : iZ (q : Int) ≠ 0 := by rw [ne_eq, show (0 : Int32) = iZ 0 from rfl, iZ_eq ⟨by omega, by omega⟩ (bd_lit _ rfl)]; omega
    rw [if_pos c, if_pos c, eX, eM]
    exact brkL h1 h2 32 0 N N v hv0 (by omega) (by omega) (by omega) (by omega)
  unfold f_X_breaks f_M_breaks
  rw [hx.1, hm.1, if_pos (c := true = true) rfl, if_pos (c := true = true) rfl, r1, Option.bind_some, isPrime_ok hN, Option.bind_some]
  by_cases c0 : p = 0
  · rw [if_pos c0, if_pos c0]
    unfold f_X_breaks_b11 f_M_breaks_b13
    rw [if_neg (fun z => z c0), if_neg (fun z => z c0), eX, eM]
    exact ⟨_, rfl, rfl⟩
  · rw [if_neg c0, if_neg c0]
    by_cases c2 : p = 2
    · rw [if_pos c2, if_pos (fun q => r2.mp q (Or.inl c2)), c2]
      exact go 2 (by omega) (by omega)
    · rw [if_neg c2]
      by_cases c3 : prm p.toInt = true
      · rw [if_pos (fun q => r2.mp q (Or.inr c3)), if_pos c3]
        obtain ⟨q, e, hq⟩ := prm_ex c3
        have hb := opr_bd q hq
        rw [lit32 e]
        exact go q (by omega) (by omega)
      · rw [if_neg (fun q => q (r2.mpr (fun z => by rcases z with z | z; exact c2 z; exact c3 z))), if_neg c3]
        exact ⟨_, rfl, rfl⟩
end BYP
