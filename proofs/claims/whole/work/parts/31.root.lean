/-! ROOTS AND COMMON DIVISORS -/
theorem lim_k : (2:Nat) ^ 63 = 9223372036854775808 := by decide
theorem bdN63 {a : Nat} (h : a < 9223372036854775808) : bd 9223372036854775807 (a : Int) := ⟨by omega, by omega⟩
theorem bdN31 {a : Nat} (h : a < 2147483648) : bd 2147483647 (a : Int) := ⟨by omega, by omega⟩
theorem jN0 {a : Nat} (h : a < 9223372036854775808) : (jZ a = (0 : Int64)) = (a = 0) := by
  rw [jZ_lit, jZ_eq (bdN63 h) (bd_lit 0 rfl)]
  exact propext (by omega)
theorem jrem_N {a b : Nat} (ha : a < 9223372036854775808) (hb : b < 9223372036854775808) : lrem (jZ a) (jZ b) = jZ ((a % b : Nat) : Int) := by
  rw [jZ_rem (bdN63 ha) (bdN63 hb), nat_rem]
theorem half_rem {a b : Nat} (hb : 0 < b) (hr : 0 < a % b) : 2 * (b % (a % b)) < b := by
  have h1 : a % b < b := Nat.mod_lt a hb
  have h2 : b % (a % b) < a % b := Nat.mod_lt b hr
  have h3 : (a % b) * (b / (a % b)) + b % (a % b) = b := Nat.div_add_mod b (a % b)
  have h4 : 1 ≤ b / (a % b) := (Nat.one_le_div_iff hr).mpr (by omega)
  have h5 : (a % b) * 1 ≤ (a % b) * (b / (a % b)) := Nat.mul_le_mul_left _ h4
  omega
theorem gcd_step {a b : Nat} : Nat.gcd a b = Nat.gcd b (a % b) := by
  rw [Nat.gcd_comm a b, Nat.gcd_rec b a, Nat.gcd_comm]
theorem commonL (N : Nat) : ∀ (k n a b : Nat), b < 2 ^ k → a < 9223372036854775808 → b < 9223372036854775808 → 2 * k + 1 ≤ n → f_M_common_l6 N n (jZ a) (jZ b) = some (jZ (Nat.gcd a b)) := by
  intro k
  induction k with
  | zero =>
    intro n a b h1 ha hb hn
    obtain ⟨n, rfl⟩ : ∃ j, n = j + 1 := ⟨n - 1, by omega⟩
    have h0 : b = 0 := by omega
    subst h0
    rw [f_M_common_l6, if_pos (by rw [jN0 hb]), Nat.gcd_zero_right]
  | succ k ih =>
    intro n a b h1 ha hb hn
    obtain ⟨n, rfl⟩ : ∃ j, n = j + 1 := ⟨n - 1, by omega⟩
    by_cases h0 : b = 0
    · subst h0
      rw [f_M_common_l6, if_pos (by rw [jN0 hb]), Nat.gcd_zero_right]
    · have hr : a % b < b := Nat.mod_lt a (by omega)
      rw [f_M_common_l6, if_neg (by rw [jN0 hb]; exact h0), jrem_N ha hb, gcd_step]
      obtain ⟨n, rfl⟩ : ∃ j, n = j + 1 := ⟨n - 1, by omega⟩
      by_cases h2 : a % b = 0
      · rw [f_M_common_l6, if_pos (by rw [jN0 (by omega)]; exact h2), h2, Nat.gcd_zero_right]
      · have hh := half_rem (a := a) (b := b) (by omega) (by omega)
        have hr2 : b % (a % b) < a % b := Nat.mod_lt b (by omega)
        rw [f_M_common_l6, if_neg (by rw [jN0 (by omega)]; exact h2), jrem_N hb (by omega), gcd_step]
        exact ih n (a % b) (b % (a % b)) (by rw [Nat.pow_succ] at h1; omega) (by omega) (by omega) (by omega)
theorem iK {s t : Nat} (hs : s < 2147483648) (ht : t < 2147483648) : (iZ t ≤ iZ s) = (t ≤ s) := by
  rw [iZ_le (bdN31 ht) (bdN31 hs)]
  exact propext (by omega)
theorem i1 (s : Nat) : iZ s + (1 : Int32) = iZ ((s + 1 : Nat) : Int) := by
  rw [iZ_lit, iZ_add]; rfl
theorem gcdL (N : Nat) : ∀ (k n s a b : Nat), b < 2 ^ k → a < 9223372036854775808 → b < 9223372036854775808 → 2 * k + 1 ≤ n → s + 2 * k < 200 → f_Whole_gcd_l20 N n (jZ a) (jZ b) (iZ s) = some (jZ (Nat.gcd a b)) := by
  intro k
  induction k with
  | zero =>
    intro n s a b h1 ha hb hn hs
    obtain ⟨n, rfl⟩ : ∃ j, n = j + 1 := ⟨n - 1, by omega⟩
    have h0 : b = 0 := by omega
    subst h0
    rw [f_Whole_gcd_l20, if_neg (by rw [iZ_lit, iZ_le (bd_lit _ rfl) ⟨by omega, by omega⟩]; omega), if_pos (by rw [jN0 hb]), Nat.gcd_zero_right]
  | succ k ih =>
    intro n s a b h1 ha hb hn hs
    obtain ⟨n, rfl⟩ : ∃ j, n = j + 1 := ⟨n - 1, by omega⟩
    by_cases h0 : b = 0
    · subst h0
      rw [f_Whole_gcd_l20, if_neg (by rw [iZ_lit, iZ_le (bd_lit _ rfl) ⟨by omega, by omega⟩]; omega), if_pos (by rw [jN0 hb]), Nat.gcd_zero_right]
    · have hr : a % b < b := Nat.mod_lt a (by omega)
      rw [f_Whole_gcd_l20, if_neg (by rw [iZ_lit, iZ_le (bd_lit _ rfl) ⟨by omega, by omega⟩]; omega), if_neg (by rw [jN0 hb]; exact h0), jrem_N ha hb, gcd_step, i1]
      obtain ⟨n, rfl⟩ : ∃ j, n = j + 1 := ⟨n - 1, by omega⟩
      by_cases h2 : a % b = 0
      · rw [f_Whole_gcd_l20, if_neg (by rw [iZ_lit, iZ_le (bd_lit _ rfl) ⟨by omega, by omega⟩]; omega), if_pos (by rw [jN0 (by omega)]; exact h2), h2, Nat.gcd_zero_right]
      · have hh := half_rem (a := a) (b := b) (by omega) (by omega)
        have hr2 : b % (a % b) < a % b := Nat.mod_lt b (by omega)
        rw [f_Whole_gcd_l20, if_neg (by rw [iZ_lit, iZ_le (bd_lit _ rfl) ⟨by omega, by omega⟩]; omega), if_neg (by rw [jN0 (by omega)]; exact h2), jrem_N hb (by omega), gcd_step, i1]
        exact ih n (s + 1 + 1) (a % b) (b % (a % b)) (by rw [Nat.pow_succ] at h1; omega) (by omega) (by omega) (by omega) (by omega)
theorem common_Z {N : Nat} (hN : 10000 ≤ N) {x y : Int} (hx : bd 9223372036854775807 x) (hy : bd 9223372036854775807 y) : f_M_common N (jZ x) (jZ y) = some (jZ (Int.gcd x y)) := by
  unfold f_M_common
  rw [labs_Z hx, labs_Z hy]
  have h1 := hx.1; have h2 := hx.2; have h3 := hy.1; have h4 := hy.2
  exact commonL N 63 N x.natAbs y.natAbs (by omega) (by omega) (by omega) (by omega)
theorem gcd_Z {N : Nat} (hN : 10000 ≤ N) {x y : Int} (hx : bd 9223372036854775807 x) (hy : bd 9223372036854775807 y) : f_Whole_gcd N (jZ x) (jZ y) = some (jZ (Int.gcd x y)) := by
  have h1 := hx.1; have h2 := hx.2; have h3 := hy.1; have h4 := hy.2
  have key := gcdL N 63 N 0 x.natAbs y.natAbs (by omega) (by omega) (by omega) (by omega) (by omega)
  have e0 : (iZ ((0 : Nat) : Int)) = (0 : Int32) := rfl
  rw [e0] at key
  unfold f_Whole_gcd f_Whole_gcd_b8 f_Whole_gcd_b17
  simp only [jZ_lit, jZ_le (bd_lit 0 rfl) hx, jZ_le (bd_lit 0 rfl) hy, jZ_neg]
  by_cases c1 : (0 : Int) ≤ x
  · rw [if_pos c1]
    have ex : ((x.natAbs : Nat) : Int) = x := by omega
    rw [ex] at key
    by_cases c2 : (0 : Int) ≤ y
    · rw [if_pos c2]
      have ey : ((y.natAbs : Nat) : Int) = y := by omega
      rw [ey] at key
      exact key
    · rw [if_neg c2]
      have ey : ((y.natAbs : Nat) : Int) = -y := by omega
      rw [ey] at key
      exact key
  · rw [if_neg c1]
    have ex : ((x.natAbs : Nat) : Int) = -x := by omega
    rw [ex] at key
    by_cases c2 : (0 : Int) ≤ y
    · rw [if_pos c2]
      have ey : ((y.natAbs : Nat) : Int) = y := by omega
      rw [ey] at key
      exact key
    · rw [if_neg c2]
      have ey : ((y.natAbs : Nat) : Int) = -y := by omega
      rw [ey] at key
      exact key
/-- the whole root -/
def rtN : Nat → Nat
  | 0 => 0
  | v + 1 => if (rtN v + 1) * (rtN v + 1) ≤ v + 1 then rtN v + 1 else rtN v
theorem rtN_ok : ∀ v : Nat, rtN v * rtN v ≤ v ∧ v < (rtN v + 1) * (rtN v + 1)
  | 0 => ⟨Nat.le_refl 0, by decide⟩
  | v + 1 => by
    obtain ⟨h1, h2⟩ := rtN_ok v
    rw [rtN]
    by_cases h : (rtN v + 1) * (rtN v + 1) ≤ v + 1
    · rw [if_pos h]
      refine ⟨h, ?_⟩
      have : (rtN v + 1 + 1) * (rtN v + 1 + 1) = (rtN v + 1) * (rtN v + 1) + 2 * (rtN v + 1) + 1 := by grind
      omega
    · rw [if_neg h]
      exact ⟨by omega, by omega⟩
theorem sq_lt {a b : Nat} (h : a * a < b * b) : a < b := by
  rcases Nat.lt_or_ge a b with q | q
  · exact q
  · exact absurd (Nat.mul_le_mul q q) (by omega)
theorem sq_le {a b : Nat} (h : a * a ≤ b * b) : a ≤ b := by
  rcases Nat.lt_or_ge b a with q | q
  · exact absurd (Nat.mul_lt_mul'' q q) (by omega)
  · exact q
theorem rtN_uniq {v s : Nat} (h1 : s * s ≤ v) (h2 : v < (s + 1) * (s + 1)) : rtN v = s := by
  obtain ⟨g1, g2⟩ := rtN_ok v
  have a1 : s < rtN v + 1 := sq_lt (by omega)
  have a2 : rtN v < s + 1 := sq_lt (by omega)
  omega
theorem rtN_sq (s : Nat) : rtN (s * s) = s := rtN_uniq (Nat.le_refl _) (by
  have : (s + 1) * (s + 1) = s * s + 2 * s + 1 := by grind
  omega)
theorem rootL (N : Nat) : ∀ (k n v lo hi : Nat), v < 9223372036854775808 → lo * lo ≤ v → v < (hi + 1) * (hi + 1) → lo ≤ hi → hi ≤ 3037000499 → hi - lo < 2 ^ k → k + 1 ≤ n → f_M_root_l4 N n (jZ v) (jZ lo) (jZ hi) = some (jZ (rtN v)) := by
  intro k
  induction k with
  | zero =>
    intro n v lo hi hv h1 h2 h3 h4 h5 hn
    obtain ⟨n, rfl⟩ : ∃ j, n = j + 1 := ⟨n - 1, by omega⟩
    have e : lo = hi := by omega
    subst e
    rw [f_M_root_l4, if_pos (Int64.le_refl _), rtN_uniq h1 h2]
  | succ k ih =>
    intro n v lo hi hv h1 h2 h3 h4 h5 hn
    obtain ⟨n, rfl⟩ : ∃ j, n = j + 1 := ⟨n - 1, by omega⟩
    by_cases e : lo = hi
    · subst e
      rw [f_M_root_l4, if_pos (Int64.le_refl _), rtN_uniq h1 h2]
    · have em : (((jZ lo + jZ hi) + (1 : Int64)) / (2 : Int64)) = jZ (((lo + hi + 1) / 2 : Nat) : Int) := by
        rw [jZ_lit, jZ_lit, jZ_add, jZ_add, jZ_div ⟨by omega, by omega⟩ (bd_lit 2 rfl)]
        rw [show (lo : Int) + hi + 1 = ((lo + hi + 1 : Nat) : Int) from by omega]
        exact congrArg jZ (nat_div (a := lo + hi + 1) (b := 2))
      rw [f_M_root_l4, em, if_neg (by rw [jZ_le ⟨by omega, by omega⟩ ⟨by omega, by omega⟩]; omega)]
      obtain ⟨m, hm⟩ : ∃ m, m = (lo + hi + 1) / 2 := ⟨_, rfl⟩
      rw [← hm, jZ_mul, ← Int.natCast_mul]
      have hmm : m * m ≤ 3037000499 * 3037000499 := Nat.mul_le_mul (by omega) (by omega)
      have h2k : 2 ^ (k + 1) = 2 ^ k * 2 := Nat.pow_succ ..
      by_cases c : v < m * m
      · rw [if_pos (by rw [jZ_lt (bdN63 hv) (bdN63 (by omega))]; omega), jZ_lit, jZ_sub, show (m : Int) - 1 = ((m - 1 : Nat) : Int) from by omega]
        refine ih n v lo (m - 1) hv h1 ?_ (by omega) (by omega) (by omega) (by omega)
        rw [show m - 1 + 1 = m from by omega]
        exact c
      · rw [if_neg (by rw [jZ_lt (bdN63 hv) (bdN63 (by omega))]; omega)]
        exact ih n v m hi hv (by omega) h2 (by omega) (by omega) (by omega) (by omega)
theorem root_Z {N : Nat} (hN : 10000 ≤ N) {v : Nat} (hv : v < 9223372036854775808) : f_M_root N (jZ v) = some (jZ (rtN v)) := by
  unfold f_M_root
  exact rootL N 32 N v 0 3037000499 hv (by omega) (by omega) (by omega) (by omega) (by omega) (by omega)
/-- a whole number that is a square -/
def isq (z : Int) : Bool := decide (0 ≤ z) && decide (rtN z.toNat * rtN z.toNat = z.toNat)
theorem rt_lt {v : Nat} (hv : v < 9223372036854775808) : rtN v ≤ 3037000499 := by
  obtain ⟨g1, g2⟩ := rtN_ok v
  have : rtN v < 3037000500 := sq_lt (by omega)
  omega
theorem isSquare_Z {N : Nat} (hN : 10000 ≤ N) {z : Int} (hz : bd 9223372036854775807 z) : f_M_isSquare N (jZ z) = some (isq z) := by
  unfold f_M_isSquare isq
  have h1 := hz.1
  have h2 := hz.2
  simp only [jZ_lit]
  by_cases c : z < 0
  · rw [if_pos (by rw [jZ_lt hz (bd_lit 0 rfl)]; exact c), show decide (0 ≤ z) = false from decide_eq_false (by omega)]
    rfl
  · rw [if_neg (by rw [jZ_lt hz (bd_lit 0 rfl)]; exact c), show decide (0 ≤ z) = true from decide_eq_true (by omega)]
    have e : jZ z = jZ ((z.toNat : Nat) : Int) := congrArg jZ (by omega)
    rw [e, root_Z hN (by omega)]
    have hl := rt_lt (v := z.toNat) (by omega)
    have hmm : rtN z.toNat * rtN z.toNat ≤ 3037000499 * 3037000499 := Nat.mul_le_mul hl hl
    simp only [Option.bind_some, jZ_mul]
    rw [← Int.natCast_mul]
    by_cases q : rtN z.toNat * rtN z.toNat = z.toNat
    · rw [q, if_neg (fun h => h rfl), decide_eq_true rfl]; rfl
    · rw [if_pos (by rw [ne_eq, jZ_eq (bdN63 (by omega)) (bdN63 (by omega))]; omega), decide_eq_false q]; rfl

