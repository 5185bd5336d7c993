/-! the class's root -/
theorem j_uinj : ∀ {a b : Int64}, a.toUInt64 = b.toUInt64 → a = b
  | ⟨_⟩, ⟨_⟩, h => by cases h; rfl
theorem land63 {v : Nat} (hv : v < 9223372036854775808) : (jZ v &&& (63 : Int64)).toInt32 = iZ ((v % 64 : Nat) : Int) := by
  have e : jZ v &&& (63 : Int64) = jZ ((v % 64 : Nat) : Int) := by
    have e1 : (jZ (v : Int)).toUInt64 = UInt64.ofNat v := by
      show (Int64.ofInt (v : Int)).toUInt64 = _
      rw [Int64.ofInt_eq_ofNat]; rfl
    have e2 : (jZ ((v % 64 : Nat) : Int)).toUInt64 = UInt64.ofNat (v % 64) := by
      show (Int64.ofInt ((v % 64 : Nat) : Int)).toUInt64 = _
      rw [Int64.ofInt_eq_ofNat]; rfl
    apply j_uinj
    rw [e2]
    show (jZ (v : Int)).toUInt64 &&& UInt64.ofNat 63 = _
    rw [e1]
    apply UInt64.toNat_inj.mp
    rw [UInt64.toNat_and, UInt64.toNat_ofNat', UInt64.toNat_ofNat', UInt64.toNat_ofNat']
    show v % 2 ^ 64 &&& 63 % 2 ^ 64 = v % 64 % 2 ^ 64
    rw [Nat.mod_eq_of_lt (by omega : v < 2 ^ 64), show 63 % 2 ^ 64 = 2 ^ 6 - 1 from rfl, Nat.and_two_pow_sub_one_eq_mod]
    exact (Nat.mod_eq_of_lt (by omega : v % 64 < 2 ^ 64)).symm
  rw [e, j2i]
theorem mask64 : ∀ r, r < 64 → ((lushr (144680414395695635 : Int64) (iZ ((r * r % 64 : Nat) : Int))) &&& (1 : Int64)) ≠ (0 : Int64) := by decide +kernel
theorem mask63 : ∀ r, r < 63 → ((lushr (288872697407275667 : Int64) (iZ ((r * r % 63 : Nat) : Int))) &&& (1 : Int64)) ≠ (0 : Int64) := by decide +kernel
theorem nlzS : ∀ x, x < 256 → 1 ≤ x → f_Integer_numberOfLeadingZeros_b26 (iZ ((x : Nat) : Int)) 0 = iZ (-((x.log2 : Nat) : Int)) := by decide +kernel
theorem nlzW (v w : Int32) : f_Integer_numberOfLeadingZeros_b26 v w = w + f_Integer_numberOfLeadingZeros_b26 v 0 := by
  unfold f_Integer_numberOfLeadingZeros_b26
  simp only [apply_ite (fun z => w + z), Int32.sub_eq_add_neg, Int32.add_assoc, Int32.zero_add]
theorem log2_div {x k : Nat} (h : 2 ^ k ≤ x) : (x / 2 ^ k).log2 = x.log2 - k := by
  have hp : 0 < 2 ^ k := Nat.two_pow_pos k
  have hx : x ≠ 0 := by omega
  have hd : x / 2 ^ k ≠ 0 := by
    have := (Nat.one_le_div_iff hp).mpr h
    omega
  have hk : k ≤ x.log2 := (Nat.le_log2 hx).mpr h
  obtain ⟨h1, h2⟩ := (Nat.log2_eq_iff hx).mp rfl
  rw [Nat.log2_eq_iff hd]
  constructor
  · rw [Nat.le_div_iff_mul_le hp, ← Nat.pow_add, show x.log2 - k + k = x.log2 from by omega]
    exact h1
  · rw [Nat.div_lt_iff_lt_mul hp, ← Nat.pow_add, show x.log2 - k + 1 + k = x.log2 + 1 from by omega]
    exact h2
theorem nlz18 {x : Nat} (h1 : 1 ≤ x) (h2 : x < 65536) (w : Int) : f_Integer_numberOfLeadingZeros_b18 (iZ x) (iZ w) = iZ (w - x.log2) := by
  unfold f_Integer_numberOfLeadingZeros_b18
  simp only [iZ_lit]
  by_cases c : x < 256
  · rw [if_pos (by rw [iZ_lt (bdN31 (by omega)) (bd_lit 256 rfl)]; omega), nlzW, nlzS x c h1, iZ_add]; rfl
  · rw [if_neg (by rw [iZ_lt (bdN31 (by omega)) (bd_lit 256 rfl)]; omega), show iushr (iZ (x : Int)) (iZ 8) = iZ ((x / 2 ^ 8 : Nat) : Int) from iushr_Z (k := 8) (by omega) (by omega), nlzW, nlzS (x / 2 ^ 8) (by omega) (by omega), iZ_neg, iZ_add, iZ_add, log2_div (k := 8) (by omega)]
    have : 8 ≤ x.log2 := (Nat.le_log2 (by omega)).mpr (by omega)
    congr 1
    omega
theorem nlz32 {x : Nat} (h1 : 1 ≤ x) (h2 : x < 2147483648) : f_Integer_numberOfLeadingZeros (iZ x) = iZ (31 - x.log2) := by
  unfold f_Integer_numberOfLeadingZeros
  simp only [iZ_lit]
  rw [if_pos (by rw [iZ_lt (bd_lit 0 rfl) (bdN31 (by omega))]; omega)]
  by_cases c : x < 65536
  · rw [if_pos (by rw [iZ_lt (bdN31 (by omega)) (bd_lit 65536 rfl)]; omega), nlz18 h1 c]
  · rw [if_neg (by rw [iZ_lt (bdN31 (by omega)) (bd_lit 65536 rfl)]; omega), show iushr (iZ (x : Int)) (iZ 16) = iZ ((x / 2 ^ 16 : Nat) : Int) from iushr_Z (k := 16) (by omega) (by omega), iZ_neg, iZ_add, nlz18 (by omega) (by omega), log2_div (k := 16) (by omega)]
    have : 16 ≤ x.log2 := (Nat.le_log2 (by omega)).mpr (by omega)
    congr 1
    omega
theorem lushr32 {v : Nat} (hv : v < 9223372036854775808) : (lushr (jZ v) (32 : Int32)).toInt32 = iZ ((v / 4294967296 : Nat) : Int) := by
  have e : lushr (jZ v) (32 : Int32) = jZ ((v / 4294967296 : Nat) : Int) := by
    unfold lushr
    have e1 : (jZ (v : Int)).toUInt64 = UInt64.ofNat v := by
      show (Int64.ofInt (v : Int)).toUInt64 = _
      rw [Int64.ofInt_eq_ofNat]; rfl
    have e3 : ((32 : Int32).toInt64.toUInt64 &&& Int64.toUInt64 63) = UInt64.ofNat 32 := by decide +kernel
    rw [e1, e3]
    have e5 : UInt64.ofNat v >>> UInt64.ofNat 32 = UInt64.ofNat (v / 4294967296) := by
      apply UInt64.toNat_inj.mp
      rw [UInt64.toNat_shiftRight, UInt64.toNat_ofNat', UInt64.toNat_ofNat', UInt64.toNat_ofNat', Nat.mod_eq_of_lt (by omega : v < 2 ^ 64), show 32 % 2 ^ 64 % 64 = 32 from rfl, Nat.shiftRight_eq_div_pow]
      exact (Nat.mod_eq_of_lt (Nat.lt_of_le_of_lt (Nat.div_le_self _ _) (by omega))).symm
    rw [e5]
    show _ = Int64.ofInt _
    rw [Int64.ofInt_eq_ofNat]; rfl
  rw [e, j2i]
/-- how many binary digits -/
def bln (v : Nat) : Nat := if v = 0 then 0 else v.log2 + 1
theorem nlz64 {v : Nat} (hv : v < 4611686018427387904) : f_Long_numberOfLeadingZeros (jZ v) = iZ (64 - bln v) := by
  unfold f_Long_numberOfLeadingZeros bln
  rw [lushr32 (by omega), j2i]
  simp only [iZ_lit]
  by_cases c : v < 4294967296
  · rw [if_neg (by rw [show v / 4294967296 = 0 from by omega]; exact fun h => h rfl)]
    by_cases c0 : v = 0
    · subst c0; decide +kernel
    · rw [if_neg c0]
      by_cases c1 : v < 2147483648
      · rw [nlz32 (by omega) c1, iZ_add]
        congr 1; omega
      · have hl : v.log2 = 31 := (Nat.log2_eq_iff c0).mpr ⟨by omega, by omega⟩
        have e : iZ (v : Int) = iZ ((v : Int) - 4294967296) := by
          apply Int32.toInt_inj.mp
          unfold iZ
          rw [Int32.toInt_ofInt, Int32.toInt_ofInt]
          show (v : Int).bmod 4294967296 = ((v : Int) - ((4294967296 : Nat) : Int)).bmod 4294967296
          rw [Int.sub_bmod_right]
        rw [hl, e]
        unfold f_Integer_numberOfLeadingZeros
        simp only [iZ_lit]
        have ht : (iZ ((v : Int) - 4294967296)).toInt = (v : Int) - 4294967296 := Int32.toInt_ofInt_of_le (by omega) (by omega)
        rw [if_neg (by rw [Int32.lt_iff_toInt_lt, ht, iZ_int (bd_lit 0 rfl)]; omega), if_pos (by rw [ne_eq, ← Int32.toInt_inj, ht, iZ_int (bd_lit 0 rfl)]; omega)]
        decide +kernel
  · have hq : 1 ≤ v / 4294967296 := by omega
    rw [if_pos (by rw [ne_eq, iZ_eq (bdN31 (by omega)) (bd_lit 0 rfl)]; omega), if_neg (by omega), nlz32 hq (by omega), show v / 4294967296 = v / 2 ^ 32 from rfl, log2_div (k := 32) (by omega)]
    have : 32 ≤ v.log2 := (Nat.le_log2 (by omega)).mpr (by omega)
    congr 1
    omega

theorem digits_Z {v : Nat} (hv : v < 4611686018427387904) : f_Whole_digits (jZ v) = iZ (bln v) := by
  unfold f_Whole_digits
  rw [nlz64 hv, iZ_lit, iZ_sub]
  congr 1
  omega
theorem newton_ge {v r : Nat} (hr : 0 < r) : rtN v ≤ (r + v / r) / 2 := by
  obtain ⟨h1, h2⟩ := rtN_ok v
  obtain ⟨s, hs⟩ : ∃ s, s = rtN v := ⟨_, rfl⟩
  rw [← hs] at h1 h2 ⊢
  have h3 : r * (2 * s) ≤ r * r + v := by
    have : r * r + s * s ≥ r * (2 * s) := by
      rcases Nat.le_total r s with q | q
      · obtain ⟨d, rfl⟩ : ∃ d, s = r + d := ⟨s - r, by omega⟩
        have e : r * r + (r + d) * (r + d) = r * (2 * (r + d)) + d * d := by grind
        omega
      · obtain ⟨d, rfl⟩ : ∃ d, r = s + d := ⟨r - s, by omega⟩
        have e : (s + d) * (s + d) + s * s = (s + d) * (2 * s) + d * d := by grind
        omega
    omega
  have h4 : 2 * s ≤ (r * r + v) / r := (Nat.le_div_iff_mul_le hr).mpr (by rw [Nat.mul_comm]; exact h3)
  rw [Nat.mul_add_div hr] at h4
  omega
theorem newton_le {v r : Nat} (hr : rtN v < r) : v / r ≤ rtN v := by
  obtain ⟨h1, h2⟩ := rtN_ok v
  have : v / r < rtN v + 1 := by
    rw [Nat.div_lt_iff_lt_mul (by omega)]
    have : (rtN v + 1) * (rtN v + 1) ≤ (rtN v + 1) * r := Nat.mul_le_mul_left _ (by omega)
    omega
  omega
/-- what the class's root answers -/
def rootA (v : Nat) : Int64 := if rtN v * rtN v = v then jZ (rtN v) else jZ (-1)
theorem rootEnd {v : Nat} (hv : v < 4611686018427387904) {r : Nat} (hr : r = rtN v) : (if (jZ r * jZ r) ≠ jZ v then some (jZ (-1)) else some (jZ r)) = some (rootA v) := by
  subst hr
  unfold rootA
  have hl := rt_lt (v := v) (by omega)
  have hmm : rtN v * rtN v ≤ 3037000499 * 3037000499 := Nat.mul_le_mul hl hl
  rw [jZ_mul, ← Int.natCast_mul]
  by_cases q : rtN v * rtN v = v
  · rw [if_pos q, if_neg (fun h => h (by rw [q]))]
  · rw [if_neg q, if_pos (by rw [ne_eq, jZ_eq (bdN63 (by omega)) (bdN63 (by omega))]; omega)]
theorem jdiv_N {a b : Nat} (ha : a < 9223372036854775808) (hb : b < 9223372036854775808) : jZ a / jZ b = jZ ((a / b : Nat) : Int) := by
  rw [jZ_div (bdN63 ha) (bdN63 hb), nat_div]
theorem newtonL (N : Nat) : ∀ (k n st v r : Nat), v < 4611686018427387904 → rtN v ≤ r → r - rtN v < 2 ^ k → r ≤ 4294967296 → k + 2 ≤ n → st + k < 64 → f_Whole_rootOf_l41 N n (jZ v) (jZ r) (iZ st) = some (rootA v) := by
  intro k
  induction k with
  | zero =>
    intro n st v r hv h1 h2 h3 hn hs
    obtain ⟨n, rfl⟩ : ∃ j, n = j + 1 := ⟨n - 1, by omega⟩
    have e : r = rtN v := by omega
    rw [f_Whole_rootOf_l41]
    simp only [iZ_lit, jZ_lit, jZ_neg]
    rw [if_neg (by rw [iZ_le (bd_lit _ rfl) ⟨by omega, by omega⟩]; omega)]
    by_cases c : r = 0
    · rw [if_pos (by rw [jZ_le (bdN63 (by omega)) (bd_lit 0 rfl)]; omega)]
      exact rootEnd hv e
    · rw [if_neg (by rw [jZ_le (bdN63 (by omega)) (bd_lit 0 rfl)]; omega)]
      have hd : v / r ≤ v := Nat.div_le_self _ _
      have hg := newton_ge (v := v) (r := r) (by omega)
      rw [jdiv_N (by omega) (by omega), jZ_add, ← Int.natCast_add, show (jZ 2) = jZ ((2 : Nat) : Int) from rfl, jdiv_N (by omega) (by omega), if_neg (by rw [jZ_lt (bdN63 (by omega)) (bdN63 (by omega))]; omega)]
      exact rootEnd hv e
  | succ k ih =>
    intro n st v r hv h1 h2 h3 hn hs
    obtain ⟨n, rfl⟩ : ∃ j, n = j + 1 := ⟨n - 1, by omega⟩
    have h2k : 2 ^ (k + 1) = 2 ^ k * 2 := Nat.pow_succ ..
    rw [f_Whole_rootOf_l41]
    simp only [iZ_lit, jZ_lit, jZ_neg]
    rw [if_neg (by rw [iZ_le (bd_lit _ rfl) ⟨by omega, by omega⟩]; omega)]
    by_cases c : r = 0
    · rw [if_pos (by rw [jZ_le (bdN63 (by omega)) (bd_lit 0 rfl)]; omega)]
      exact rootEnd hv (by omega)
    · rw [if_neg (by rw [jZ_le (bdN63 (by omega)) (bd_lit 0 rfl)]; omega)]
      have hd : v / r ≤ v := Nat.div_le_self _ _
      have hg := newton_ge (v := v) (r := r) (by omega)
      rw [jdiv_N (by omega) (by omega), jZ_add, ← Int.natCast_add, show (jZ 2) = jZ ((2 : Nat) : Int) from rfl, jdiv_N (by omega) (by omega)]
      by_cases q : (r + v / r) / 2 < r
      · rw [if_pos (by rw [jZ_lt (bdN63 (by omega)) (bdN63 (by omega))]; omega), iZ_add]
        have hq : rtN v < r := by omega
        have hl := newton_le hq
        exact ih n (st + 1) v ((r + v / r) / 2) hv hg (by omega) (by omega) (by omega) (by omega)
      · rw [if_neg (by rw [jZ_lt (bdN63 (by omega)) (bdN63 (by omega))]; omega)]
        refine rootEnd hv ?_
        rcases Nat.lt_or_ge (rtN v) r with hq | hq
        · have hl := newton_le hq
          omega
        · omega
theorem shl1 : ∀ k, k < 34 → (1 : Int64) <<< ((iZ ((k : Nat) : Int)).toInt64 &&& 63) = jZ ((2 ^ k : Nat) : Int) := by decide +kernel
theorem rootOf_N {N : Nat} (hN : 10000 ≤ N) {v : Nat} (hv : v < 4611686018427387904) : f_Whole_rootOf N (jZ v) = some (rootA v) := by
  unfold f_Whole_rootOf
  have hmin : (-1 : Int64) = jZ (-1) := by decide +kernel
  rw [land63 (by omega), if_neg (by rw [jZ_lit, jZ_lt (bdN63 (by omega)) (bd_lit 0 rfl)]; omega), show lrem (jZ (v : Int)) (63 : Int64) = jZ ((v % 63 : Nat) : Int) from jrem_N (b := 63) (by omega) (by omega), j2i, hmin]
  have sqm : rtN v * rtN v = v → ∀ q : Nat, v % q = (rtN v % q) * (rtN v % q) % q := fun h q => by
    rw [← Nat.mul_mod, h]
  by_cases c1 : ((lushr (144680414395695635 : Int64) (iZ ((v % 64 : Nat) : Int))) &&& (1 : Int64)) ≠ (0 : Int64)
  · rw [if_pos c1]
    by_cases c2 : ((lushr (288872697407275667 : Int64) (iZ ((v % 63 : Nat) : Int))) &&& (1 : Int64)) ≠ (0 : Int64)
    · rw [if_pos c2, nlz64 hv]
      have hb : bln v ≤ 62 := by
        unfold bln
        by_cases h0 : v = 0
        · rw [if_pos h0]; omega
        · rw [if_neg h0]
          have := (Nat.log2_lt h0 (k := 62)).mpr (by omega)
          omega
      have e : ((65 : Int32) - iZ (64 - bln v)) / (2 : Int32) = iZ (((bln v + 1) / 2 : Nat) : Int) := by
        rw [iZ_lit, iZ_lit, iZ_sub, iZ_div ⟨by omega, by omega⟩ (bd_lit _ rfl), show (65 : Int) - (64 - (bln v : Int)) = ((bln v + 1 : Nat) : Int) from by omega]
        exact congrArg iZ (nat_div (a := bln v + 1) (b := 2))
      rw [e, shl1 _ (by omega)]
      have hge : v < 2 ^ ((bln v + 1) / 2) * 2 ^ ((bln v + 1) / 2) := by
        rw [← Nat.pow_add]
        have h5 : v < 2 ^ bln v := by
          unfold bln
          by_cases h0 : v = 0
          · rw [if_pos h0]; omega
          · rw [if_neg h0]
            exact Nat.lt_log2_self
        exact Nat.lt_of_lt_of_le h5 (Nat.pow_le_pow_right (by omega) (by omega))
      obtain ⟨g1, g2⟩ := rtN_ok v
      have hlt : rtN v < 2 ^ ((bln v + 1) / 2) := sq_lt (by omega)
      have hle : 2 ^ ((bln v + 1) / 2) ≤ 2 ^ 32 := Nat.pow_le_pow_right (by omega) (by omega)
      exact newtonL N 33 N 0 v _ hv (by omega) (by omega) (by omega) (by omega) (by omega)
    · rw [if_neg c2]
      unfold rootA
      rw [if_neg (fun h => c2 (by rw [sqm h 63]; exact mask63 (rtN v % 63) (Nat.mod_lt _ (by omega))))]
  · rw [if_neg c1]
    unfold rootA
    rw [if_neg (fun h => c1 (by rw [sqm h 64]; exact mask64 (rtN v % 64) (Nat.mod_lt _ (by omega))))]
/-- the class's root of any number in bounds: the root where it is a square, else -1 -/
def rtA (z : Int) : Int := if isq z = true then (rtN z.toNat : Int) else -1
theorem rootOf_Z {N : Nat} (hN : 10000 ≤ N) {z : Int} (hz : bd 4611686018427387903 z) : f_Whole_rootOf N (jZ z) = some (jZ (rtA z)) := by
  have h1 := hz.1
  have h2 := hz.2
  unfold rtA isq
  by_cases c : z < 0
  · unfold f_Whole_rootOf
    rw [if_pos (by rw [jZ_lit, jZ_lt ⟨by omega, by omega⟩ (bd_lit 0 rfl)]; exact c), show decide (0 ≤ z) = false from decide_eq_false (by omega), Bool.false_and, if_neg (by decide)]
    decide +kernel
  · obtain ⟨v, rfl⟩ : ∃ v : Nat, z = v := ⟨z.toNat, by omega⟩
    rw [rootOf_N hN (by omega)]
    unfold rootA
    rw [Int.toNat_natCast, show decide ((0 : Int) ≤ (v : Int)) = true from decide_eq_true (by omega), Bool.true_and]
    by_cases q : rtN v * rtN v = v
    · rw [if_pos q, if_pos (decide_eq_true q)]
    · rw [if_neg q, if_neg (by rw [decide_eq_true_eq]; exact q)]
