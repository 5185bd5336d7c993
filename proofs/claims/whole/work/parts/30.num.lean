/-! NUMBERS: the machine's ints and longs as whole numbers; 'iZ z', 'jZ z' are rings' maps: no bound is wanted for + - * -/
def iZ (z : Int) : Int32 := Int32.ofInt z
def jZ (z : Int) : Int64 := Int64.ofInt z
/-- within -A .. A -/
def bd (A z : Int) : Prop := -A ≤ z ∧ z ≤ A
theorem iZ_lit (n : Nat) : (no_index (OfNat.ofNat n) : Int32) = iZ (OfNat.ofNat n) := Int32.ofInt_eq_ofNat.symm
theorem jZ_lit (n : Nat) : (no_index (OfNat.ofNat n) : Int64) = jZ (OfNat.ofNat n) := Int64.ofInt_eq_ofNat.symm
theorem iZ_add (x y : Int) : iZ x + iZ y = iZ (x + y) := (Int32.ofInt_add x y).symm
theorem iZ_sub (x y : Int) : iZ x - iZ y = iZ (x - y) := (Int32.ofInt_sub x y).symm
theorem iZ_mul (x y : Int) : iZ x * iZ y = iZ (x * y) := (Int32.ofInt_mul x y).symm
theorem iZ_neg (x : Int) : -iZ x = iZ (-x) := (Int32.ofInt_neg x).symm
theorem jZ_add (x y : Int) : jZ x + jZ y = jZ (x + y) := (Int64.ofInt_add x y).symm
theorem jZ_sub (x y : Int) : jZ x - jZ y = jZ (x - y) := (Int64.ofInt_sub x y).symm
theorem jZ_mul (x y : Int) : jZ x * jZ y = jZ (x * y) := (Int64.ofInt_mul x y).symm
theorem jZ_neg (x : Int) : -jZ x = jZ (-x) := (Int64.ofInt_neg x).symm
theorem iZ_self (x : Int32) : iZ x.toInt = x := Int32.ofInt_toInt x
theorem jZ_self (x : Int64) : jZ x.toInt = x := Int64.ofInt_toInt x
theorem iZ_int {z : Int} (h : bd 2147483647 z) : (iZ z).toInt = z := Int32.toInt_ofInt_of_le (by have := h.1; omega) (by have := h.2; omega)
theorem jZ_int {z : Int} (h : bd 9223372036854775807 z) : (jZ z).toInt = z := Int64.toInt_ofInt_of_le (by have := h.1; omega) (by have := h.2; omega)
theorem i_bd (x : Int32) : -2147483648 ≤ x.toInt ∧ x.toInt < 2147483648 := ⟨by have := Int32.le_toInt x; simpa using this, by have := Int32.toInt_lt x; simpa using this⟩
theorem j_bd (x : Int64) : -9223372036854775808 ≤ x.toInt ∧ x.toInt < 9223372036854775808 := ⟨by have := Int64.le_toInt x; simpa using this, by have := Int64.toInt_lt x; simpa using this⟩
theorem j2i (z : Int) : (jZ z).toInt32 = iZ z := Int64.toInt32_ofInt
theorem i2j {z : Int} (h : bd 2147483647 z) : (iZ z).toInt64 = jZ z := by
  have e : (iZ z).toInt64.toInt = (jZ z).toInt := by
    rw [Int32.toInt_toInt64, iZ_int h, jZ_int ⟨by have := h.1; omega, by have := h.2; omega⟩]
  exact Int64.toInt_inj.mp e
theorem iZ_lt {x y : Int} (hx : bd 2147483647 x) (hy : bd 2147483647 y) : (iZ x < iZ y) = (x < y) := by
  rw [Int32.lt_iff_toInt_lt, iZ_int hx, iZ_int hy]
theorem iZ_le {x y : Int} (hx : bd 2147483647 x) (hy : bd 2147483647 y) : (iZ x ≤ iZ y) = (x ≤ y) := by
  rw [Int32.le_iff_toInt_le, iZ_int hx, iZ_int hy]
theorem iZ_eq {x y : Int} (hx : bd 2147483647 x) (hy : bd 2147483647 y) : (iZ x = iZ y) = (x = y) := by
  rw [← Int32.toInt_inj, iZ_int hx, iZ_int hy]
theorem jZ_lt {x y : Int} (hx : bd 9223372036854775807 x) (hy : bd 9223372036854775807 y) : (jZ x < jZ y) = (x < y) := by
  rw [Int64.lt_iff_toInt_lt, jZ_int hx, jZ_int hy]
theorem jZ_le {x y : Int} (hx : bd 9223372036854775807 x) (hy : bd 9223372036854775807 y) : (jZ x ≤ jZ y) = (x ≤ y) := by
  rw [Int64.le_iff_toInt_le, jZ_int hx, jZ_int hy]
theorem jZ_eq {x y : Int} (hx : bd 9223372036854775807 x) (hy : bd 9223372036854775807 y) : (jZ x = jZ y) = (x = y) := by
  rw [← Int64.toInt_inj, jZ_int hx, jZ_int hy]
theorem bd_mono {A B z : Int} (h : bd A z) (hAB : A ≤ B) : bd B z := ⟨by have := h.1; omega, by have := h.2; omega⟩
theorem bd_add {A B x y : Int} (hx : bd A x) (hy : bd B y) : bd (A + B) (x + y) := ⟨by have := hx.1; have := hy.1; omega, by have := hx.2; have := hy.2; omega⟩
theorem bd_sub {A B x y : Int} (hx : bd A x) (hy : bd B y) : bd (A + B) (x - y) := ⟨by have := hx.1; have := hy.2; omega, by have := hx.2; have := hy.1; omega⟩
theorem bd_neg {A x : Int} (hx : bd A x) : bd A (-x) := ⟨by have := hx.2; omega, by have := hx.1; omega⟩
theorem bd_nat {A : Nat} {z : Int} : bd (A : Int) z ↔ z.natAbs ≤ A := by unfold bd; omega
theorem bd_mul {A B x y : Int} (hx : bd A x) (hy : bd B y) : bd (A * B) (x * y) := by
  obtain ⟨a, rfl⟩ : ∃ a : Nat, A = a := ⟨A.toNat, by have := hx.1; have := hx.2; omega⟩
  obtain ⟨b, rfl⟩ : ∃ b : Nat, B = b := ⟨B.toNat, by have := hy.1; have := hy.2; omega⟩
  rw [← Int.natCast_mul, bd_nat, Int.natAbs_mul]
  exact Nat.mul_le_mul (bd_nat.mp hx) (bd_nat.mp hy)
theorem bd_lit {A : Int} (z : Int) (h : decide (-A ≤ z ∧ z ≤ A) = true) : bd A z := of_decide_eq_true (p := -A ≤ z ∧ z ≤ A) h
theorem tdiv_abs (a b : Int) : (a.tdiv b).natAbs ≤ a.natAbs := by
  rw [Int.natAbs_tdiv]
  exact Nat.div_le_self _ _
theorem bd_tdiv {A x : Int} (y : Int) (hx : bd A x) : bd A (x.tdiv y) := by
  have := tdiv_abs x y
  have := hx.1
  have := hx.2
  constructor <;> omega
theorem jZ_div {x y : Int} (hx : bd 9223372036854775807 x) (hy : bd 9223372036854775807 y) : jZ x / jZ y = jZ (x.tdiv y) := by
  have e : (jZ x / jZ y).toInt = (jZ (x.tdiv y)).toInt := by
    rw [Int64.toInt_div, jZ_int hx, jZ_int hy, jZ_int (bd_tdiv y hx)]
    have h := bd_tdiv y hx
    exact Int.bmod_eq_of_le (by have := h.1; omega) (by have := h.2; omega)
  exact Int64.toInt_inj.mp e
theorem iZ_div {x y : Int} (hx : bd 2147483647 x) (hy : bd 2147483647 y) : iZ x / iZ y = iZ (x.tdiv y) := by
  have e : (iZ x / iZ y).toInt = (iZ (x.tdiv y)).toInt := by
    rw [Int32.toInt_div, iZ_int hx, iZ_int hy, iZ_int (bd_tdiv y hx)]
    have h := bd_tdiv y hx
    exact Int.bmod_eq_of_le (by have := h.1; omega) (by have := h.2; omega)
  exact Int32.toInt_inj.mp e
theorem tmod_eq (x y : Int) : x - x.tdiv y * y = x.tmod y := by
  have := Int.tdiv_mul_add_tmod x y
  omega
theorem jZ_rem {x y : Int} (hx : bd 9223372036854775807 x) (hy : bd 9223372036854775807 y) : lrem (jZ x) (jZ y) = jZ (x.tmod y) := by
  unfold lrem
  rw [jZ_div hx hy, jZ_mul, jZ_sub, tmod_eq]
theorem iZ_rem {x y : Int} (hx : bd 2147483647 x) (hy : bd 2147483647 y) : irem (iZ x) (iZ y) = iZ (x.tmod y) := by
  unfold irem
  rw [iZ_div hx hy, iZ_mul, iZ_sub, tmod_eq]
theorem nat_rem {a b : Nat} : ((a : Int)).tmod (b : Int) = ((a % b : Nat) : Int) := (Int.ofNat_tmod a b).symm
theorem nat_div {a b : Nat} : ((a : Int)).tdiv (b : Int) = ((a / b : Nat) : Int) := (Int.ofNat_tdiv a b).symm
theorem iZ_idx {z : Int} (h0 : 0 ≤ z) (h : z < 2147483648) : (iZ z).toNatClampNeg = z.toNat := Int32.toNatClampNeg_ofInt_of_le (by omega) (by omega)
theorem nI_iZ (n : Nat) : nI n = iZ n := Int32.ofInt_eq_ofNat.symm
theorem iabs_Z {z : Int} (h : bd 2147483647 z) : iabs (iZ z) = iZ z.natAbs := by
  unfold iabs
  simp only [iZ_lit, iZ_le (bd_lit 0 rfl) h, iZ_sub]
  by_cases h0 : (0 : Int) ≤ z
  · rw [if_pos h0]; congr 1; omega
  · rw [if_neg h0]; congr 1; omega
theorem labs_Z {z : Int} (h : bd 9223372036854775807 z) : labs (jZ z) = jZ z.natAbs := by
  unfold labs
  simp only [jZ_lit, jZ_lt (bd_lit 0 rfl) h, jZ_neg]
  by_cases h0 : (0 : Int) < z
  · rw [if_pos h0]; congr 1; omega
  · rw [if_neg h0]; congr 1; omega
theorem imax_Z {x y : Int} (hx : bd 2147483647 x) (hy : bd 2147483647 y) : imax (iZ x) (iZ y) = iZ (max x y) := by
  unfold imax
  simp only [iZ_lt hx hy]
  by_cases h : x < y
  · rw [if_pos h]; congr 1; omega
  · rw [if_neg h]; congr 1; omega
theorem imin_Z {x y : Int} (hx : bd 2147483647 x) (hy : bd 2147483647 y) : imin (iZ x) (iZ y) = iZ (min x y) := by
  unfold imin
  simp only [iZ_lt hy hx]
  by_cases h : y < x
  · rw [if_pos h]; congr 1; omega
  · rw [if_neg h]; congr 1; omega
theorem lmax_Z {x y : Int} (hx : bd 9223372036854775807 x) (hy : bd 9223372036854775807 y) : lmax (jZ x) (jZ y) = jZ (max x y) := by
  unfold lmax
  simp only [jZ_lt hy hx]
  by_cases h : y < x
  · rw [if_pos h]; congr 1; omega
  · rw [if_neg h]; congr 1; omega
theorem iushr_Z {x k : Nat} (hx : x < 2147483648) (hk : k < 32) : iushr (iZ x) (iZ k) = iZ ((x / 2 ^ k : Nat) : Int) := by
  unfold iushr
  have hk32 : k < 4294967296 := by omega
  have e1 : (iZ (k : Int)).toUInt32 = UInt32.ofNat k := by
    show (Int32.ofInt (k : Int)).toUInt32 = _
    rw [Int32.ofInt_eq_ofNat]; rfl
  have e2 : (iZ (x : Int)).toUInt32 = UInt32.ofNat x := by
    show (Int32.ofInt (x : Int)).toUInt32 = _
    rw [Int32.ofInt_eq_ofNat]; rfl
  have e3 : Int32.toUInt32 31 = UInt32.ofNat 31 := rfl
  rw [e1, e2, e3]
  have e4 : UInt32.ofNat k &&& UInt32.ofNat 31 = UInt32.ofNat k := by
    apply UInt32.toNat_inj.mp
    rw [UInt32.toNat_and, UInt32.toNat_ofNat', UInt32.toNat_ofNat']
    show k % 2 ^ 32 &&& 31 % 2 ^ 32 = k % 2 ^ 32
    rw [Nat.mod_eq_of_lt (by omega : k < 2 ^ 32), show 31 % 2 ^ 32 = 2 ^ 5 - 1 from rfl, Nat.and_two_pow_sub_one_eq_mod]
    exact Nat.mod_eq_of_lt (by omega)
  rw [e4]
  have e5 : UInt32.ofNat x >>> UInt32.ofNat k = UInt32.ofNat (x / 2 ^ k) := by
    apply UInt32.toNat_inj.mp
    rw [UInt32.toNat_shiftRight, UInt32.toNat_ofNat', UInt32.toNat_ofNat', UInt32.toNat_ofNat', Nat.mod_eq_of_lt (by omega : k < 2 ^ 32), Nat.mod_eq_of_lt (by omega : x < 2 ^ 32), Nat.mod_eq_of_lt hk, Nat.shiftRight_eq_div_pow]
    exact (Nat.mod_eq_of_lt (Nat.lt_of_le_of_lt (Nat.div_le_self _ _) (by omega))).symm
  rw [e5]
  show _ = Int32.ofInt _
  rw [Int32.ofInt_eq_ofNat]; rfl
