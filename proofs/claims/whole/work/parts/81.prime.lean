/-! PRIMES 3 .. 97 -/
def opr : List Nat := [3, 5, 7, 11, 13, 17, 19, 23, 29, 31, 37, 41, 43, 47, 53, 59, 61, 67, 71, 73, 79, 83, 89, 97]
def apr : List Nat := 2 :: opr
/-- the class's row of primes -/
def CP (σ : aSt) : Prop := ∀ k, k < 25 → σ.1 87 k = iZ ((apr.getD k 0 : Nat) : Int)
def prm (z : Int) : Bool := decide (0 ≤ z ∧ z.toNat ∈ opr)
theorem opr_bd : ∀ q ∈ opr, 3 ≤ q ∧ q ≤ 97 := by decide +kernel
theorem opr_pr : ∀ q ∈ opr, ∀ d, d < q → 2 ≤ d → q % d ≠ 0 := by decide +kernel
theorem opr_ix : ∀ q ∈ opr, ∃ i, i < 25 ∧ apr.getD i 0 = q := by decide +kernel
theorem apr_or : ∀ i, i < 25 → apr.getD i 0 = 2 ∨ apr.getD i 0 ∈ opr := by decide +kernel
theorem prm_nat {q : Nat} : prm (q : Int) = decide (q ∈ opr) := by
  unfold prm
  rw [Int.toNat_natCast]
  by_cases c : q ∈ opr
  · rw [decide_eq_true c, decide_eq_true ⟨by omega, c⟩]
  · rw [decide_eq_false c, decide_eq_false (fun h => c h.2)]
theorem prm_out {z : Int} (h : z < 3 ∨ 97 < z) : prm z = false := by
  unfold prm
  refine decide_eq_false (fun q => ?_)
  have := opr_bd _ q.2
  omega
theorem prm_ex {z : Int} (h : prm z = true) : ∃ q : Nat, z = q ∧ q ∈ opr := by
  unfold prm at h
  rw [decide_eq_true_eq] at h
  exact ⟨z.toNat, by omega, h.2⟩
/-- a prime that goes into a product goes into one of the two -/
theorem eucl {p : Nat} (hp : p ∈ opr) {x y : Int} (h : (p : Int) ∣ x * y) : (p : Int) ∣ x ∨ (p : Int) ∣ y := by
  rw [Int.ofNat_dvd_left, Int.natAbs_mul] at h
  rw [Int.ofNat_dvd_left, Int.ofNat_dvd_left]
  have hb := opr_bd p hp
  by_cases c : p ∣ x.natAbs
  · exact Or.inl c
  · have g1 : Nat.gcd p x.natAbs ∣ p := Nat.gcd_dvd_left _ _
    have g2 : Nat.gcd p x.natAbs ∣ x.natAbs := Nat.gcd_dvd_right _ _
    have g0 : 0 < Nat.gcd p x.natAbs := Nat.gcd_pos_of_pos_left _ (by omega)
    have g3 := Nat.le_of_dvd (by omega) g1
    have g4 : Nat.gcd p x.natAbs ≠ p := fun e => c (by rw [e] at g2; exact g2)
    have g5 : Nat.gcd p x.natAbs = 1 := by
      apply Classical.byContradiction
      intro q
      exact opr_pr p hp (Nat.gcd p x.natAbs) (by omega) (by omega) (Nat.mod_eq_zero_of_dvd g1)
    exact Or.inr (Nat.Coprime.dvd_of_dvd_mul_left g5 h)
theorem tm_em {z : Int} {p : Nat} (hp : 0 < p) : (0 ≤ z.tmod p ∧ z.tmod p < p ∧ z.tmod p = z % p) ∨ (z.tmod p < 0 ∧ -(p : Int) < z.tmod p ∧ z.tmod p + p = z % p) := by
  have h1 := Int.mul_tdiv_add_tmod z p
  have h2 : (z.tmod p).natAbs < p := by
    rw [Int.natAbs_tmod, Int.natAbs_natCast]
    exact Nat.mod_lt _ hp
  have h3 : z % p = z.tmod p % p := by
    have e : ((p : Int) * z.tdiv p + z.tmod p) % p = z.tmod p % p := Int.mul_add_emod_self_left _ _ _
    rw [h1] at e; exact e
  by_cases c : 0 ≤ z.tmod p
  · refine Or.inl ⟨c, by omega, ?_⟩
    rw [h3, Int.emod_eq_of_lt c (by omega)]
  · refine Or.inr ⟨by omega, by omega, ?_⟩
    rw [h3]
    have e : (z.tmod p + (p : Int) * 1) % p = z.tmod p % p := Int.add_mul_emod_self_left _ _ _
    rw [Int.mul_one] at e
    rw [← e, Int.emod_eq_of_lt (by omega) (by omega)]
theorem em_bd (z : Int) {p : Nat} (hp : 0 < p) : 0 ≤ z % p ∧ z % p < p := ⟨Int.emod_nonneg _ (by omega), Int.emod_lt_of_pos _ (by omega)⟩
theorem residue_ok {N : Nat} {z : Int} (hz : bd 9223372036854775807 z) {p : Nat} (hp : 0 < p) (hp2 : p ≤ 100000) : f_Whole_residue N (jZ z) (iZ p) = some (iZ (z % p)) := by
  unfold f_Whole_residue
  rw [if_pos (by rw [show (0 : Int32) = iZ 0 from rfl, iZ_lt (bd_lit _ rfl) ⟨by omega, by omega⟩]; omega), i2j ⟨by omega, by omega⟩, if_pos (by rw [show (0 : Int64) = jZ 0 from rfl, jZ_eq ⟨by omega, by omega⟩ (bd_lit _ rfl)]; omega), jZ_rem hz ⟨by omega, by omega⟩, j2i, iZ_add]
  rcases tm_em (z := z) hp with ⟨a1, a2, a3⟩ | ⟨a1, a2, a3⟩
  · rw [if_pos (by rw [show (0 : Int32) = iZ 0 from rfl, iZ_le (bd_lit _ rfl) ⟨by omega, by omega⟩]; omega), a3]
  · rw [if_neg (by rw [show (0 : Int32) = iZ 0 from rfl, iZ_le (bd_lit _ rfl) ⟨by omega, by omega⟩]; omega), a3]
theorem mod_ok {N : Nat} {z : Int} (hz : bd 9223372036854775807 z) {p : Nat} (hp : 0 < p) (hp2 : p ≤ 100000) : f_M_mod N (jZ z) (iZ p) = some (iZ (z % p)) := by
  unfold f_M_mod
  rw [i2j ⟨by omega, by omega⟩, if_pos (by rw [show (0 : Int64) = jZ 0 from rfl, jZ_eq ⟨by omega, by omega⟩ (bd_lit _ rfl)]; omega), jZ_rem hz ⟨by omega, by omega⟩, jZ_add]
  have eb := em_bd z hp
  rcases tm_em (z := z) hp with ⟨a1, a2, a3⟩ | ⟨a1, a2, a3⟩
  · rw [jZ_rem ⟨by omega, by omega⟩ ⟨by omega, by omega⟩, j2i, Int.tmod_eq_emod_of_nonneg (by omega)]
    have e : (z.tmod p + (p : Int) * 1) % p = z.tmod p % p := Int.add_mul_emod_self_left _ _ _
    rw [Int.mul_one] at e
    rw [e, a3, Int.emod_eq_of_lt eb.1 eb.2]
  · rw [a3, jZ_rem ⟨by omega, by omega⟩ ⟨by omega, by omega⟩, j2i, Int.tmod_eq_emod_of_nonneg eb.1, Int.emod_eq_of_lt eb.1 eb.2]
theorem irem_nn {x : Int} (h0 : 0 ≤ x) (h1 : x < 2147483648) {p : Nat} (hp : 0 < p) (hp2 : p ≤ 100000) : irem (iZ x) (iZ p) = iZ (x % p) := by
  rw [iZ_rem ⟨by omega, by omega⟩ ⟨by omega, by omega⟩, Int.tmod_eq_emod_of_nonneg h0]
theorem irem_0 {x : Int} (hx : bd 2147483647 x) {p : Nat} (hp : 0 < p) (hp2 : p ≤ 100000) : (irem (iZ x) (iZ p) = 0) = (x % p = 0) := by
  have eb := em_bd x hp
  rw [iZ_rem hx ⟨by omega, by omega⟩, show (0 : Int32) = iZ 0 from rfl]
  rcases tm_em (z := x) hp with ⟨a1, a2, a3⟩ | ⟨a1, a2, a3⟩
  · rw [iZ_eq ⟨by omega, by omega⟩ (bd_lit _ rfl), a3]
  · rw [iZ_eq ⟨by omega, by omega⟩ (bd_lit _ rfl)]; apply propext; omega
theorem ipL : ∀ (n N k : Nat) (v d : Int32) (r : Bool), f_M_isPrime_l10 0 n v d = some r → f_M_isPrime_l10 N (n + k) v d = some r := by
  intro n
  induction n with
  | zero => intro N k v d r h; cases h
  | succ n ih =>
    intro N k v d r h
    rw [show n + 1 + k = (n + k) + 1 by omega, f_M_isPrime_l10]
    rw [f_M_isPrime_l10] at h
    by_cases c1 : v < d * d
    · rw [if_pos c1] at h ⊢; exact h
    · rw [if_neg c1] at h ⊢
      by_cases c2 : ¬ d = 0
      · rw [if_pos c2] at h ⊢
        by_cases c3 : irem v d ≠ 0
        · rw [if_pos c3] at h ⊢; exact ih N k _ _ r h
        · rw [if_neg c3] at h ⊢; exact h
      · rw [if_neg c2] at h; cases h
theorem ipT : ∀ p, p < 98 → 3 ≤ p → f_M_isPrime_l10 0 20 (iZ ((p : Nat) : Int)) 2 = some (decide (p ∈ opr)) := by decide +kernel
theorem isPrime_ok {N : Nat} (hN : 10000 ≤ N) (p : Int32) : f_M_isPrime N p = some (prm p.toInt) := by
  unfold f_M_isPrime
  have q1 : (p < (3 : Int32)) = (p.toInt < 3) := pl_lt (y := 3) (bd_lit _ rfl)
  have q2 : (p ≤ (97 : Int32)) = (p.toInt ≤ 97) := pl_le (y := 97) (bd_lit _ rfl)
  simp only [q1, q2]
  by_cases c1 : p.toInt < 3
  · rw [if_pos c1, prm_out (Or.inl c1)]
  · rw [if_neg c1]
    by_cases c2 : p.toInt ≤ 97
    · rw [if_pos c2]
      obtain ⟨q, hq⟩ : ∃ q : Nat, p.toInt = q := ⟨p.toInt.toNat, by omega⟩
      rw [lit32 hq]
      have h := ipL 20 N (N - 20) _ _ _ (ipT q (by omega) (by omega))
      rw [show 20 + (N - 20) = N by omega] at h
      have e : (iZ (q : Int)).toInt = q := by rw [iZ_int ⟨by omega, by omega⟩]
      rw [e, prm_nat]
      exact h
    · rw [if_neg c2, prm_out (Or.inr (by omega))]
theorem pix {N : Nat} {σ : aSt} (h : CP σ) (p : Int32) : ∀ j k n, k + j = 25 → j + 1 ≤ n → ∃ r, f_X_primeIndex_l2 N σ n p (iZ ((k : Nat) : Int)) = some r ∧ ((r = (-1 : Int32)) ↔ ∀ i, k ≤ i → i < 25 → iZ ((apr.getD i 0 : Nat) : Int) ≠ p) := by
  intro j
  induction j with
  | zero =>
    intro k n hk hn
    obtain ⟨n, rfl, _⟩ := fuel hn
    rw [f_X_primeIndex_l2, if_pos (by rw [show (25 : Int32) = iZ 25 from rfl, iZ_le (bd_lit _ rfl) ⟨by omega, by omega⟩]; omega)]
    exact ⟨_, rfl, fun _ i h1 h2 => by omega, fun _ => rfl⟩
  | succ j ih =>
    intro k n hk hn
    obtain ⟨n, rfl, hn'⟩ := fuel hn
    rw [f_X_primeIndex_l2, if_neg (by rw [show (25 : Int32) = iZ 25 from rfl, iZ_le (bd_lit _ rfl) ⟨by omega, by omega⟩]; omega), if_pos (by rw [show (0 : Int32) = iZ 0 from rfl, show (25 : Int32) = iZ 25 from rfl, iZ_le (bd_lit _ rfl) ⟨by omega, by omega⟩, iZ_lt ⟨by omega, by omega⟩ (bd_lit _ rfl)]; omega), iZ_idx (by omega) (by omega), Int.toNat_natCast, h k (by omega), i1]
    by_cases c : iZ ((apr.getD k 0 : Nat) : Int) ≠ p
    · rw [if_pos c]
      obtain ⟨r, h1, h2⟩ := ih (k + 1) n (by omega) hn'
      refine ⟨r, h1, fun q i a1 a2 => ?_, fun q => h2.mpr (fun i a1 a2 => q i (by omega) a2)⟩
      by_cases e : i = k
      · subst e; exact c
      · exact h2.mp q i (by omega) a2
    · rw [if_neg c]
      refine ⟨_, rfl, fun q => ?_, fun q => absurd (q k (Nat.le_refl _) (by omega)) c⟩
      rw [show (-1 : Int32) = iZ (-1) from rfl, iZ_eq ⟨by omega, by omega⟩ (bd_lit _ rfl)] at q
      omega
theorem primeIx {N : Nat} (hN : 10000 ≤ N) {σ : aSt} (h : CP σ) (p : Int32) : ∃ r, f_X_primeIndex N p σ = some r ∧ ((r = (-1 : Int32)) ↔ ¬ (p = 2 ∨ prm p.toInt = true)) := by
  obtain ⟨r, h1, h2⟩ := pix (N := N) h p 25 0 N (by omega) (by omega)
  refine ⟨r, h1, ?_⟩
  rw [h2]
  constructor
  · intro q c
    rcases c with c | c
    · subst c
      exact q 0 (by omega) (by omega) rfl
    · obtain ⟨n, e, hn⟩ := prm_ex c
      obtain ⟨i, i1, i2⟩ := opr_ix n hn
      exact q i (by omega) i1 (by rw [i2]; exact (lit32 e).symm)
  · intro q i _ i1 c
    apply q
    rcases apr_or i i1 with e | e
    · left; rw [← c, e]; rfl
    · right
      have hb := opr_bd _ e
      rw [← c, iZ_int ⟨by omega, by omega⟩, prm_nat]
      exact decide_eq_true e
/-- a prime BY which things are told -/
def gP (a b z : Int) : Bool := prm z && (decide (b % z ≠ 0) && decide ((a * a - 4 * b) % z ≠ 0))
theorem gP_ex {a b z : Int} (h : gP a b z = true) : ∃ q : Nat, z = q ∧ q ∈ opr ∧ ¬ (q : Int) ∣ b ∧ ¬ (q : Int) ∣ a * a - 4 * b := by
  unfold gP at h
  rw [Bool.and_eq_true, Bool.and_eq_true, decide_eq_true_eq, decide_eq_true_eq] at h
  obtain ⟨q, e, hq⟩ := prm_ex h.1
  subst e
  exact ⟨q, rfl, hq, fun d => h.2.1 (Int.emod_eq_zero_of_dvd d), fun d => h.2.2 (Int.emod_eq_zero_of_dvd d)⟩
section BYP
variable {a b : Int} {M E : Nat}
theorem cvc_bd (hc : CVc a b M E) : bd 60 a ∧ bd 200 b ∧ bd 4400 (a * a - 4 * b) ∧ bd 3600 (a * a) := by
  obtain ⟨h1, h2, _⟩ := hc
  have h3 := bd_mul h1 h1
  have := h3.1; have := h3.2; have := h2.1; have := h2.2
  exact ⟨h1, h2, ⟨by omega, by omega⟩, h3⟩
theorem besB (hc : CVc a b M E) {σ : aSt} (hx : XC a b M E σ) : f_X_besideB σ = iZ (a * a - 4 * b) := by
  unfold f_X_besideB f_PointList_a_11 f_PointList_b_11
  rw [hx.2.1, hx.2.2.1, show (4 : Int32) = iZ 4 from rfl, iZ_mul, iZ_mul, iZ_sub]
theorem byX {N : Nat} (hc : CVc a b M E) (hN : 10000 ≤ N) {σ : aSt} (h : RX a b M E σ) (hp : CP σ) (p : Int32) : f_X_isByPrime N p σ = some (gP a b p.toInt) := by
  obtain ⟨b1, b2, b3, b4⟩ := cvc_bd hc
  have := b2.1; have := b2.2; have := b3.1; have := b3.2
  obtain ⟨r, r1, r2⟩ := primeIx hN hp p
  unfold f_X_isByPrime
  rw [h.1, if_pos (c := true = true) rfl, r1, Option.bind_some, besB hc h.2]
  unfold f_PointList_b_11
  rw [h.2.2.2.1, i2j ⟨by omega, by omega⟩, i2j ⟨by omega, by omega⟩]
  by_cases c2 : p = 2
  · rw [if_pos c2]
    subst c2
    rfl
  · rw [if_neg c2]
    by_cases c3 : prm p.toInt = true
    · rw [if_neg (fun q => r2.mp q (Or.inr c3))]
      obtain ⟨q, e, hq⟩ := prm_ex c3
      have hb := opr_bd q hq
      have e1 := em_bd b (p := q) (by omega)
      have e2 := em_bd (a * a - 4 * b) (p := q) (by omega)
      rw [lit32 e, residue_ok ⟨by omega, by omega⟩ (by omega) (by omega), residue_ok ⟨by omega, by omega⟩ (by omega) (by omega), Option.bind_some, Option.bind_some, iZ_int ⟨by omega, by omega⟩]
      have q1 : (iZ (b % (q : Int)) = 0) = (b % (q : Int) = 0) := by rw [show (0 : Int32) = iZ 0 from rfl, iZ_eq ⟨by omega, by omega⟩ (bd_lit _ rfl)]
      have q2 : (iZ ((a * a - 4 * b) % (q : Int)) = 0) = ((a * a - 4 * b) % (q : Int) = 0) := by rw [show (0 : Int32) = iZ 0 from rfl, iZ_eq ⟨by omega, by omega⟩ (bd_lit _ rfl)]
      simp only [q1, q2]
      unfold gP
      rw [prm_nat, decide_eq_true hq]
      by_cases d1 : b % (q : Int) = 0
      · rw [if_pos d1, decide_eq_false (p := b % (q : Int) ≠ 0) (fun z => z d1)]; rfl
      · rw [if_neg d1, decide_eq_true (p := b % (q : Int) ≠ 0) d1]
        by_cases d2 : (a * a - 4 * b) % (q : Int) = 0
        · rw [if_pos d2, decide_eq_false (p := (a * a - 4 * b) % (q : Int) ≠ 0) (fun z => z d2)]; rfl
        · rw [if_neg d2, decide_eq_true (p := (a * a - 4 * b) % (q : Int) ≠ 0) d2]; rfl
    · rw [if_pos (r2.mpr (fun z => by rcases z with z | z; exact c2 z; exact c3 z))]
      unfold gP
      rw [ft_tt c3]; rfl
theorem byM {N : Nat} (hc : CVc a b M E) (hN : 10000 ≤ N) {τ : aSt} (h : RM a b M E τ) (p : Int32) : f_M_isGoodPrime N p τ = some (gP a b p.toInt) := by
  obtain ⟨b1, b2, b3, b4⟩ := cvc_bd hc
  have := b2.1; have := b2.2; have := b3.1; have := b3.2
  unfold f_M_isGoodPrime
  rw [h.1, if_pos (c := true = true) rfl, isPrime_ok hN, Option.bind_some, h.2.2.1, h.2.2.2.1, show (4 : Int32) = iZ 4 from rfl, iZ_mul, iZ_mul, iZ_sub]
  by_cases c3 : prm p.toInt = true
  · rw [if_pos c3]
    obtain ⟨q, e, hq⟩ := prm_ex c3
    have hb := opr_bd q hq
    rw [lit32 e, if_pos (by rw [show (0 : Int32) = iZ 0 from rfl, iZ_eq ⟨by omega, by omega⟩ (bd_lit _ rfl)]; omega), iZ_int ⟨by omega, by omega⟩]
    have q1 := irem_0 (x := b) ⟨by omega, by omega⟩ (p := q) (by omega) (by omega)
    have q2 := irem_0 (x := a * a - 4 * b) ⟨by omega, by omega⟩ (p := q) (by omega) (by omega)
    simp only [q1, q2]
    unfold gP
    rw [prm_nat, decide_eq_true hq]
    by_cases d1 : b % (q : Int) = 0
    · rw [if_pos d1, decide_eq_false (p := b % (q : Int) ≠ 0) (fun z => z d1)]; rfl
    · rw [if_neg d1, decide_eq_true (p := b % (q : Int) ≠ 0) d1]
      by_cases d2 : (a * a - 4 * b) % (q : Int) = 0
      · rw [if_pos d2, decide_eq_false (p := (a * a - 4 * b) % (q : Int) ≠ 0) (fun z => z d2)]; rfl
      · rw [if_neg d2, decide_eq_true (p := (a * a - 4 * b) % (q : Int) ≠ 0) d2]; rfl
  · rw [if_neg c3]
    unfold gP
    rw [ft_tt c3]; rfl
end BYP
