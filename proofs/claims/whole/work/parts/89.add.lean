/-! BY A PRIME: add, addsBy -/
def cdE : Option (Int × Int) → Int
  | none => -1
  | some P => P.1 * 128 + P.2
section BYP
variable {a b : Int}
theorem add83 {N : Nat} {p : Nat} (hp : p ∈ opr) {σ : aSt} (h : TKN p a b σ) {x1 y1 x2 v : Int} (h1 : 0 ≤ x1 ∧ x1 < p) (h2 : 0 ≤ y1 ∧ y1 < p) (h3 : 0 ≤ x2 ∧ x2 < p) (hv : bd 9223372036854775807 v) : f_PrimeGroup_add_b83 N (jZ x1) (jZ y1) (jZ x2) (jZ v) σ = some (iZ (cdE (ptS p a (v % p) x1 y1 x2))) := by
  have hb := opr_bd p hp
  obtain ⟨s, hs⟩ : ∃ s, s = v % (p : Int) := ⟨_, rfl⟩
  have sb := em_bd v (p := p) (by omega)
  rw [← hs] at sb
  have ea := em_bd a (p := p) (by omega)
  have m1 := mul_bd (x := s) (y := s) (A := 97) (B := 97) ⟨by omega, by omega⟩ ⟨by omega, by omega⟩
  obtain ⟨x3, hx3⟩ : ∃ x, x = (s * s - a - x1 - x2) % (p : Int) := ⟨_, rfl⟩
  have xb := em_bd (s * s - a - x1 - x2) (p := p) (by omega)
  rw [← hx3] at xb
  have m2 : bd 9409 (s * (x1 - x3)) := bd_mono (bd_mul (A := 97) (B := 97) ⟨by omega, by omega⟩ ⟨by omega, by omega⟩) (by decide)
  have := m2.1; have := m2.2
  unfold f_PrimeGroup_add_b83
  rw [pg_res (p := p) hv (by omega) (by omega) h.1, Option.bind_some, ← hs, h.2.1, i2j ⟨by omega, by omega⟩, i2j ⟨by omega, by omega⟩, jZ_mul, jZ_sub, jZ_sub, jZ_sub, pg_res (p := p) ⟨by omega, by omega⟩ (by omega) (by omega) h.1, Option.bind_some]
  have e : (s * s - a % p - x1 - x2) % p = x3 := by
    rw [hx3]; exact em_of (d_eq (y := -1 * (a % p - a)) (by grind) (d_mul (d_em p a)))
  rw [e, i2j ⟨by omega, by omega⟩, jZ_sub, jZ_mul, jZ_sub, pg_res (p := p) ⟨by omega, by omega⟩ (by omega) (by omega) h.1, Option.bind_some, show (128 : Int32) = iZ 128 from rfl, iZ_mul, iZ_add]
  unfold ptS
  rw [← hx3]; rfl
theorem cd_div {x y : Int} (hx : 0 ≤ x ∧ x < 97) (hy : 0 ≤ y ∧ y < 97) : iZ (x * 128 + y) / (128 : Int32) = iZ x ∧ irem (iZ (x * 128 + y)) (128 : Int32) = iZ y := by
  rw [show (128 : Int32) = iZ 128 from rfl, iZ_div ⟨by omega, by omega⟩ (bd_lit _ rfl), iZ_rem ⟨by omega, by omega⟩ (bd_lit _ rfl), Int.tdiv_eq_ediv_of_nonneg (by omega), Int.tmod_eq_emod_of_nonneg (by omega)]
  constructor
  · congr 1; omega
  · congr 1; omega
theorem pick36 {p : Nat} (hp : p ∈ opr) {σ : aSt} (h : TKN p a b σ) {k : Int} (h0 : 1 ≤ k) (h1 : k < p) : f_pick σ 36 (iZ k) = iZ (ivP p k) := by
  have hb := opr_bd p hp
  rw [pick_in (by decide) (by decide) (by omega) (by show k < ((97 : Nat) : Int); omega), h.2.2.2.2 k.toNat (by omega) (by omega)]
  congr 2; omega
theorem addX {N : Nat} {p : Nat} (hp : p ∈ opr) {σ : aSt} (h : TKN p a b σ) {P Q : Option (Int × Int)} (hP : onE p a b P) (hQ : onE p a b Q) : f_PrimeGroup_add N (iZ (cdE P)) (iZ (cdE Q)) σ = some (iZ (cdE (aP p a b P Q))) := by
  have hb := opr_bd p hp
  unfold f_PrimeGroup_add
  cases P with
  | none =>
    rw [if_neg (by show ¬ (0 : Int32) ≤ iZ (-1); decide)]; rfl
  | some P =>
    obtain ⟨x1, y1⟩ := P
    have q1 := hP.1
    have r1 := hP.2.1
    simp only at q1 r1
    have c1 : (0 : Int32) ≤ iZ (cdE (some (x1, y1))) := by
      show (0 : Int32) ≤ iZ (x1 * 128 + y1)
      rw [show (0 : Int32) = iZ 0 from rfl, iZ_le (bd_lit _ rfl) ⟨by omega, by omega⟩]; omega
    rw [if_pos c1]
    cases Q with
    | none =>
      rw [if_neg (by show ¬ (0 : Int32) ≤ iZ (-1); decide)]; rfl
    | some Q =>
      obtain ⟨x2, y2⟩ := Q
      have q2 := hQ.1
      have r2 := hQ.2.1
      simp only at q2 r2
      have c2 : (0 : Int32) ≤ iZ (cdE (some (x2, y2))) := by
        show (0 : Int32) ≤ iZ (x2 * 128 + y2)
        rw [show (0 : Int32) = iZ 0 from rfl, iZ_le (bd_lit _ rfl) ⟨by omega, by omega⟩]; omega
      rw [if_pos c2]
      obtain ⟨d1, m1⟩ := cd_div (x := x1) (y := y1) ⟨by omega, by omega⟩ ⟨by omega, by omega⟩
      obtain ⟨d2, m2⟩ := cd_div (x := x2) (y := y2) ⟨by omega, by omega⟩ ⟨by omega, by omega⟩
      show (if (iZ (x1 * 128 + y1) / (128 : Int32)).toInt64 ≠ (iZ (x2 * 128 + y2) / (128 : Int32)).toInt64 then ((f_PrimeGroup_residue N ((iZ (x1 * 128 + y1) / (128 : Int32)).toInt64 - (iZ (x2 * 128 + y2) / (128 : Int32)).toInt64) σ).bind fun x4 => f_PrimeGroup_add_b83 N (iZ (x1 * 128 + y1) / (128 : Int32)).toInt64 (irem (iZ (x1 * 128 + y1)) (128 : Int32)).toInt64 (iZ (x2 * 128 + y2) / (128 : Int32)).toInt64 (((irem (iZ (x1 * 128 + y1)) (128 : Int32)).toInt64 - (irem (iZ (x2 * 128 + y2)) (128 : Int32)).toInt64) * (f_pick σ 36 x4).toInt64) σ) else ((f_PrimeGroup_residue N ((irem (iZ (x1 * 128 + y1)) (128 : Int32)).toInt64 + (irem (iZ (x2 * 128 + y2)) (128 : Int32)).toInt64) σ).bind fun x8 => (if x8 ≠ 0 then ((f_PrimeGroup_residue N ((2 : Int64) * (irem (iZ (x1 * 128 + y1)) (128 : Int32)).toInt64) σ).bind fun x10 => f_PrimeGroup_add_b83 N (iZ (x1 * 128 + y1) / (128 : Int32)).toInt64 (irem (iZ (x1 * 128 + y1)) (128 : Int32)).toInt64 (iZ (x2 * 128 + y2) / (128 : Int32)).toInt64 ((((((3 : Int64) * (iZ (x1 * 128 + y1) / (128 : Int32)).toInt64) * (iZ (x1 * 128 + y1) / (128 : Int32)).toInt64) + (((2 : Int32) * (σ.1 34 8)).toInt64 * (iZ (x1 * 128 + y1) / (128 : Int32)).toInt64)) + (σ.1 34 9).toInt64) * (f_pick σ 36 x10).toInt64) σ) else some (-1 : Int32)))) = _
      rw [d1, m1, d2, m2, i2j (z := x1) ⟨by omega, by omega⟩, i2j (z := y1) ⟨by omega, by omega⟩, i2j (z := x2) ⟨by omega, by omega⟩, i2j (z := y2) ⟨by omega, by omega⟩]
      have cx : (jZ x1 ≠ jZ x2) = ¬ (x1 = x2) := by rw [ne_eq, jZ_eq ⟨by omega, by omega⟩ ⟨by omega, by omega⟩]
      simp only [cx]
      by_cases ex : x1 = x2
      · rw [if_neg (fun z => z ex), jZ_add, pg_res (p := p) ⟨by omega, by omega⟩ (by omega) (by omega) h.1, Option.bind_some]
        have eb := em_bd (y1 + y2) (p := p) (by omega)
        have cz : (iZ ((y1 + y2) % p) ≠ 0) = ¬ ((y1 + y2) % p = 0) := by rw [ne_eq, show (0 : Int32) = iZ 0 from rfl, iZ_eq ⟨by omega, by omega⟩ (bd_lit _ rfl)]
        simp only [cz]
        by_cases ez : (y1 + y2) % (p : Int) = 0
        · rw [if_neg (fun z => z ez), aP_op ex (Int.dvd_of_emod_eq_zero ez)]; rfl
        · rw [if_pos ez]
          have hn : nopp p x1 y1 x2 y2 := fun z => ez (Int.emod_eq_zero_of_dvd z.2)
          have ny := (two_y hp hP hQ hn ex).2
          have e2 := em_bd (2 * y1) (p := p) (by omega)
          have n2 : (2 * y1) % (p : Int) ≠ 0 := fun z => ny (Int.dvd_of_emod_eq_zero z)
          have ea := em_bd a (p := p) (by omega)
          have eb' := em_bd b (p := p) (by omega)
          have ib := ivP_bd (p := p) (by omega) ((2 * y1) % p)
          rw [show (2 : Int64) = jZ 2 from rfl, jZ_mul, pg_res (p := p) ⟨by omega, by omega⟩ (by omega) (by omega) h.1, Option.bind_some, pick36 hp h (by omega) (by omega), h.2.1, h.2.2.1, show (2 : Int32) = iZ 2 from rfl, iZ_mul, i2j ⟨by omega, by omega⟩, i2j ⟨by omega, by omega⟩, i2j ⟨by omega, by omega⟩, show (3 : Int64) = jZ 3 from rfl, jZ_mul, jZ_mul, jZ_mul, jZ_add, jZ_add, jZ_mul]
          have bx : bd 97 x1 := ⟨by omega, by omega⟩
          have vb : bd 9223372036854775807 ((3 * x1 * x1 + 2 * (a % p) * x1 + b % p) * ivP p ((2 * y1) % p)) := bd_mono (bd_mul (bd_add (bd_add (bd_mul (bd_mul (bd_lit (A := 3) 3 rfl) bx) bx) (bd_mul (A := 194) ⟨by omega, by omega⟩ bx)) (B := 97) ⟨by omega, by omega⟩) (B := 97) ⟨by omega, by omega⟩) (by decide)
          rw [add83 hp h q1 r1 q2 vb, aP_no hn]
          unfold slp
          rw [if_pos ex]
          congr 4
          refine em_of (d_eq (y := (2 * x1 * ivP p ((2 * y1) % p)) * (a % p - a) + ivP p ((2 * y1) % p) * (b % p - b)) (by grind) (Int.dvd_add (d_mul (d_em _ _)) (d_mul (d_em _ _))))
      · rw [if_pos ex, jZ_sub, pg_res (p := p) ⟨by omega, by omega⟩ (by omega) (by omega) h.1, Option.bind_some]
        have hn : nopp p x1 y1 x2 y2 := fun z => ex z.1
        have e2 := em_bd (x1 - x2) (p := p) (by omega)
        have n2 : (x1 - x2) % (p : Int) ≠ 0 := fun z => ne_dv q1 q2 ex (Int.dvd_of_emod_eq_zero z)
        have ib := ivP_bd (p := p) (by omega) ((x1 - x2) % p)
        have vb : bd 9223372036854775807 ((y1 - y2) * ivP p ((x1 - x2) % p)) := bd_mono (bd_mul (A := 97) (B := 97) ⟨by omega, by omega⟩ ⟨by omega, by omega⟩) (by decide)
        rw [pick36 hp h (by omega) (by omega), i2j ⟨by omega, by omega⟩, jZ_sub, jZ_mul, add83 hp h q1 r1 q2 vb, aP_no hn]
        unfold slp
        rw [if_neg ex]
/-- power -/
theorem powM {N : Nat} {p : Nat} (hp : p ∈ opr) {v : Nat} (hv : v < p) : ∀ (j k n : Nat), k + j = p - 2 → j + 1 ≤ n → f_M_power_l4 N n (iZ v) (iZ ((p : Int) - 2)) (iZ p) (iZ ((v ^ k % p : Nat) : Int)) (iZ k) = some (iZ (ivP p v)) := by
  have hb := opr_bd p hp
  intro j
  induction j with
  | zero =>
    intro k n hk hn
    obtain ⟨n, rfl, _⟩ := fuel hn
    rw [f_M_power_l4, if_pos (by rw [iZ_le ⟨by omega, by omega⟩ ⟨by omega, by omega⟩]; omega)]
    unfold ivP
    rw [Int.toNat_natCast, show k = p - 2 by omega]
  | succ j ih =>
    intro k n hk hn
    obtain ⟨n, rfl, hn'⟩ := fuel hn
    have hm : v ^ k % p < p := Nat.mod_lt _ (by omega)
    have mb := mul_bd (x := ((v ^ k % p : Nat) : Int)) (y := (v : Int)) (A := 97) (B := 97) ⟨by omega, by omega⟩ ⟨by omega, by omega⟩
    rw [f_M_power_l4, if_neg (by rw [iZ_le ⟨by omega, by omega⟩ ⟨by omega, by omega⟩]; omega), if_pos (by rw [show (0 : Int32) = iZ 0 from rfl, iZ_eq ⟨by omega, by omega⟩ (bd_lit _ rfl)]; omega), iZ_mul, irem_nn (by omega) (by omega) (by omega) (by omega), i1, ← Int.natCast_mul, ← Int.natCast_emod]
    have e : v ^ k % p * v % p = v ^ (k + 1) % p := by
      rw [Nat.pow_succ, Nat.mul_mod (v ^ k) v, Nat.mul_mod (v ^ k % p) v, Nat.mod_mod]
    rw [e]
    exact ih (k + 1) n (by omega) hn'
theorem power_ok {N : Nat} (hN : 10000 ≤ N) {p : Nat} (hp : p ∈ opr) {v : Int} (h0 : 0 ≤ v) (h1 : v < p) : f_M_power N (iZ v) (iZ p - (2 : Int32)) (iZ p) = some (iZ (ivP p v)) := by
  have hb := opr_bd p hp
  obtain ⟨n, rfl⟩ : ∃ n : Nat, v = n := ⟨v.toNat, by omega⟩
  unfold f_M_power
  rw [show (2 : Int32) = iZ 2 from rfl, iZ_sub]
  have := powM (N := N) hp (v := n) (by omega) (p - 2) 0 N (by omega) (by omega)
  rw [Nat.pow_zero, Nat.mod_eq_of_lt (by omega)] at this
  exact this
/-- the reference's point at hand -/
def MPt (P : Option (Int × Int)) (τ : aSt) : Prop := match P with
  | none => τ.2.2 66 31 = true
  | some P => τ.2.2 66 31 = false ∧ τ.1 66 29 = iZ P.1 ∧ τ.1 66 30 = iZ P.2
def frMo : Nat → Nat → Bool := fun o k => Nat.beq o 66 && (Nat.beq k 29 || Nat.beq k 30 || Nat.beq k 31)
theorem adds82 {N : Nat} (hN : 10000 ≤ N) (ha : bd 60 a) {p : Nat} (hp : p ∈ opr) {τ : aSt} (h2 : τ.1 66 2 = iZ a) (hz : τ.2.2 66 31 = false) {x1 y1 x2 u v : Int} (g1 : τ.1 66 29 = iZ x1) (g2 : τ.1 66 30 = iZ y1) (h1 : 0 ≤ x1 ∧ x1 < p) (h3 : 0 ≤ y1 ∧ y1 < p) (h4 : 0 ≤ x2 ∧ x2 < p) (hu : 0 ≤ u ∧ u < p) (hv : 0 ≤ v ∧ v < p) : ∃ τ', f_M_addsBy_b82 N (iZ x2) (iZ p) (iZ u) (iZ v) τ = some τ' ∧ MPt (ptS p a ((u * ivP p v) % p) x1 y1 x2) τ' ∧ fr frMo τ τ' := by
  have hb := opr_bd p hp
  have ib := ivP_bd (p := p) (by omega) v
  have := ha.1; have := ha.2
  have mb := mul_bd (x := u) (y := ivP p v) (A := 97) (B := 97) ⟨by omega, by omega⟩ ⟨by omega, by omega⟩
  obtain ⟨s, hs⟩ : ∃ s, s = (u * ivP p v) % (p : Int) := ⟨_, rfl⟩
  have sb := em_bd (u * ivP p v) (p := p) (by omega)
  rw [← hs] at sb ⊢
  have m1 := mul_bd (x := s) (y := s) (A := 97) (B := 97) ⟨by omega, by omega⟩ ⟨by omega, by omega⟩
  obtain ⟨x3, hx3⟩ : ∃ x, x = (s * s - a - x1 - x2) % (p : Int) := ⟨_, rfl⟩
  have xb := em_bd (s * s - a - x1 - x2) (p := p) (by omega)
  rw [← hx3] at xb
  have m2 : bd 9409 (s * (x1 - x3)) := bd_mono (bd_mul (A := 97) (B := 97) ⟨by omega, by omega⟩ ⟨by omega, by omega⟩) (by decide)
  have := m2.1; have := m2.2
  unfold f_M_addsBy_b82
  rw [power_ok hN hp hv.1 hv.2, Option.bind_some, if_pos (by rw [show (0 : Int32) = iZ 0 from rfl, iZ_eq ⟨by omega, by omega⟩ (bd_lit _ rfl)]; omega), iZ_mul, irem_nn (by omega) (by omega) (by omega) (by omega), ← hs, h2, g1, g2, i2j (z := s) ⟨by omega, by omega⟩, i2j (z := a) ⟨by omega, by omega⟩, i2j (z := x1) ⟨by omega, by omega⟩, i2j (z := x2) ⟨by omega, by omega⟩, i2j (z := y1) ⟨by omega, by omega⟩, jZ_mul, jZ_sub, jZ_sub, jZ_sub, mod_ok ⟨by omega, by omega⟩ (by omega) (by omega), Option.bind_some, ← hx3, iZ_sub, i2j ⟨by omega, by omega⟩, jZ_mul, jZ_sub, mod_ok ⟨by omega, by omega⟩ (by omega) (by omega), Option.bind_some]
  refine ⟨_, rfl, ?_, fr_trans (fr_si rfl) (fr_si rfl)⟩
  unfold ptS
  rw [← hx3]
  exact ⟨hz, si_eq _ _ _ _, by rw [si_ne (Or.inr (by decide))]; exact si_eq _ _ _ _⟩
theorem addsBy_ok {N : Nat} (hN : 10000 ≤ N) (ha : bd 60 a) (hb' : bd 200 b) {p : Nat} (hp : p ∈ opr) {τ : aSt} (h2 : τ.1 66 2 = iZ a) (h3 : τ.1 66 3 = iZ b) {P : Option (Int × Int)} {x2 y2 : Int} (hP : onE p a b P) (hQ : onA p a b x2 y2) (hm : MPt P τ) : ∃ τ', f_M_addsBy N (iZ x2) (iZ y2) (iZ p) τ = some τ' ∧ MPt (aP p a b P (some (x2, y2))) τ' ∧ fr frMo τ τ' := by
  have hb := opr_bd p hp
  have := ha.1; have := ha.2; have := hb'.1; have := hb'.2
  have q2 := hQ.1
  have r2 := hQ.2.1
  unfold f_M_addsBy
  cases P with
  | none =>
    have hm' : τ.2.2 66 31 = true := hm
    rw [hm', if_pos (c := true = true) rfl]
    exact ⟨_, rfl, ⟨rfl, by rw [si_ne (Or.inr (by decide))]; exact si_eq _ _ _ _, si_eq _ _ _ _⟩, fr_trans (fr_trans (fr_sb rfl) (fr_si rfl)) (fr_si rfl)⟩
  | some P =>
    obtain ⟨x1, y1⟩ := P
    obtain ⟨m1, m2, m3⟩ := hm
    have q1 := hP.1
    have r1 := hP.2.1
    simp only at q1 r1 m2 m3
    rw [m1, if_neg ff_tt, m2]
    have cx : (iZ x1 ≠ iZ x2) = ¬ (x1 = x2) := by rw [ne_eq, iZ_eq ⟨by omega, by omega⟩ ⟨by omega, by omega⟩]
    simp only [cx]
    have p0 : ¬ (iZ (p : Int) = 0) := by rw [show (0 : Int32) = iZ 0 from rfl, iZ_eq ⟨by omega, by omega⟩ (bd_lit _ rfl)]; omega
    by_cases ex : x1 = x2
    · rw [if_neg (fun z => z ex)]
      unfold f_M_addsBy_b20
      rw [if_neg (c := (1 : Int32) = 0) (by decide), if_pos p0, m3, iZ_add, irem_nn (by omega) (by omega) (by omega) (by omega)]
      have eb := em_bd (y1 + y2) (p := p) (by omega)
      have cz : (iZ ((y1 + y2) % p) ≠ 0) = ¬ ((y1 + y2) % p = 0) := by rw [ne_eq, show (0 : Int32) = iZ 0 from rfl, iZ_eq ⟨by omega, by omega⟩ (bd_lit _ rfl)]
      simp only [cz]
      by_cases ez : (y1 + y2) % (p : Int) = 0
      · rw [if_neg (fun z => z ez), aP_op ex (Int.dvd_of_emod_eq_zero ez)]
        exact ⟨_, rfl, sb_eq _ _ _ _, fr_sb rfl⟩
      · rw [if_pos ez]
        have hn : nopp p x1 y1 x2 y2 := fun z => ez (Int.emod_eq_zero_of_dvd z.2)
        obtain ⟨ey, ny⟩ := two_y hp hP hQ hn ex
        unfold f_M_addsBy_b34 f_M_addsBy_b66
        have bx : bd 97 x2 := ⟨by omega, by omega⟩
        have vb : bd 9223372036854775807 (3 * x2 * x2 + 2 * a * x2 + b) := bd_mono (bd_add (bd_add (bd_mul (bd_mul (bd_lit (A := 3) 3 rfl) bx) bx) (bd_mul (bd_mul (bd_lit (A := 2) 2 rfl) ha) bx)) hb') (by decide)
        rw [if_neg (c := (1 : Int32) = 0) (by decide), h2, h3, i2j (z := x2) ⟨by omega, by omega⟩, i2j (z := a) ⟨by omega, by omega⟩, i2j (z := b) ⟨by omega, by omega⟩, show (3 : Int64) = jZ 3 from rfl, show (2 : Int64) = jZ 2 from rfl, jZ_mul, jZ_mul, jZ_mul, jZ_mul, jZ_add, jZ_add, mod_ok vb (by omega) (by omega), Option.bind_some, if_neg (c := (1 : Int32) = 0) (by decide), if_pos p0, show (2 : Int32) = iZ 2 from rfl, iZ_mul, irem_nn (by omega) (by omega) (by omega) (by omega)]
        have e2 := em_bd (2 * y2) (p := p) (by omega)
        have ef := em_bd (3 * x2 * x2 + 2 * a * x2 + b) (p := p) (by omega)
        obtain ⟨τ', g1, g2, g3⟩ := adds82 hN ha hp h2 m1 m2 m3 q1 r1 q2 ef e2
        refine ⟨τ', g1, ?_, g3⟩
        rw [ey] at ny
        have iv := (iv_ok hp ny).1
        rw [add_sl hp hP hQ hn (t := ((3 * x2 * x2 + 2 * a * x2 + b) % p * ivP p ((2 * y2) % p)) % p) ⟨by rw [ex, ey, Int.sub_self, Int.sub_self, Int.mul_zero]; exact Int.dvd_zero _, fun _ => ?_⟩]
        · exact g2
        · rw [ex, ey]
          obtain ⟨F, hF⟩ : ∃ F, F = 3 * x2 * x2 + 2 * a * x2 + b := ⟨_, rfl⟩
          rw [← hF]
          have k1 := d_em p (F % p * ivP p ((2 * y2) % p))
          have k2 := d_em p F
          exact d_eq (y := (2 * y2) * ((F % p * ivP p ((2 * y2) % p)) % p - F % p * ivP p ((2 * y2) % p)) + (F % p) * (2 * y2 * ivP p ((2 * y2) % p) - 1) + (F % p - F)) (by grind) (Int.dvd_add (Int.dvd_add (d_mul k1) (d_mul iv)) k2)
    · rw [if_pos ex]
      unfold f_M_addsBy_b20 f_M_addsBy_b34 f_M_addsBy_b66
      rw [if_pos rfl, if_pos rfl, m3, iZ_sub, i2j ⟨by omega, by omega⟩, mod_ok ⟨by omega, by omega⟩ (by omega) (by omega), Option.bind_some, if_pos rfl, m2, iZ_sub, i2j ⟨by omega, by omega⟩, mod_ok ⟨by omega, by omega⟩ (by omega) (by omega), Option.bind_some]
      have hn : nopp p x1 y1 x2 y2 := fun z => ex z.1
      have e1 := em_bd (y2 - y1) (p := p) (by omega)
      have e2 := em_bd (x2 - x1) (p := p) (by omega)
      obtain ⟨τ', g1, g2, g3⟩ := adds82 hN ha hp h2 m1 m2 m3 q1 r1 q2 e1 e2
      refine ⟨τ', g1, ?_, g3⟩
      have iv := (iv_ok hp (ne_dv q2 q1 (fun z => ex z.symm))).1
      rw [add_sl hp hP hQ hn (t := ((y2 - y1) % p * ivP p ((x2 - x1) % p)) % p) ⟨?_, fun z => absurd z ex⟩]
      · exact g2
      · have k1 := d_em p ((y2 - y1) % p * ivP p ((x2 - x1) % p))
        have k2 := d_em p (y2 - y1)
        exact d_eq (y := (x1 - x2) * (((y2 - y1) % p * ivP p ((x2 - x1) % p)) % p - (y2 - y1) % p * ivP p ((x2 - x1) % p)) - ((y2 - y1) % p) * ((x2 - x1) * ivP p ((x2 - x1) % p) - 1) - ((y2 - y1) % p - (y2 - y1))) (by grind) (Int.dvd_sub (Int.dvd_sub (d_mul k1) (d_mul iv)) k2)
end BYP
