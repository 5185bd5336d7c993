/-! BY A PRIME: brackets -/
section ELL
variable {p : Nat} {a b : Int}
theorem ng_ng (hp : p ∈ opr) {P : Option (Int × Int)} (h : onE p a b P) : ngE p (ngE p P) = P := by
  cases P with
  | none => rfl
  | some P =>
    obtain ⟨x, y⟩ := P
    show some (x, (-((-y) % p)) % p) = some (x, y)
    rw [em_is (x := y) h.2.1 (d_eq (y := -1 * ((-y) % p - -y)) (by grind) (d_mul (d_em p _)))]
theorem aP_assoc (hp : p ∈ opr) (nb : ¬ (p : Int) ∣ b) (nd : ¬ (p : Int) ∣ a * a - 4 * b) {A B C : Option (Int × Int)} (hA : onE p a b A) (hB : onE p a b B) (hC : onE p a b C) : aP p a b (aP p a b A B) C = aP p a b A (aP p a b B C) := by
  cases A with
  | none => rfl
  | some A =>
  cases B with
  | none => rfl
  | some B =>
  cases C with
  | none => rw [aP_none, aP_none]
  | some C =>
  obtain ⟨x1, y1⟩ := A
  obtain ⟨x2, y2⟩ := B
  obtain ⟨x3, y3⟩ := C
  by_cases nA : nopp p x1 y1 x2 y2
  · by_cases nC : nopp p x3 y3 x2 y2
    · obtain ⟨l, x4, y4, eS, sA⟩ := sm_ex hp hA hB nA
      obtain ⟨m, x5, y5, eF, sC⟩ := sm_ex hp hC hB nC
      have eF' : aP p a b (some (x2, y2)) (some (x3, y3)) = some (x5, y5) := by rw [aP_comm hp hB hC]; exact eF
      have hS : onA p a b x4 y4 := sA.2.2.2
      have hF : onA p a b x5 y5 := sC.2.2.2
      rw [eS, eF']
      by_cases nS : nopp p x4 y4 x3 y3
      · by_cases nF : nopp p x1 y1 x5 y5
        · obtain ⟨l1, l2, l3, l4⟩ := id sA
          obtain ⟨m1, m2, m3, m4⟩ := id sC
          have G1 := sl_q hp hA hB nA l1 l2
          have G2 := sl_q hp hC hB nC m1 m2
          have e1 : (p : Int) ∣ y1 - y2 - l * (x1 - x2) := d_eq (y := -1 * (l * (x1 - x2) - (y1 - y2))) (by grind) (d_mul l1.1)
          have e3 : (p : Int) ∣ y3 - y2 - m * (x3 - x2) := d_eq (y := -1 * (m * (x3 - x2) - (y3 - y2))) (by grind) (d_mul m1.1)
          by_cases lm : (p : Int) ∣ l - m
          · have k : (p : Int) ∣ (x1 - x3) * (x1 - x5) := by
              refine d_eq (y := (x1 - x2) * ((x4 - (l * l - a - x1 - x2)) - (x5 - (m * m - a - x3 - x2))) + ((x1 - x2) * (l + m) + 2 * y2) * (l - m) + ((x3 - x2) * (x5 - x2) - (3 * x2 * x2 + 2 * a * x2 + b) + 2 * y2 * m) - ((x1 - x2) * (x4 - x2) - (3 * x2 * x2 + 2 * a * x2 + b) + 2 * y2 * l)) (by grind) (Int.dvd_sub (Int.dvd_add (Int.dvd_add (d_mul (Int.dvd_sub l2 m2)) (d_mul lm)) G2) G1)
            rcases eucl hp k with h | h
            · have ex : x1 = x3 := rng_eq hA.1 hC.1 h
              have ey : y1 = y3 := rng_eq hA.2.1 hC.2.1 (d_eq (y := (y1 - y2 - l * (x1 - x2)) - (y3 - y2 - m * (x3 - x2)) + (x1 - x2) * (l - m) + m * (x1 - x3)) (by grind) (Int.dvd_add (Int.dvd_add (Int.dvd_sub e1 e3) (d_mul lm)) (d_mul h)))
              subst ex
              subst ey
              rw [eS] at eF
              rw [← eF]
              exact aP_comm hp hS hA
            · exfalso
              apply nS
              have ex : x4 = x3 := rng_eq hS.1 hC.1 (d_eq (y := (x4 - (l * l - a - x1 - x2)) - (x5 - (m * m - a - x3 - x2)) + (l + m) * (l - m) - (x1 - x5)) (by grind) (Int.dvd_sub (Int.dvd_add (Int.dvd_sub l2 m2) (d_mul lm)) h))
              refine ⟨ex, ?_⟩
              have k4 : (p : Int) ∣ y4 + y2 + l * (x4 - x2) := d_eq (y := (y4 - (l * (x1 - x4) - y1)) + (l * (x1 - x2) - (y1 - y2))) (by grind) (Int.dvd_add l3 l1.1)
              rw [ex] at k4
              exact d_eq (y := (y4 + y2 + l * (x3 - x2)) + (y3 - y2 - m * (x3 - x2)) - (x3 - x2) * (l - m)) (by grind) (Int.dvd_sub (Int.dvd_add k4 e3) (d_mul lm))
          · obtain ⟨r, z, w, er, r1, r2, r3, r4⟩ := sm_ex hp hA hF nF
            obtain ⟨u, z', w', eu, u1, u2, u3, u4⟩ := sm_ex hp hC hS (nopp_comm nS)
            have c1 := asl hp hA hB hC nA nC sA sC nF r1
            have c2 := asl hp hC hB hA nC nA sC sA (nopp_comm nS) u1
            have c3 : (p : Int) ∣ (l - m) * ((r - l) - (u - m)) := d_eq (y := ((l - m) * (r - l) - (x5 - x4)) + ((m - l) * (u - m) - (x4 - x5))) (by grind) (Int.dvd_add c1 c2)
            have c4 : (p : Int) ∣ (r - l) - (u - m) := by
              rcases eucl hp c3 with h | h
              · exact absurd h lm
              · exact h
            have ez : z = z' := rng_eq r4.1 u4.1 (d_eq (y := (z - (r * r - a - x1 - x5)) - (z' - (u * u - a - x3 - x4)) + ((r - l) + (u - m) + 2 * m) * ((r - l) - (u - m)) + 2 * ((l - m) * (r - l) - (x5 - x4)) - (x4 - (l * l - a - x1 - x2)) + (x5 - (m * m - a - x3 - x2))) (by grind) (Int.dvd_add (Int.dvd_sub (Int.dvd_add (Int.dvd_add (Int.dvd_sub r2 u2) (d_mul c4)) (d_mul c1)) l2) m2))
            subst ez
            have ew : w = w' := rng_eq r4.2.1 u4.2.1 (d_eq (y := (w - (r * (x1 - z) - y1)) - (w' - (u * (x3 - z) - y3)) + (r - l) * ((x4 - (l * l - a - x1 - x2)) - (x5 - (m * m - a - x3 - x2))) - (r - l) * ((l - m) * (r - l) - (x5 - x4)) + (l - m) * ((x4 - (l * l - a - x1 - x2)) - ((l - m) * (r - l) - (x5 - x4)) - (z - (r * r - a - x1 - x5))) + (x3 - z) * ((r - l) - (u - m)) - (y1 - y2 - l * (x1 - x2)) + (y3 - y2 - m * (x3 - x2))) (by grind) (Int.dvd_add (Int.dvd_sub (Int.dvd_add (Int.dvd_add (Int.dvd_sub (Int.dvd_add (Int.dvd_sub r3 u3) (d_mul (Int.dvd_sub l2 m2))) (d_mul c1)) (d_mul (Int.dvd_sub (Int.dvd_sub l2 c1) r2))) (d_mul c4)) e1) e3))
            subst ew
            rw [er, aP_comm hp (P := some (x4, y4)) (Q := some (x3, y3)) hS hC, eu]
        · have c' := Classical.byContradiction nF
          rw [aP_op (x1 := x1) (x2 := x5) c'.1 c'.2]
          have eA := ng_of hA.2.1 c'.1 c'.2
          have bk := aP_back hp nb nd (Q := some (x3, y3)) (P := some (x2, y2)) hC hB
          rw [eF] at bk
          have h2 := ng_add (a := a) (b := b) hp (P := some (x5, y5)) (Q := ngE p (some (x2, y2))) hF (onE_ng hp hB)
          rw [bk, ng_ng hp hB, ← eA, eS] at h2
          rw [h2, aP_comm hp (onE_ng hp hC) hC]
          exact aP_ng
      · have c' := Classical.byContradiction nS
        rw [aP_op (x1 := x4) (x2 := x3) c'.1 c'.2]
        have eC := ng_of (x1 := x3) (y1 := y3) (x2 := x4) (y2 := y4) hC.2.1 c'.1.symm (by rw [Int.add_comm]; exact c'.2)
        have bk := aP_back hp nb nd (Q := some (x1, y1)) (P := some (x2, y2)) hA hB
        rw [eS] at bk
        have h2 := ng_add (a := a) (b := b) hp (P := some (x4, y4)) (Q := ngE p (some (x2, y2))) hS (onE_ng hp hB)
        rw [bk, ng_ng hp hB, ← eC, eF] at h2
        rw [h2]
        exact aP_ng.symm
    · have c' := Classical.byContradiction nC
      have eC := ng_of (x1 := x3) (y1 := y3) (x2 := x2) (y2 := y2) hC.2.1 c'.1 c'.2
      rw [aP_op (x1 := x2) (x2 := x3) c'.1.symm (by rw [Int.add_comm]; exact c'.2), aP_none, eC]
      exact aP_back hp nb nd hA hB
  · have c' := Classical.byContradiction nA
    have eA := ng_of (x1 := x1) (y1 := y1) (x2 := x2) (y2 := y2) hA.2.1 c'.1 c'.2
    rw [aP_op (x1 := x1) (x2 := x2) c'.1 c'.2, eA, aP_comm hp (onE_ng hp hB) (onE_add hp hB hC), aP_comm hp hB hC]
    exact (aP_back hp nb nd hC hB).symm
/-- how often one point -/
def mP (p : Nat) (a b : Int) (P : Option (Int × Int)) : Nat → Option (Int × Int)
  | 0 => none
  | k + 1 => aP p a b (mP p a b P k) P
theorem mP_s (P : Option (Int × Int)) (k : Nat) : mP p a b P (k + 1) = aP p a b (mP p a b P k) P := rfl
theorem mP_on (hp : p ∈ opr) {P : Option (Int × Int)} (h : onE p a b P) (k : Nat) : onE p a b (mP p a b P k) := by
  induction k with
  | zero => trivial
  | succ k ih => exact onE_add hp ih h
theorem mP_add (hp : p ∈ opr) (nb : ¬ (p : Int) ∣ b) (nd : ¬ (p : Int) ∣ a * a - 4 * b) {P : Option (Int × Int)} (h : onE p a b P) (j k : Nat) : aP p a b (mP p a b P j) (mP p a b P k) = mP p a b P (j + k) := by
  induction k with
  | zero => exact aP_none _
  | succ k ih =>
    rw [mP_s, ← aP_assoc hp nb nd (mP_on hp h j) (mP_on hp h k) h, ih]; rfl
theorem mP_mul (hp : p ∈ opr) (nb : ¬ (p : Int) ∣ b) (nd : ¬ (p : Int) ∣ a * a - 4 * b) {P : Option (Int × Int)} (h : onE p a b P) (j k : Nat) : mP p a b (mP p a b P k) j = mP p a b P (j * k) := by
  induction j with
  | zero => rw [Nat.zero_mul]; rfl
  | succ j ih =>
    rw [mP_s, ih, mP_add hp nb nd h, Nat.succ_mul]
theorem mP_inj (hp : p ∈ opr) (nb : ¬ (p : Int) ∣ b) (nd : ¬ (p : Int) ∣ a * a - 4 * b) {P : Option (Int × Int)} (h : onE p a b P) {j k : Nat} (e : mP p a b P (j + 1) = mP p a b P (k + 1)) : mP p a b P j = mP p a b P k := by
  rw [mP_s, mP_s] at e
  rw [← aP_back hp nb nd (mP_on hp h j) h, e, aP_back hp nb nd (mP_on hp h k) h]
end ELL
