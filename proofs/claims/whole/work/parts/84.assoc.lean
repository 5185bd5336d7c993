/-! BY A PRIME: sums are turned round, taken back, bracketed -/
def ngE (p : Nat) : Option (Int × Int) → Option (Int × Int)
  | none => none
  | some P => some (P.1, (-P.2) % p)
section ELL
variable {p : Nat} {a b : Int}
theorem aP_none (P : Option (Int × Int)) : aP p a b P none = P := by cases P <;> rfl
theorem onA_ng {x y : Int} (hp : p ∈ opr) (h : onA p a b x y) : onA p a b x ((-y) % p) := by
  have hb := opr_bd p hp
  refine ⟨h.1, em_bd _ (by omega), ?_⟩
  have e := d_em p (-y)
  refine d_eq (y := ((-y) % p - y) * ((-y) % p - -y) + (y * y - (x * x * x + a * x * x + b * x))) (by grind) (Int.dvd_add (d_mul e) h.2.2)
theorem onE_ng (hp : p ∈ opr) {P : Option (Int × Int)} (h : onE p a b P) : onE p a b (ngE p P) := by
  cases P with
  | none => exact h
  | some P => exact onA_ng hp h
theorem onE_add (hp : p ∈ opr) {P Q : Option (Int × Int)} (h1 : onE p a b P) (h2 : onE p a b Q) : onE p a b (aP p a b P Q) := by
  cases P with
  | none => exact h2
  | some P =>
    cases Q with
    | none => exact h1
    | some Q =>
      by_cases c : nopp p P.1 P.2 Q.1 Q.2
      · obtain ⟨s, x3, y3, e, h⟩ := sm_ex hp h1 h2 c
        have e' : aP p a b (some P) (some Q) = some (x3, y3) := e
        rw [e']; exact h.2.2.2
      · have c' := Classical.byContradiction c
        have e' : aP p a b (some P) (some Q) = none := aP_op c'.1 c'.2
        rw [e']; trivial
theorem nopp_comm {x1 y1 x2 y2 : Int} (h : nopp p x1 y1 x2 y2) : nopp p x2 y2 x1 y1 := fun q => h ⟨q.1.symm, by rw [Int.add_comm]; exact q.2⟩
theorem SL_comm (hp : p ∈ opr) {x1 y1 x2 y2 s : Int} (h1 : onA p a b x1 y1) (h2 : onA p a b x2 y2) (hn : nopp p x1 y1 x2 y2) (h : SL p a b x1 y1 x2 y2 s) : SL p a b x2 y2 x1 y1 s := by
  refine ⟨d_eq (y := -1 * (s * (x1 - x2) - (y1 - y2))) (by grind) (d_mul h.1), fun e => ?_⟩
  have ey := (two_y hp h1 h2 hn e.symm).1
  have q := h.2 e.symm
  rw [ey, e.symm] at q
  exact q
theorem ptS_is {s x1 y1 x2 x3 y3 : Int} (hx : 0 ≤ x3 ∧ x3 < p) (hy : 0 ≤ y3 ∧ y3 < p) (e3 : (p : Int) ∣ x3 - (s * s - a - x1 - x2)) (e4 : (p : Int) ∣ y3 - (s * (x1 - x3) - y1)) : ptS p a s x1 y1 x2 = some (x3, y3) := by
  unfold ptS
  have q1 : (s * s - a - x1 - x2) % p = x3 := em_is hx (d_eq (y := -1 * (x3 - (s * s - a - x1 - x2))) (by grind) (d_mul e3))
  rw [q1, em_is hy (d_eq (y := -1 * (y3 - (s * (x1 - x3) - y1))) (by grind) (d_mul e4))]
theorem aP_comm (hp : p ∈ opr) {P Q : Option (Int × Int)} (h1 : onE p a b P) (h2 : onE p a b Q) : aP p a b P Q = aP p a b Q P := by
  cases P with
  | none => rw [aP_none]; rfl
  | some P =>
    cases Q with
    | none => rfl
    | some Q =>
      obtain ⟨x1, y1⟩ := P
      obtain ⟨x2, y2⟩ := Q
      by_cases c : nopp p x1 y1 x2 y2
      · obtain ⟨s, x3, y3, e, h⟩ := sm_ex hp h1 h2 c
        rw [e, add_sl hp h2 h1 (nopp_comm c) (SL_comm hp h1 h2 c h.1), ptS_is h.2.2.2.1 h.2.2.2.2.1]
        · exact d_eq (by grind) h.2.1
        · exact d_eq (y := (y3 - (s * (x1 - x3) - y1)) + (s * (x1 - x2) - (y1 - y2))) (by grind) (Int.dvd_add h.2.2.1 h.1.1)
      · have c' := Classical.byContradiction c
        rw [aP_op c'.1 c'.2, aP_op c'.1.symm (by rw [Int.add_comm]; exact c'.2)]
theorem aP_ng {P : Option (Int × Int)} : aP p a b P (ngE p P) = none := by
  cases P with
  | none => rfl
  | some P =>
    exact aP_op rfl (d_eq (y := (-P.2) % p - -P.2) (by grind) (d_em p _))
theorem ng_of {x1 y1 x2 y2 : Int} (hy : 0 ≤ y1 ∧ y1 < p) (hx : x1 = x2) (h : (p : Int) ∣ y1 + y2) : some (x1, y1) = ngE p (some (x2, y2)) := by
  show some (x1, y1) = some (x2, (-y2) % p)
  rw [hx, em_is hy (d_eq (y := -1 * (y1 + y2)) (by grind) (d_mul h))]
/-- no point where both go to 0 -/
theorem nsing (hp : p ∈ opr) (nb : ¬ (p : Int) ∣ b) (nd : ¬ (p : Int) ∣ a * a - 4 * b) {x : Int} (h1 : (p : Int) ∣ x * x * x + a * x * x + b * x) (h2 : (p : Int) ∣ 3 * x * x + 2 * a * x + b) : False := by
  have h1' : (p : Int) ∣ x * (x * x + a * x + b) := d_eq (by grind) h1
  rcases eucl hp h1' with h | h
  · exact nb (d_eq (y := (3 * x * x + 2 * a * x + b) - (3 * x + 2 * a) * x) (by grind) (Int.dvd_sub h2 (d_mul h)))
  · have h3 : (p : Int) ∣ x * (2 * x + a) := d_eq (y := (3 * x * x + 2 * a * x + b) - (x * x + a * x + b)) (by grind) (Int.dvd_sub h2 h)
    rcases eucl hp h3 with q | q
    · exact nb (d_eq (y := (x * x + a * x + b) - (x + a) * x) (by grind) (Int.dvd_sub h (d_mul q)))
    · exact nd (d_eq (y := (2 * x + a) * (2 * x + a) - 4 * (x * x + a * x + b)) (by grind) (Int.dvd_sub (d_mul q) (d_mul h)))
theorem two_nd (hp : p ∈ opr) {y : Int} (h : (p : Int) ∣ 2 * y) : (p : Int) ∣ y := by
  rcases eucl hp h with q | q
  · have hb := opr_bd p hp
    have := Int.ofNat_dvd_left.mp q
    have := Nat.le_of_dvd (by decide) this
    have e : (2 : Int).natAbs = 2 := rfl
    omega
  · exact q
/-- a sum taken back -/
theorem aP_back (hp : p ∈ opr) (nb : ¬ (p : Int) ∣ b) (nd : ¬ (p : Int) ∣ a * a - 4 * b) {P Q : Option (Int × Int)} (h1 : onE p a b Q) (h2 : onE p a b P) : aP p a b (aP p a b Q P) (ngE p P) = Q := by
  cases P with
  | none => rw [aP_none]; exact aP_none Q
  | some P =>
    cases Q with
    | none => exact aP_ng
    | some Q =>
      obtain ⟨x2, y2⟩ := P
      obtain ⟨x1, y1⟩ := Q
      by_cases c : nopp p x1 y1 x2 y2
      · obtain ⟨s, x3, y3, e, hs, e3, e4, h3⟩ := sm_ex hp h1 h2 c
        have G := sl_q hp h1 h2 c hs e3
        have h2' := onA_ng hp h2
        rw [e]
        show aP p a b (some (x3, y3)) (some (x2, (-y2) % p)) = _
        obtain ⟨w, hw⟩ : ∃ w, w = (-y2) % (p : Int) := ⟨_, rfl⟩
        rw [← hw] at h2' ⊢
        have ew : (p : Int) ∣ w - -y2 := by rw [hw]; exact d_em p _
        have k3 : (p : Int) ∣ y3 + y2 + s * (x3 - x2) := d_eq (y := (y3 - (s * (x1 - x3) - y1)) + (s * (x1 - x2) - (y1 - y2))) (by grind) (Int.dvd_add e4 hs.1)
        have n' : nopp p x3 y3 x2 w := fun q => by
          obtain ⟨q1, q2⟩ := q
          rw [q1, Int.sub_self, Int.mul_zero, Int.add_zero] at k3
          have k2 : (p : Int) ∣ y2 := two_nd hp (d_eq (y := (y3 + y2) - (y3 + w) + (w - -y2)) (by grind) (Int.dvd_add (Int.dvd_sub k3 q2) ew))
          refine nsing hp nb nd (x := x2) (d_eq (y := y2 * y2 - (y2 * y2 - (x2 * x2 * x2 + a * x2 * x2 + b * x2))) (by grind) (Int.dvd_sub (d_mul k2) h2.2.2)) ?_
          rw [q1, Int.sub_self, Int.mul_zero] at G
          exact d_eq (y := (2 * s) * y2 - (0 - (3 * x2 * x2 + 2 * a * x2 + b) + 2 * y2 * s)) (by grind) (Int.dvd_sub (d_mul k2) G)
        have sl : SL p a b x3 y3 x2 w (-s) := by
          refine ⟨d_eq (y := (w - -y2) - (y3 + y2 + s * (x3 - x2))) (by grind) (Int.dvd_sub ew k3), fun q => ?_⟩
          rw [q, Int.sub_self, Int.mul_zero, Int.add_zero] at k3
          rw [q, Int.sub_self, Int.mul_zero] at G
          rw [q]
          exact d_eq (y := (0 - (3 * x2 * x2 + 2 * a * x2 + b) + 2 * y2 * s) - (2 * s) * (y3 + y2)) (by grind) (Int.dvd_sub G (d_mul k3))
        rw [add_sl hp h3 h2' n' sl]
        refine ptS_is h1.1 h1.2.1 (d_eq (y := x3 - (s * s - a - x1 - x2)) (by grind) e3) (d_eq (y := y3 - (s * (x1 - x3) - y1)) (by grind) e4)
      · have c' := Classical.byContradiction c
        rw [aP_op c'.1 c'.2]
        exact (ng_of h1.2.1 c'.1 c'.2).symm
theorem ng_add (hp : p ∈ opr) {P Q : Option (Int × Int)} (h1 : onE p a b P) (h2 : onE p a b Q) : aP p a b (ngE p P) (ngE p Q) = ngE p (aP p a b P Q) := by
  cases P with
  | none => rfl
  | some P =>
    cases Q with
    | none => rfl
    | some Q =>
      obtain ⟨x1, y1⟩ := P
      obtain ⟨x2, y2⟩ := Q
      have h1' := onA_ng hp h1
      have h2' := onA_ng hp h2
      show aP p a b (some (x1, (-y1) % p)) (some (x2, (-y2) % p)) = _
      obtain ⟨w1, hw1⟩ : ∃ w, w = (-y1) % (p : Int) := ⟨_, rfl⟩
      obtain ⟨w2, hw2⟩ : ∃ w, w = (-y2) % (p : Int) := ⟨_, rfl⟩
      have ew1 : (p : Int) ∣ w1 - -y1 := by rw [hw1]; exact d_em p _
      have ew2 : (p : Int) ∣ w2 - -y2 := by rw [hw2]; exact d_em p _
      have q1 : onA p a b x1 w1 := by rw [hw1]; exact h1'
      have q2 : onA p a b x2 w2 := by rw [hw2]; exact h2'
      rw [← hw1, ← hw2]
      by_cases c : nopp p x1 y1 x2 y2
      · obtain ⟨s, x3, y3, e, hs, e3, e4, h3⟩ := sm_ex hp h1 h2 c
        have n' : nopp p x1 w1 x2 w2 := fun q => c ⟨q.1, d_eq (y := (w1 - -y1) + (w2 - -y2) - (w1 + w2)) (by grind) (Int.dvd_sub (Int.dvd_add ew1 ew2) q.2)⟩
        have sl : SL p a b x1 w1 x2 w2 (-s) := by
          refine ⟨d_eq (y := (w2 - -y2) - (w1 - -y1) - (s * (x1 - x2) - (y1 - y2))) (by grind) (Int.dvd_sub (Int.dvd_sub ew2 ew1) hs.1), fun q => ?_⟩
          exact d_eq (y := (s * (2 * y1) - (3 * x1 * x1 + 2 * a * x1 + b)) - (2 * s) * (w1 - -y1)) (by grind) (Int.dvd_sub (hs.2 q) (d_mul ew1))
        rw [add_sl hp q1 q2 n' sl, e]
        have h3' := onA_ng hp h3
        have e5 := d_em p (-y3)
        show _ = some (x3, (-y3) % p)
        refine ptS_is h3.1 h3'.2.1 (d_eq (y := x3 - (s * s - a - x1 - x2)) (by grind) e3) (d_eq (y := ((-y3) % p - -y3) - (y3 - (s * (x1 - x3) - y1)) + (w1 - -y1)) (by grind) (Int.dvd_add (Int.dvd_sub e5 e4) ew1))
      · have c' := Classical.byContradiction c
        rw [aP_op c'.1 c'.2, aP_op c'.1 (d_eq (y := (w1 - -y1) + (w2 - -y2) - (y1 + y2)) (by grind) (Int.dvd_sub (Int.dvd_add ew1 ew2) c'.2))]
        rfl
/-- the two slopes -/
theorem asl (hp : p ∈ opr) {x1 y1 x2 y2 x3 y3 l m x4 y4 x5 y5 r : Int} (hA : onA p a b x1 y1) (hB : onA p a b x2 y2) (hC : onA p a b x3 y3) (nA : nopp p x1 y1 x2 y2) (nC : nopp p x3 y3 x2 y2) (sA : Sm p a b x1 y1 x2 y2 l x4 y4) (sC : Sm p a b x3 y3 x2 y2 m x5 y5) (nF : nopp p x1 y1 x5 y5) (hr : SL p a b x1 y1 x5 y5 r) : (p : Int) ∣ (l - m) * (r - l) - (x5 - x4) := by
  obtain ⟨l1, l2, l3, l4⟩ := sA
  obtain ⟨m1, m2, m3, m4⟩ := sC
  have G1 := sl_q hp hA hB nA l1 l2
  have G2 := sl_q hp hC hB nC m1 m2
  have e1 : (p : Int) ∣ y1 - y2 - l * (x1 - x2) := d_eq (y := -1 * (l * (x1 - x2) - (y1 - y2))) (by grind) (d_mul l1.1)
  have e5 : (p : Int) ∣ y5 + y2 + m * (x5 - x2) := d_eq (y := (y5 - (m * (x3 - x5) - y3)) + (m * (x3 - x2) - (y3 - y2))) (by grind) (Int.dvd_add m3 m1.1)
  by_cases c : x1 = x5
  · obtain ⟨ey, ny⟩ := two_y hp hA m4 nF c
    have et := hr.2 c
    rw [← c] at m2 e5 G2 ⊢
    rw [← ey] at e5
    have k : (p : Int) ∣ (x1 - x2) * ((l - m) * (r - l) - (x1 - x4)) := by
      refine d_eq (y := (r * (2 * y1) - (3 * x1 * x1 + 2 * a * x1 + b)) - r * ((y1 - y2 - l * (x1 - x2)) + (y1 + y2 + m * (x1 - x2))) - ((x1 - x2) * (x4 - x2) - (3 * x2 * x2 + 2 * a * x2 + b) + 2 * y2 * l) + l * ((y1 + y2 + m * (x1 - x2)) - (y1 - y2 - l * (x1 - x2))) + (2 * (x1 - x2)) * (x4 - (l * l - a - x1 - x2))) (by grind) (Int.dvd_add (Int.dvd_add (Int.dvd_sub (Int.dvd_sub et (d_mul (Int.dvd_add e1 e5))) G1) (d_mul (Int.dvd_sub e5 e1))) (d_mul l2))
    rcases eucl hp k with h | h
    · exfalso
      have ex : x1 = x2 := rng_eq hA.1 hB.1 h
      apply nA
      refine ⟨ex, ?_⟩
      rw [ex, Int.sub_self, Int.mul_zero, Int.add_zero] at e5
      exact e5
    · exact h
  · have k : (p : Int) ∣ (x1 - x5) * ((l - m) * (r - l) - (x5 - x4)) := by
      refine d_eq (y := (l - m) * ((r * (x1 - x5) - (y1 - y5)) + (y1 - y2 - l * (x1 - x2)) - (y5 + y2 + m * (x5 - x2))) - (x5 - x2) * (x4 - (l * l - a - x1 - x2)) + ((x1 - x2) * (x4 - x2) - (3 * x2 * x2 + 2 * a * x2 + b) + 2 * y2 * l) + (x5 - x2) * (x5 - (m * m - a - x3 - x2)) - ((x3 - x2) * (x5 - x2) - (3 * x2 * x2 + 2 * a * x2 + b) + 2 * y2 * m)) (by grind) (Int.dvd_sub (Int.dvd_add (Int.dvd_add (Int.dvd_sub (d_mul (Int.dvd_sub (Int.dvd_add hr.1 e1) e5)) (d_mul l2)) G1) (d_mul m2)) G2)
    rcases eucl hp k with h | h
    · exact absurd (rng_eq hA.1 m4.1 h) c
    · exact h
end ELL
