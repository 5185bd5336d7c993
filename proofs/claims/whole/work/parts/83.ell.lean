/-! BY A PRIME: sums by their slopes -/
theorem d_mul {q c e : Int} (h : q ∣ e) : q ∣ c * e := Int.dvd_trans h (Int.dvd_mul_left _ _)
theorem d_eq {q x y : Int} (e : x = y) (h : q ∣ y) : q ∣ x := by rw [e]; exact h
theorem d_em (p : Nat) (z : Int) : (p : Int) ∣ z % p - z := ⟨-(z / p), by
  have := Int.mul_ediv_add_emod z p
  rw [Int.mul_neg]
  omega⟩
theorem em_of {p : Nat} {x y : Int} (h : (p : Int) ∣ x - y) : x % p = y % p := Int.emod_eq_emod_iff_emod_sub_eq_zero.mpr (Int.emod_eq_zero_of_dvd h)
theorem rng_eq {p : Nat} {x y : Int} (hx : 0 ≤ x ∧ x < p) (hy : 0 ≤ y ∧ y < p) (h : (p : Int) ∣ x - y) : x = y := by
  have := em_of h
  rw [Int.emod_eq_of_lt hx.1 hx.2, Int.emod_eq_of_lt hy.1 hy.2] at this
  exact this
theorem em_is {p : Nat} {x y : Int} (hx : 0 ≤ x ∧ x < p) (h : (p : Int) ∣ y - x) : y % p = x := by
  rw [em_of h, Int.emod_eq_of_lt hx.1 hx.2]
def ivP (p : Nat) (k : Int) : Int := ((k.toNat ^ (p - 2) % p : Nat) : Int)
theorem ivP_k : ∀ p ∈ opr, ∀ k, k < p → 1 ≤ k → (k * (k ^ (p - 2) % p)) % p = 1 := by decide +kernel
theorem iv_ok {p : Nat} (hp : p ∈ opr) {z : Int} (hz : ¬ (p : Int) ∣ z) : (p : Int) ∣ z * ivP p (z % p) - 1 ∧ 0 ≤ ivP p (z % p) ∧ ivP p (z % p) < p := by
  have hb := opr_bd p hp
  have eb := em_bd z (p := p) (by omega)
  have h0 : z % p ≠ 0 := fun q => hz (Int.dvd_of_emod_eq_zero q)
  obtain ⟨k, hk⟩ : ∃ k : Nat, z % p = k := ⟨(z % p).toNat, by omega⟩
  have hm := ivP_k p hp k (by omega) (by omega)
  unfold ivP
  rw [hk, Int.toNat_natCast]
  have lt : k ^ (p - 2) % p < p := Nat.mod_lt _ (by omega)
  refine ⟨?_, by omega, by omega⟩
  obtain ⟨v, hv⟩ : ∃ v, v = k ^ (p - 2) % p := ⟨_, rfl⟩
  rw [← hv] at hm ⊢
  have e1 : (p : Int) ∣ ((k * v : Nat) : Int) - 1 := by
    have h2 := Nat.div_add_mod (k * v) p
    rw [hm] at h2
    refine ⟨((k * v / p : Nat) : Int), ?_⟩
    rw [← Int.natCast_mul]
    omega
  have e2 := d_em p z
  rw [hk] at e2
  refine d_eq (y := (((k * v : Nat) : Int) - 1) - v * ((k : Int) - z)) ?_ (Int.dvd_sub e1 (d_mul e2))
  rw [Int.natCast_mul]
  grind
/-- slope -/
def slp (p : Nat) (a b x1 y1 x2 y2 : Int) : Int := if x1 = x2 then ((3 * x1 * x1 + 2 * a * x1 + b) * ivP p ((2 * y1) % p)) % p else ((y1 - y2) * ivP p ((x1 - x2) % p)) % p
def ptS (p : Nat) (a s x1 y1 x2 : Int) : Option (Int × Int) := some ((s * s - a - x1 - x2) % p, (s * (x1 - (s * s - a - x1 - x2) % p) - y1) % p)
def aP (p : Nat) (a b : Int) : Option (Int × Int) → Option (Int × Int) → Option (Int × Int)
  | none, Q => Q
  | some P, none => some P
  | some P, some Q => if P.1 = Q.1 ∧ (P.2 + Q.2) % p = 0 then none else ptS p a (slp p a b P.1 P.2 Q.1 Q.2) P.1 P.2 Q.1
def onA (p : Nat) (a b x y : Int) : Prop := (0 ≤ x ∧ x < p) ∧ (0 ≤ y ∧ y < p) ∧ (p : Int) ∣ y * y - (x * x * x + a * x * x + b * x)
def onE (p : Nat) (a b : Int) : Option (Int × Int) → Prop
  | none => True
  | some P => onA p a b P.1 P.2
def nopp (p : Nat) (x1 y1 x2 y2 : Int) : Prop := ¬ (x1 = x2 ∧ (p : Int) ∣ y1 + y2)
def SL (p : Nat) (a b x1 y1 x2 y2 s : Int) : Prop := (p : Int) ∣ s * (x1 - x2) - (y1 - y2) ∧ (x1 = x2 → (p : Int) ∣ s * (2 * y1) - (3 * x1 * x1 + 2 * a * x1 + b))
section ELL
variable {p : Nat} {a b : Int}
theorem same_y (hp : p ∈ opr) {x y1 y2 : Int} (h1 : onA p a b x y1) (h2 : onA p a b x y2) : y1 = y2 ∨ (p : Int) ∣ y1 + y2 := by
  have : (p : Int) ∣ (y1 - y2) * (y1 + y2) := d_eq (y := (y1 * y1 - (x * x * x + a * x * x + b * x)) - (y2 * y2 - (x * x * x + a * x * x + b * x))) (by grind) (Int.dvd_sub h1.2.2 h2.2.2)
  rcases eucl hp this with h | h
  · exact Or.inl (rng_eq h1.2.1 h2.2.1 h)
  · exact Or.inr h
theorem two_y (hp : p ∈ opr) {x1 y1 x2 y2 : Int} (h1 : onA p a b x1 y1) (h2 : onA p a b x2 y2) (hn : nopp p x1 y1 x2 y2) (hx : x1 = x2) : y1 = y2 ∧ ¬ (p : Int) ∣ 2 * y1 := by
  subst hx
  have h : y1 = y2 := by
    rcases same_y hp h1 h2 with h | h
    · exact h
    · exact absurd ⟨rfl, h⟩ hn
  subst h
  exact ⟨rfl, fun q => hn ⟨rfl, by rw [show y1 + y1 = 2 * y1 by omega]; exact q⟩⟩
theorem ne_dv {x1 x2 : Int} (h1 : 0 ≤ x1 ∧ x1 < p) (h2 : 0 ≤ x2 ∧ x2 < p) (h : x1 ≠ x2) : ¬ (p : Int) ∣ x1 - x2 := fun q => h (rng_eq h1 h2 q)
theorem sl_ex (hp : p ∈ opr) {x1 y1 x2 y2 : Int} (h1 : onA p a b x1 y1) (h2 : onA p a b x2 y2) (hn : nopp p x1 y1 x2 y2) : SL p a b x1 y1 x2 y2 (slp p a b x1 y1 x2 y2) := by
  unfold slp
  by_cases c : x1 = x2
  · rw [if_pos c]
    obtain ⟨e, ny⟩ := two_y hp h1 h2 hn c
    have iv := (iv_ok hp ny).1
    obtain ⟨F, hF⟩ : ∃ F, F = 3 * x1 * x1 + 2 * a * x1 + b := ⟨_, rfl⟩
    rw [← hF]
    have em := d_em p (F * ivP p (2 * y1 % p))
    refine ⟨?_, fun _ => ?_⟩
    · rw [c, e, Int.sub_self, Int.sub_self, Int.mul_zero]; exact Int.dvd_zero _
    · rw [← hF]
      refine d_eq (y := (2 * y1) * ((F * ivP p (2 * y1 % p)) % p - F * ivP p (2 * y1 % p)) + F * (2 * y1 * ivP p (2 * y1 % p) - 1)) (by grind) (Int.dvd_add (d_mul em) (d_mul iv))
  · rw [if_neg c]
    have iv := (iv_ok hp (ne_dv h1.1 h2.1 c)).1
    have em := d_em p ((y1 - y2) * ivP p ((x1 - x2) % p))
    refine ⟨?_, fun q => absurd q c⟩
    exact d_eq (y := (x1 - x2) * (((y1 - y2) * ivP p ((x1 - x2) % p)) % p - (y1 - y2) * ivP p ((x1 - x2) % p)) + (y1 - y2) * ((x1 - x2) * ivP p ((x1 - x2) % p) - 1)) (by grind) (Int.dvd_add (d_mul em) (d_mul iv))
theorem sl_un (hp : p ∈ opr) {x1 y1 x2 y2 s t : Int} (h1 : onA p a b x1 y1) (h2 : onA p a b x2 y2) (hn : nopp p x1 y1 x2 y2) (hs : SL p a b x1 y1 x2 y2 s) (ht : SL p a b x1 y1 x2 y2 t) : (p : Int) ∣ s - t := by
  by_cases c : x1 = x2
  · have ny := (two_y hp h1 h2 hn c).2
    have : (p : Int) ∣ (s - t) * (2 * y1) := d_eq (y := (s * (2 * y1) - (3 * x1 * x1 + 2 * a * x1 + b)) - (t * (2 * y1) - (3 * x1 * x1 + 2 * a * x1 + b))) (by grind) (Int.dvd_sub (hs.2 c) (ht.2 c))
    rcases eucl hp this with h | h
    · exact h
    · exact absurd h ny
  · have : (p : Int) ∣ (s - t) * (x1 - x2) := d_eq (y := (s * (x1 - x2) - (y1 - y2)) - (t * (x1 - x2) - (y1 - y2))) (by grind) (Int.dvd_sub hs.1 ht.1)
    rcases eucl hp this with h | h
    · exact h
    · exact absurd h (ne_dv h1.1 h2.1 c)
theorem ptS_eq {s t x1 y1 x2 : Int} (h : (p : Int) ∣ s - t) : ptS p a s x1 y1 x2 = ptS p a t x1 y1 x2 := by
  unfold ptS
  have e1 : (s * s - a - x1 - x2) % p = (t * t - a - x1 - x2) % p := em_of (d_eq (y := (s + t) * (s - t)) (by grind) (d_mul h))
  rw [e1]
  obtain ⟨X, hX⟩ : ∃ X, X = (t * t - a - x1 - x2) % p := ⟨_, rfl⟩
  rw [← hX, em_of (x := s * (x1 - X) - y1) (y := t * (x1 - X) - y1) (d_eq (y := (x1 - X) * (s - t)) (by grind) (d_mul h))]
theorem aP_no {x1 y1 x2 y2 : Int} (hn : nopp p x1 y1 x2 y2) : aP p a b (some (x1, y1)) (some (x2, y2)) = ptS p a (slp p a b x1 y1 x2 y2) x1 y1 x2 := by
  show (if x1 = x2 ∧ (y1 + y2) % (p : Int) = 0 then none else ptS p a (slp p a b x1 y1 x2 y2) x1 y1 x2) = _
  rw [if_neg (fun q => hn ⟨q.1, Int.dvd_of_emod_eq_zero q.2⟩)]
theorem aP_op {x1 y1 x2 y2 : Int} (hx : x1 = x2) (hy : (p : Int) ∣ y1 + y2) : aP p a b (some (x1, y1)) (some (x2, y2)) = none := by
  show (if x1 = x2 ∧ (y1 + y2) % (p : Int) = 0 then none else ptS p a (slp p a b x1 y1 x2 y2) x1 y1 x2) = _
  rw [if_pos ⟨hx, Int.emod_eq_zero_of_dvd hy⟩]
/-- the sum by any number that is its slope -/
theorem add_sl (hp : p ∈ opr) {x1 y1 x2 y2 t : Int} (h1 : onA p a b x1 y1) (h2 : onA p a b x2 y2) (hn : nopp p x1 y1 x2 y2) (ht : SL p a b x1 y1 x2 y2 t) : aP p a b (some (x1, y1)) (some (x2, y2)) = ptS p a t x1 y1 x2 := by
  rw [aP_no hn]
  exact ptS_eq (sl_un hp h1 h2 hn (sl_ex hp h1 h2 hn) ht)
/-- x less x of the two, by the third -/
theorem sl_q (hp : p ∈ opr) {x1 y1 x2 y2 s x3 : Int} (h1 : onA p a b x1 y1) (h2 : onA p a b x2 y2) (hn : nopp p x1 y1 x2 y2) (hs : SL p a b x1 y1 x2 y2 s) (h3 : (p : Int) ∣ x3 - (s * s - a - x1 - x2)) : (p : Int) ∣ (x1 - x2) * (x3 - x2) - (3 * x2 * x2 + 2 * a * x2 + b) + 2 * y2 * s := by
  by_cases c : x1 = x2
  · have e := (two_y hp h1 h2 hn c).1
    have h := hs.2 c
    rw [c, e] at h
    refine d_eq (y := s * (2 * y2) - (3 * x2 * x2 + 2 * a * x2 + b)) ?_ h
    rw [c]; grind
  · have k : (p : Int) ∣ (x1 - x2) * ((x1 - x2) * (x3 - x2) - (3 * x2 * x2 + 2 * a * x2 + b) + 2 * y2 * s) := by
      refine d_eq (y := ((s * (x1 - x2) - (y1 - y2) + 2 * y1) * (s * (x1 - x2) - (y1 - y2)) + (y1 * y1 - (x1 * x1 * x1 + a * x1 * x1 + b * x1))) - (y2 * y2 - (x2 * x2 * x2 + a * x2 * x2 + b * x2)) + ((x1 - x2) * (x1 - x2)) * (x3 - (s * s - a - x1 - x2))) (by grind) (Int.dvd_add (Int.dvd_sub (Int.dvd_add (d_mul hs.1) h1.2.2) h2.2.2) (d_mul h3))
    rcases eucl hp k with h | h
    · exact absurd h (ne_dv h1.1 h2.1 c)
    · exact h
/-- the sum of two: what is known of it -/
def Sm (p : Nat) (a b x1 y1 x2 y2 s x3 y3 : Int) : Prop := SL p a b x1 y1 x2 y2 s ∧ (p : Int) ∣ x3 - (s * s - a - x1 - x2) ∧ (p : Int) ∣ y3 - (s * (x1 - x3) - y1) ∧ onA p a b x3 y3
theorem sm_ex (hp : p ∈ opr) {x1 y1 x2 y2 : Int} (h1 : onA p a b x1 y1) (h2 : onA p a b x2 y2) (hn : nopp p x1 y1 x2 y2) : ∃ s x3 y3, aP p a b (some (x1, y1)) (some (x2, y2)) = some (x3, y3) ∧ Sm p a b x1 y1 x2 y2 s x3 y3 := by
  have hs := sl_ex hp h1 h2 hn
  obtain ⟨s, hS⟩ : ∃ s, s = slp p a b x1 y1 x2 y2 := ⟨_, rfl⟩
  rw [← hS] at hs
  obtain ⟨x3, hx3⟩ : ∃ x, x = (s * s - a - x1 - x2) % p := ⟨_, rfl⟩
  obtain ⟨y3, hy3⟩ : ∃ y, y = (s * (x1 - x3) - y1) % p := ⟨_, rfl⟩
  have hb := opr_bd p hp
  have e3 : (p : Int) ∣ x3 - (s * s - a - x1 - x2) := by rw [hx3]; exact d_em _ _
  have e4 : (p : Int) ∣ y3 - (s * (x1 - x3) - y1) := by rw [hy3]; exact d_em _ _
  refine ⟨s, x3, y3, by rw [aP_no hn, ← hS, hy3, hx3]; rfl, hs, e3, e4, by rw [hx3]; exact em_bd _ (by omega), by rw [hy3]; exact em_bd _ (by omega), ?_⟩
  have G := sl_q hp h1 h2 hn hs e3
  refine d_eq (y := (((s * (x1 - x2) - (y1 - y2)) + (y3 - (s * (x1 - x3) - y1)) - 2 * (y2 + s * (x3 - x2))) * ((s * (x1 - x2) - (y1 - y2)) + (y3 - (s * (x1 - x3) - y1))) + (y2 * y2 - (x2 * x2 * x2 + a * x2 * x2 + b * x2))) + (x3 - x2) * ((x1 - x2) * (x3 - x2) - (3 * x2 * x2 + 2 * a * x2 + b) + 2 * y2 * s) - ((x3 - x2) * (x3 - x2)) * (x3 - (s * s - a - x1 - x2))) (by grind) (Int.dvd_sub (Int.dvd_add (Int.dvd_add (d_mul (Int.dvd_add hs.1 e4)) h2.2.2) (d_mul G)) (d_mul e3))
end ELL
