/-! CLASSES: FOUND ones are POSSIBLE; what the class looks at by remainders -/
theorem isq_ex {z : Int} (h : isq z = true) : ∃ s : Nat, z = (s : Int) * s := by
  unfold isq at h
  rw [Bool.and_eq_true, decide_eq_true_eq, decide_eq_true_eq] at h
  refine ⟨rtN z.toNat, ?_⟩
  have e : (z.toNat : Int) = z := Int.toNat_of_nonneg h.1
  have h2 : ((rtN z.toNat * rtN z.toNat : Nat) : Int) = (z.toNat : Int) := by rw [h.2]
  rw [Int.natCast_mul, e] at h2
  exact h2.symm
theorem cg_mul {q x y z w : Int} (h : q ∣ x - y) (h' : q ∣ z - w) : q ∣ x * z - y * w := by
  obtain ⟨u, hu⟩ := h
  obtain ⟨v, hv⟩ := h'
  have e : x * z - y * w = (x - y) * z + y * (z - w) := by grind
  exact ⟨u * z + y * v, by rw [e, hu, hv]; grind⟩
theorem cg_add {q x y z w : Int} (h : q ∣ x - y) (h' : q ∣ z - w) : q ∣ x + z - (y + w) := by
  obtain ⟨u, hu⟩ := h
  obtain ⟨v, hv⟩ := h'
  have e : x + z - (y + w) = (x - y) + (z - w) := by grind
  exact ⟨u + v, by rw [e, hu, hv]; grind⟩
theorem cg_refl (q x : Int) : q ∣ x - x := ⟨0, by omega⟩
theorem cg_trans {q x y z : Int} (h : q ∣ x - y) (h' : q ∣ y - z) : q ∣ x - z := by
  obtain ⟨u, hu⟩ := h
  obtain ⟨v, hv⟩ := h'
  have e : x - z = (x - y) + (y - z) := by omega
  exact ⟨u + v, by rw [e, hu, hv]; grind⟩
theorem cg_symm {q x y : Int} (h : q ∣ x - y) : q ∣ y - x := by
  obtain ⟨u, hu⟩ := h
  have e : y - x = -(x - y) := by omega
  exact ⟨-u, by rw [e, hu]; grind⟩
theorem cg_emod {q x y : Int} (h : q ∣ x - y) : x % q = y % q := Int.emod_eq_emod_iff_emod_sub_eq_zero.mpr (Int.emod_eq_zero_of_dvd h)
theorem cg_of {q x y : Int} (h : x % q = y % q) : q ∣ x - y := Int.dvd_of_emod_eq_zero (Int.emod_eq_emod_iff_emod_sub_eq_zero.mp h)
theorem wth_cg {q A B d m e m' e' : Int} (h1 : q ∣ m - m') (h2 : q ∣ e - e') : q ∣ wth A B d m e - wth A B d m' e' :=
  cg_add (cg_add (cg_mul (cg_mul (cg_mul (cg_mul (cg_refl q d) h1) h1) h1) h1) (cg_mul (cg_mul (cg_mul (cg_mul (cg_refl q A) h1) h1) h2) h2)) (cg_mul (cg_mul (cg_mul (cg_mul (cg_refl q (B.tdiv d)) h2) h2) h2) h2)
theorem wth_sc (A B d m e w : Int) : wth A B d (m * w) (e * w) = w * w * (w * w) * wth A B d m e := by
  unfold wth
  generalize B.tdiv d = c
  grind
theorem cg_mod (q : Nat) (s : Int) : (q : Int) ∣ s - ((s % (q : Int)).toNat : Int) ∨ q = 0 := by
  by_cases c : q = 0
  · exact Or.inr c
  · left
    rw [Int.toNat_of_nonneg (Int.emod_nonneg _ (by omega))]
    exact Int.dvd_self_sub_emod
theorem sqQ_of {q : Nat} (hq : 0 < q) {z s : Int} (h : (q : Int) ∣ z - s * s) : sqQ q (z % (q : Int)).toNat = true := by
  have c := (cg_mod q s).resolve_right (by omega)
  have lt : (s % (q : Int)).toNat < q := by
    have := Int.emod_lt_of_pos s (show (0 : Int) < q by omega)
    have := Int.emod_nonneg s (show (q : Int) ≠ 0 by omega)
    omega
  refine decide_eq_true ⟨(s % (q : Int)).toNat, lt, ?_⟩
  have e : z % (q : Int) = (((s % (q : Int)).toNat * (s % (q : Int)).toNat % q : Nat) : Int) := by
    rw [Int.natCast_emod, Int.natCast_mul]
    exact cg_emod (cg_trans h (cg_mul c c))
  rw [e, Int.toNat_natCast]
theorem sqQ_ex {q : Nat} (hq : 0 < q) {z : Int} (h : sqQ q (z % (q : Int)).toNat = true) : ∃ s : Int, (q : Int) ∣ z - s * s := by
  obtain ⟨k, _, hk⟩ := of_decide_eq_true h
  refine ⟨(k : Int), cg_of ?_⟩
  have e : ((k * k % q : Nat) : Int) = z % (q : Int) := by
    rw [hk]; exact Int.toNat_of_nonneg (Int.emod_nonneg _ (by omega))
  rw [← e, Int.natCast_emod, Int.natCast_mul]
def okQ (q pr : Nat) : Prop := 2 ≤ q ∧ q ≤ 49 ∧ 2 ≤ pr ∧ pr ∣ q ∧ ∀ m, m < q → m % pr ≠ 0 → ∃ w, w < q ∧ m * w % q = 1
theorem okQ_16 : okQ 16 2 := ⟨by decide, by decide, by decide, by decide, by decide +kernel⟩
theorem okQ_9 : okQ 9 3 := ⟨by decide, by decide, by decide, by decide, by decide +kernel⟩
theorem okQ_25 : okQ 25 5 := ⟨by decide, by decide, by decide, by decide, by decide +kernel⟩
theorem okQ_49 : okQ 49 7 := ⟨by decide, by decide, by decide, by decide, by decide +kernel⟩
theorem okQ_11 : okQ 11 11 := ⟨by decide, by decide, by decide, by decide, by decide +kernel⟩
theorem okQ_13 : okQ 13 13 := ⟨by decide, by decide, by decide, by decide, by decide +kernel⟩
/-- what the class looks at -/
def rmX (A B d : Int) (q pr : Nat) : Prop := (∃ e, e < q ∧ sqQ q (wth A B d 1 (e : Int) % (q : Int)).toNat = true) ∨ (∃ m, m < q ∧ m % pr = 0 ∧ sqQ q (wth A B d (m : Int) 1 % (q : Int)).toNat = true)
theorem rm_sc {A B d m e s : Int} {q : Nat} (hq : 0 < q) {w m' e' : Int} (h : (q : Int) ∣ wth A B d m e - s * s) (h1 : (q : Int) ∣ m' - m * w) (h2 : (q : Int) ∣ e' - e * w) : sqQ q (wth A B d m' e' % (q : Int)).toNat = true := by
  refine sqQ_of hq (s := w * w * s) ?_
  have a1 := wth_cg (A := A) (B := B) (d := d) h1 h2
  have a2 := cg_mul (cg_refl (q : Int) (w * w * (w * w))) h
  rw [wth_sc] at a1
  have e : w * w * (w * w) * (s * s) = w * w * s * (w * w * s) := by grind
  rw [e] at a2
  exact cg_trans a1 a2
theorem rmX_iff {A B d : Int} {q pr : Nat} (h : okQ q pr) : rmX A B d q pr ↔ rmB A B d q pr = true := by
  obtain ⟨h1, h2, h3, h4, h5⟩ := h
  have p1 : 1 % pr = 1 := Nat.mod_eq_of_lt (by omega)
  constructor
  · intro g
    refine decide_eq_true ?_
    rcases g with ⟨e, e1, e2⟩ | ⟨m, m1, m2, m3⟩
    · exact ⟨1, by omega, e, e1, fun z => by omega, e2⟩
    · exact ⟨m, m1, 1, by omega, fun z => by omega, m3⟩
  · intro g
    obtain ⟨m, m1, e, e1, n1, n2⟩ := of_decide_eq_true g
    obtain ⟨s, hs⟩ := sqQ_ex (by omega) n2
    have inv : ∀ x w : Nat, x * w % q = 1 → (q : Int) ∣ 1 - (x : Int) * (w : Int) := fun x w hw => by
      refine cg_symm (cg_of ?_)
      have : ((x * w % q : Nat) : Int) = ((1 % q : Nat) : Int) := by rw [hw, Nat.mod_eq_of_lt (by omega)]
      rw [Int.natCast_emod, Int.natCast_emod, Int.natCast_mul] at this
      exact this
    have red : ∀ x w : Nat, (q : Int) ∣ ((x * w % q : Nat) : Int) - (x : Int) * (w : Int) := fun x w => by
      refine cg_symm ?_
      rw [Int.natCast_emod, Int.natCast_mul]
      exact Int.dvd_self_sub_emod
    by_cases c : m % pr = 0
    · have ce : e % pr ≠ 0 := fun z => n1 ⟨c, z⟩
      obtain ⟨w, w1, w2⟩ := h5 e e1 ce
      refine Or.inr ⟨m * w % q, Nat.mod_lt _ (by omega), ?_, rm_sc (by omega) hs (red m w) (inv e w w2)⟩
      rw [Nat.mod_mod_of_dvd _ h4]
      exact Nat.mod_eq_zero_of_dvd (Nat.dvd_trans (Nat.dvd_of_mod_eq_zero c) ⟨w, rfl⟩)
    · obtain ⟨w, w1, w2⟩ := h5 m m1 c
      exact Or.inl ⟨e * w % q, Nat.mod_lt _ (by omega), rm_sc (by omega) hs (inv m w w2) (red e w)⟩
theorem found_rm {A B d : Int} {m f : Nat} (h : sqF A B d = some (m, f)) {q pr : Nat} (hq : okQ q pr) : rmB A B d q pr = true := by
  obtain ⟨h1, h2, h3, h4, h5⟩ := hq
  obtain ⟨a1, a2, a3, a4⟩ := sqF_in h
  obtain ⟨s, hs⟩ := isq_ex a4
  refine decide_eq_true ⟨m % q, Nat.mod_lt _ (by omega), f % q, Nat.mod_lt _ (by omega), fun z => ?_, ?_⟩
  · rw [Nat.mod_mod_of_dvd _ h4, Nat.mod_mod_of_dvd _ h4] at z
    have g : pr ∣ Nat.gcd m f := Nat.dvd_gcd (Nat.dvd_of_mod_eq_zero z.1) (Nat.dvd_of_mod_eq_zero z.2)
    have e1 : Nat.gcd m f = 1 := a3
    rw [e1] at g
    have := Nat.le_of_dvd Nat.one_pos g
    omega
  · refine sqQ_of (by omega) (s := (s : Int)) ?_
    rw [← hs]
    refine wth_cg (cg_symm ?_) (cg_symm ?_)
    · rw [Int.natCast_emod]; exact Int.dvd_self_sub_emod
    · rw [Int.natCast_emod]; exact Int.dvd_self_sub_emod
theorem sqnn (x : Int) : 0 ≤ x * x := by
  rcases Int.le_total 0 x with h | h
  · exact Int.mul_nonneg h h
  · have := Int.mul_nonneg (show 0 ≤ -x by omega) (show 0 ≤ -x by omega)
    rwa [Int.neg_mul_neg] at this
theorem sq0 {x : Int} (h : x * x ≤ 0) : x = 0 := by
  have := sqnn x
  have e : x * x = 0 := by omega
  rcases Int.mul_eq_zero.mp e with z | z <;> exact z
theorem sg_need {A d c x y : Int} (hd : d < 0) (hc : c < 0) (hx : 0 ≤ x) (hy : 0 ≤ y) (hW : 0 ≤ d * (x * x) + A * (x * y) + c * (y * y)) (hA : A ≤ 0 ∨ A * A - 4 * (d * c) < 0) : x = 0 ∧ y = 0 := by
  have x2 := sqnn x
  have y2 := sqnn y
  have hdx := Int.mul_nonneg (show 0 ≤ -d - 1 by omega) x2
  have hcy := Int.mul_nonneg (show 0 ≤ -c - 1 by omega) y2
  have e1 : (-d - 1) * (x * x) = -(d * (x * x)) - x * x := by grind
  have e2 : (-c - 1) * (y * y) = -(c * (y * y)) - y * y := by grind
  rw [e1] at hdx
  rw [e2] at hcy
  rcases hA with hA | hA
  · have hxy := Int.mul_nonneg (show 0 ≤ -A by omega) (Int.mul_nonneg hx hy)
    have e3 : -A * (x * y) = -(A * (x * y)) := by grind
    rw [e3] at hxy
    exact ⟨sq0 (by omega), sq0 (by omega)⟩
  · have h1 := sqnn (2 * (d * x) + A * y)
    have h2 := Int.mul_nonneg (show 0 ≤ -(A * A - 4 * (d * c)) - 1 by omega) y2
    have h3 := Int.mul_nonneg (show 0 ≤ -d by omega) hW
    have e4 : (2 * (d * x) + A * y) * (2 * (d * x) + A * y) + (-(A * A - 4 * (d * c)) - 1) * (y * y) + 4 * (-d * (d * (x * x) + A * (x * y) + c * (y * y))) + y * y = 0 := by grind
    have hy0 : y = 0 := sq0 (by omega)
    subst hy0
    have e5 : A * (x * 0) = 0 := by grind
    have e6 : c * (0 * 0) = 0 := by grind
    rw [e5, e6] at hW
    exact ⟨sq0 (by omega), rfl⟩
theorem found_sg {A B d : Int} {m f : Nat} (hB0 : B ≠ 0) (hD : A * A - 4 * B ≠ 0) (hd0 : d ≠ 0) (hdv : d ∣ B) (h : sqF A B d = some (m, f)) : sgB A B d = true := by
  obtain ⟨a1, a2, a3, a4⟩ := sqF_in h
  obtain ⟨s, hs⟩ := isq_ex a4
  refine decide_eq_true ?_
  apply Classical.byContradiction
  intro n
  have e := Int.mul_tdiv_cancel' hdv
  have c0 : B.tdiv d ≠ 0 := fun z => by rw [z, Int.mul_zero] at e; exact hB0 e.symm
  have hdn : d < 0 := by omega
  have hcn : B.tdiv d < 0 := by omega
  have nn := sqnn (s : Int)
  have w : wth A B d m f = d * (((m : Int) * m) * ((m : Int) * m)) + A * (((m : Int) * m) * ((f : Int) * f)) + B.tdiv d * (((f : Int) * f) * ((f : Int) * f)) := by
    unfold wth
    generalize B.tdiv d = c
    grind
  rw [← hs, w] at nn
  have hh : A ≤ 0 ∨ A * A - 4 * (d * B.tdiv d) < 0 := by
    rw [e]
    by_cases q : A ≤ 0
    · exact Or.inl q
    · right; omega
  have z := sg_need hdn hcn (sqnn (m : Int)) (sqnn (f : Int)) nn hh
  have z1 : (m : Int) = 0 := sq0 (by omega)
  have z2 : (f : Int) = 0 := sq0 (by omega)
  have m0 : m = 0 := by omega
  have f0 : f = 0 := by omega
  subst m0; subst f0
  exact absurd a3 (by decide)
theorem found_ps {A B d : Int} {m f : Nat} (hB0 : B ≠ 0) (hD : A * A - 4 * B ≠ 0) (hd0 : d ≠ 0) (hdv : d ∣ B) (h : sqF A B d = some (m, f)) : psB A B d = true := by
  unfold psB rmA
  rw [found_sg hB0 hD hd0 hdv h, found_rm h okQ_16, found_rm h okQ_9, found_rm h okQ_25, found_rm h okQ_49, found_rm h okQ_11, found_rm h okQ_13]
  rfl
/-- counts -/
def cnB (p : Nat → Bool) : Nat → Nat
  | 0 => 0
  | n + 1 => cnB p n + (if p n = true then 1 else 0)
theorem cnB_s (p : Nat → Bool) (n : Nat) : cnB p (n + 1) = cnB p n + (if p n = true then 1 else 0) := rfl
theorem cnB_le (p : Nat → Bool) : ∀ n, cnB p n ≤ n := by
  intro n
  induction n with
  | zero => exact Nat.le_refl _
  | succ n ih => rw [cnB_s]; split <;> omega
theorem cnB_cong {p q : Nat → Bool} : ∀ n, (∀ k, k < n → p k = q k) → cnB p n = cnB q n := by
  intro n
  induction n with
  | zero => intro _; rfl
  | succ n ih =>
    intro h
    rw [cnB_s, cnB_s, ih (fun k hk => h k (by omega)), h n (by omega)]
theorem cnB_none {p : Nat → Bool} : ∀ n, (∀ k, k < n → p k = false) → cnB p n = 0 := by
  intro n
  induction n with
  | zero => intro _; rfl
  | succ n ih =>
    intro h
    rw [cnB_s, ih (fun k hk => h k (by omega)), h n (by omega), if_neg ff_tt]
theorem cnB_take {p : Nat → Bool} {x : Nat} : ∀ n, x < n → cnB p n = cnB (fun k => p k && !(Nat.beq k x)) n + (if p x = true then 1 else 0) := by
  intro n
  induction n with
  | zero => intro h; omega
  | succ n ih =>
    intro h
    rw [cnB_s, cnB_s]
    by_cases e : n = x
    · subst e
      have e1 : (p n && !(Nat.beq n n)) = false := by rw [beqS]; cases p n <;> rfl
      have e2 : cnB (fun k => p k && !(Nat.beq k n)) n = cnB p n := cnB_cong n (fun k hk => by
        show (p k && !(Nat.beq k n)) = p k
        rw [beqN (show k ≠ n by omega)]; cases p k <;> rfl)
      rw [e1, e2, if_neg ff_tt, Nat.add_zero]
    · have e1 : (p n && !(Nat.beq n x)) = p n := by rw [beqN e]; cases p n <;> rfl
      rw [e1, ih (by omega)]
      omega
theorem cnB_bij {n : Nat} {g : Nat → Nat} : ∀ (k : Nat) (p : Nat → Bool), (∀ i, i < k → g i < n) → (∀ i j, i < k → j < k → g i = g j → i = j) → (∀ x, x < n → p x = true → ∃ i, i < k ∧ g i = x) → cnB p n = cnB (fun i => p (g i)) k := by
  intro k
  induction k with
  | zero =>
    intro p _ _ h3
    show cnB p n = 0
    refine cnB_none n (fun x hx => ?_)
    cases hp : p x with
    | false => rfl
    | true =>
      obtain ⟨i, hi, _⟩ := h3 x hx hp
      exact absurd hi (Nat.not_lt_zero _)
  | succ k ih =>
    intro p h1 h2 h3
    rw [cnB_take n (h1 k (by omega)), cnB_s]
    have e := ih (fun x => p x && !(Nat.beq x (g k))) (fun i hi => h1 i (by omega)) (fun i j hi hj => h2 i j (by omega) (by omega)) (fun x hx hp => by
      have hp' : (p x && !(Nat.beq x (g k))) = true := hp
      rw [Bool.and_eq_true] at hp'
      obtain ⟨i, hi, hg⟩ := h3 x hx hp'.1
      refine ⟨i, ?_, hg⟩
      have : i ≠ k := fun z => by
        subst z
        rw [hg, beqS] at hp'
        exact absurd hp'.2 ff_tt
      omega)
    rw [e, cnB_cong (p := fun i => p (g i) && !(Nat.beq (g i) (g k))) (q := fun i => p (g i)) k (fun i hi => by
      show (p (g i) && !(Nat.beq (g i) (g k))) = p (g i)
      have : g i ≠ g k := fun z => by have := h2 i k (by omega) (by omega) z; omega
      rw [beqN this]; cases p (g i) <;> rfl)]
