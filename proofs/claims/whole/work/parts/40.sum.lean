/-! SUMS, as mathematics -/
abbrev smx (p q : Pt) : Prop := p.1 = q.1 ∧ p.2.2 = q.2.2
abbrev zP (p q : Pt) : Prop := (p.1 = q.1 ∧ p.2.2 = q.2.2) ∧ p.2.1 = -q.2.1
/-- the TURNED one -/
def tn (p : Pt) : Pt := (p.1, -p.2.1, p.2.2)
def abv (a b : Int) (p q : Pt) : Int := if smx p q then 3 * p.1 * p.1 + 2 * a * p.1 * p.2.2 * p.2.2 + b * p.2.2 * p.2.2 * p.2.2 * p.2.2 else q.2.1 * p.2.2 * p.2.2 * p.2.2 - p.2.1 * q.2.2 * q.2.2 * q.2.2
def blw (p q : Pt) : Int := if smx p q then 2 * p.2.1 else q.1 * p.2.2 * p.2.2 - p.1 * q.2.2 * q.2.2
def sU0 (a b : Int) (p q : Pt) : Int := if smx p q then abv a b p q * abv a b p q - blw p q * blw p q * (a * p.2.2 * p.2.2 + 2 * p.1) else abv a b p q * abv a b p q - blw p q * blw p q * (a * p.2.2 * p.2.2 * q.2.2 * q.2.2 + p.1 * q.2.2 * q.2.2 + q.1 * p.2.2 * p.2.2)
def sV0 (p q : Pt) : Int := if smx p q then blw p q * blw p q * p.2.2 * p.2.2 else blw p q * blw p q * (p.2.2 * q.2.2) * (p.2.2 * q.2.2)
/-- in lowest terms -/
def lwU (U V : Int) : Int := U.tdiv (Int.gcd U V : Int)
def lwV (U V : Int) : Int := V.tdiv (Int.gcd U V : Int)
def sU (a b : Int) (p q : Pt) : Int := lwU (sU0 a b p q) (sV0 p q)
def sV (a b : Int) (p q : Pt) : Int := lwV (sU0 a b p q) (sV0 p q)
def sE (a b : Int) (p q : Pt) : Nat := rtN (sV a b p q).toNat
/-- n of the SUM, with its e being d, its m u -/
def sNn (a b : Int) (p q : Pt) (u d : Int) : Int := if smx p q then (abv a b p q * (p.1 * d * d - u * p.2.2 * p.2.2) - 2 * p.2.1 * p.2.1 * d * d) * d else (abv a b p q * (p.1 * d * d - u * p.2.2 * p.2.2) - p.2.1 * q.2.2 * blw p q * d * d) * d
def sNd (p q : Pt) : Int := if smx p q then 2 * p.2.1 * p.2.2 * p.2.2 * p.2.2 else p.2.2 * p.2.2 * p.2.2 * q.2.2 * blw p q
def sN (a b : Int) (p q : Pt) : Int := (sNn a b p q (sU a b p q) (sE a b p q)).tdiv (sNd p q)
/-- the SUM, if its m and e are in bounds -/
def sumT (a b : Int) (M E : Nat) (p q : Pt) : Option Pt := if (sE a b p q * sE a b p q : Int) = sV a b p q ∧ sE a b p q ≤ E ∧ (-(M : Int) ≤ sU a b p q ∧ sU a b p q ≤ (M : Int)) then some (sU a b p q, sN a b p q, (sE a b p q : Int)) else none
/-- its number in a list: 1000 ZERO, -6 FAR -/
def sumI (a b : Int) (M E : Nat) (L : List Pt) (p q : Pt) : Int := if zP p q then 1000 else match sumT a b M E p q with
  | none => -6
  | some t => fnd L t
theorem isPt_e {a b : Int} {M E : Nat} (hE : E ≤ 6) {p : Pt} (h : isPt a b M E p) : bd 6 p.2.2 := ⟨by have := h.2.1; omega, by have := h.2.2.1; omega⟩
theorem isPt_m {a b : Int} {M E : Nat} (hM : M ≤ 1000) {p : Pt} (h : isPt a b M E p) : bd 1000 p.1 := bd_mono h.1 (by omega)
theorem isPt_tn {a b : Int} {M E : Nat} {p : Pt} (h : isPt a b M E p) : isPt a b M E (tn p) := ⟨h.1, h.2.1, h.2.2.1, h.2.2.2.1, by
  show -p.2.1 * -p.2.1 = _
  rw [Int.neg_mul_neg]; exact h.2.2.2.2⟩
theorem abv_bd {a b : Int} {M E : Nat} (hab : inB a b) (hM : M ≤ 1000) (hE : E ≤ 6) {p q : Pt} (hp : isPt a b M E p) (hq : isPt a b M E q) : bd 70000000 (abv a b p q) := by
  have m1 := isPt_m hM hp
  have n1 := isPt_n hab hM hE hp
  have e1 := isPt_e hE hp
  have n2 := isPt_n hab hM hE hq
  have e2 := isPt_e hE hq
  unfold abv
  by_cases c : smx p q
  · rw [if_pos c]
    exact bd_mono (bd_add (bd_add (bd_mul (bd_mul (bd_lit (A := 3) 3 rfl) m1) m1) (bd_mul (bd_mul (bd_mul (bd_mul (bd_lit (A := 2) 2 rfl) hab.1) m1) e1) e1)) (bd_mul (bd_mul (bd_mul (bd_mul hab.2 e1) e1) e1) e1)) (by decide)
  · rw [if_neg c]
    exact bd_mono (bd_sub (bd_mul (bd_mul (bd_mul n2 e1) e1) e1) (bd_mul (bd_mul (bd_mul n1 e2) e2) e2)) (by decide)
theorem blw_bd {a b : Int} {M E : Nat} (hab : inB a b) (hM : M ≤ 1000) (hE : E ≤ 6) {p q : Pt} (hp : isPt a b M E p) (hq : isPt a b M E q) : bd 282842 (blw p q) := by
  have m1 := isPt_m hM hp
  have n1 := isPt_n hab hM hE hp
  have e1 := isPt_e hE hp
  have m2 := isPt_m hM hq
  have e2 := isPt_e hE hq
  unfold blw
  by_cases c : smx p q
  · rw [if_pos c]
    exact bd_mono (bd_mul (bd_lit (A := 2) 2 rfl) n1) (by decide)
  · rw [if_neg c]
    exact bd_mono (bd_sub (bd_mul (bd_mul m2 e1) e1) (bd_mul (bd_mul m1 e2) e2)) (by decide)
theorem blw_bd2 {a b : Int} {M E : Nat} (hM : M ≤ 1000) (hE : E ≤ 6) {p q : Pt} (hp : isPt a b M E p) (hq : isPt a b M E q) (c : ¬ smx p q) : bd 72000 (blw p q) := by
  have m1 := isPt_m hM hp
  have e1 := isPt_e hE hp
  have m2 := isPt_m hM hq
  have e2 := isPt_e hE hq
  unfold blw
  rw [if_neg c]
  exact bd_mono (bd_sub (bd_mul (bd_mul m2 e1) e1) (bd_mul (bd_mul m1 e2) e2)) (by decide)
theorem sU0_bd {a b : Int} {M E : Nat} (hab : inB a b) (hM : M ≤ 1000) (hE : E ≤ 6) {p q : Pt} (hp : isPt a b M E p) (hq : isPt a b M E q) : bd 10000000000000000 (sU0 a b p q) := by
  have m1 := isPt_m hM hp
  have e1 := isPt_e hE hp
  have m2 := isPt_m hM hq
  have e2 := isPt_e hE hq
  have ha := abv_bd hab hM hE hp hq
  unfold sU0
  by_cases c : smx p q
  · rw [if_pos c]
    have hb := blw_bd hab hM hE hp hq
    exact bd_mono (bd_sub (bd_mul ha ha) (bd_mul (bd_mul hb hb) (bd_add (bd_mul (bd_mul hab.1 e1) e1) (bd_mul (bd_lit (A := 2) 2 rfl) m1)))) (by decide)
  · rw [if_neg c]
    have hb := blw_bd2 hM hE hp hq c
    exact bd_mono (bd_sub (bd_mul ha ha) (bd_mul (bd_mul hb hb) (bd_add (bd_add (bd_mul (bd_mul (bd_mul (bd_mul hab.1 e1) e1) e2) e2) (bd_mul (bd_mul m1 e2) e2)) (bd_mul (bd_mul m2 e1) e1)))) (by decide)
theorem sV0_bd {a b : Int} {M E : Nat} (hab : inB a b) (hM : M ≤ 1000) (hE : E ≤ 6) {p q : Pt} (hp : isPt a b M E p) (hq : isPt a b M E q) : bd 7000000000000 (sV0 p q) := by
  have e1 := isPt_e hE hp
  have e2 := isPt_e hE hq
  unfold sV0
  by_cases c : smx p q
  · rw [if_pos c]
    have hb := blw_bd hab hM hE hp hq
    exact bd_mono (bd_mul (bd_mul (bd_mul hb hb) e1) e1) (by decide)
  · rw [if_neg c]
    have hb := blw_bd2 hM hE hp hq c
    exact bd_mono (bd_mul (bd_mul (bd_mul hb hb) (bd_mul e1 e2)) (bd_mul e1 e2)) (by decide)
theorem cop_sq {m e f : Nat} (h : Nat.Coprime m e) (hd : e * e ∣ m * (f * f)) : e ∣ f := by
  have h2 : Nat.Coprime (e * e) m := (Nat.Coprime.mul_right h h).symm
  have h3 : e * e ∣ f * f := h2.dvd_of_dvd_mul_left hd
  have h4 : e ^ 2 ∣ f ^ 2 := by rw [Nat.pow_two, Nat.pow_two]; exact h3
  exact (Nat.pow_dvd_pow_iff (by decide)).mp h4
theorem blw_ne {a b : Int} {M E : Nat} {p q : Pt} (hp : isPt a b M E p) (hq : isPt a b M E q) (hz : ¬ zP p q) : blw p q ≠ 0 := by
  obtain ⟨m1, n1, e1⟩ := p
  obtain ⟨m2, n2, e2⟩ := q
  obtain ⟨-, p2, -, p4, p5⟩ := hp
  obtain ⟨-, q2, -, q4, q5⟩ := hq
  simp only at p2 p4 p5 q2 q4 q5
  unfold blw
  by_cases c : smx (m1, n1, e1) (m2, n2, e2)
  · rw [if_pos c]
    obtain ⟨c1, c2⟩ := c
    simp only at c1 c2
    subst c1; subst c2
    show 2 * n1 ≠ 0
    intro h0
    have h1 : n1 = 0 := by omega
    subst h1
    rw [← p5] at q5
    have h2 : n2 = 0 := by
      rcases Int.mul_eq_zero.mp (show n2 * n2 = 0 from by rw [q5]; rfl) with q | q <;> exact q
    exact hz ⟨⟨rfl, rfl⟩, by show (0 : Int) = -n2; omega⟩
  · rw [if_neg c]
    show m2 * e1 * e1 - m1 * e2 * e2 ≠ 0
    intro h0
    have h1 : m2 * (e1 * e1) = m1 * (e2 * e2) := by
      rw [← Int.mul_assoc, ← Int.mul_assoc]; omega
    have h2 : m2.natAbs * (e1.natAbs * e1.natAbs) = m1.natAbs * (e2.natAbs * e2.natAbs) := by
      rw [← Int.natAbs_mul, ← Int.natAbs_mul, ← Int.natAbs_mul, ← Int.natAbs_mul, h1]
    have d1 : e1.natAbs ∣ e2.natAbs := cop_sq (m := m1.natAbs) p4 ⟨m2.natAbs, by rw [← h2, Nat.mul_comm]⟩
    have d2 : e2.natAbs ∣ e1.natAbs := cop_sq (m := m2.natAbs) q4 ⟨m1.natAbs, by rw [h2, Nat.mul_comm]⟩
    have he : e1 = e2 := by have := Nat.dvd_antisymm d1 d2; omega
    subst he
    have hm : m2 = m1 := by
      have hpos : e1 * e1 ≠ 0 := fun q => by
        rcases Int.mul_eq_zero.mp q with q | q <;> omega
      exact Int.eq_of_mul_eq_mul_right hpos h1
    exact c ⟨hm.symm, rfl⟩
theorem sq_pos {x : Int} (h : x ≠ 0) : 0 < x * x := by
  rcases Int.lt_or_gt_of_ne h with q | q
  · exact Int.mul_pos_of_neg_of_neg q q
  · exact Int.mul_pos q q
theorem sV0_pos {a b : Int} {M E : Nat} {p q : Pt} (hp : isPt a b M E p) (hq : isPt a b M E q) (hz : ¬ zP p q) : 0 < sV0 p q := by
  have hb := sq_pos (blw_ne hp hq hz)
  have e1 := hp.2.1
  have e2 := hq.2.1
  unfold sV0
  by_cases c : smx p q
  · rw [if_pos c]
    exact Int.mul_pos (Int.mul_pos hb (by omega)) (by omega)
  · rw [if_neg c]
    exact Int.mul_pos (Int.mul_pos hb (Int.mul_pos (by omega) (by omega))) (Int.mul_pos (by omega) (by omega))
/-- lowest terms: U = g u, V = g v -/
theorem lw_ok {U V : Int} (hV : 0 < V) : ∃ g : Int, 0 < g ∧ U = g * lwU U V ∧ V = g * lwV U V ∧ 0 < lwV U V ∧ Int.gcd (lwU U V) (lwV U V) = 1 ∧ g = (Int.gcd U V : Int) := by
  have hg : 0 < Int.gcd U V := Int.gcd_pos_of_ne_zero_right U (by omega)
  have dU : ((Int.gcd U V : Nat) : Int) ∣ U := Int.gcd_dvd_left U V
  have dV : ((Int.gcd U V : Nat) : Int) ∣ V := Int.gcd_dvd_right U V
  have eU : U = (Int.gcd U V : Int) * lwU U V := (Int.mul_tdiv_cancel' dU).symm
  have eV : V = (Int.gcd U V : Int) * lwV U V := (Int.mul_tdiv_cancel' dV).symm
  refine ⟨(Int.gcd U V : Int), by omega, eU, eV, ?_, ?_, rfl⟩
  · rcases Int.lt_or_le 0 (lwV U V) with q | q
    · exact q
    · have := Int.mul_le_mul_of_nonneg_left q (show (0 : Int) ≤ (Int.gcd U V : Int) by omega)
      rw [← eV] at this
      omega
  · have h := Int.gcd_mul_left (Int.gcd U V : Int) (lwU U V) (lwV U V)
    rw [← eU, ← eV, Int.natAbs_natCast] at h
    have h2 : Int.gcd U V * 1 = Int.gcd U V * Int.gcd (lwU U V) (lwV U V) := by omega
    exact (Nat.eq_of_mul_eq_mul_left hg h2).symm
theorem lw_bd {U V A : Int} (hU : bd A U) : bd A (lwU U V) := bd_tdiv _ hU
theorem lwV_bd {U V A : Int} (hV : bd A V) : bd A (lwV U V) := bd_tdiv _ hV
theorem cop_dvd {v u w : Int} (hc : Int.gcd u v = 1) (h : v ∣ u * w) : v ∣ w := by
  have h1 : v.natAbs ∣ u.natAbs * w.natAbs := by rw [← Int.natAbs_mul]; exact Int.natAbs_dvd_natAbs.mpr h
  have h2 : Nat.Coprime v.natAbs u.natAbs := Nat.Coprime.symm hc
  exact Int.natAbs_dvd_natAbs.mp (h2.dvd_of_dvd_mul_left h1)
/-- a depth clears the fraction -/
theorem clears {U V : Int} (hV : 0 < V) (w : Int) : V ∣ U * w ↔ lwV U V ∣ w := by
  obtain ⟨g, g0, gU, gV, v0, cop, -⟩ := lw_ok (U := U) hV
  constructor
  · intro h
    have h1 : g * lwV U V ∣ g * (lwU U V * w) := by rw [← gV, ← Int.mul_assoc, ← gU]; exact h
    exact cop_dvd cop (Int.dvd_of_mul_dvd_mul_left (by omega) h1)
  · intro h
    have h1 : g * lwV U V ∣ g * (lwU U V * w) := Int.mul_dvd_mul_left g (Int.dvd_trans h ⟨lwU U V, Int.mul_comm _ _⟩)
    rw [← gV, ← Int.mul_assoc, ← gU] at h1
    exact h1
theorem clear_val {U V w k : Int} (hV : 0 < V) (hw : w = lwV U V * k) : (U * w).tdiv V = lwU U V * k := by
  obtain ⟨g, g0, gU, gV, v0, cop, -⟩ := lw_ok (U := U) hV
  have e : U * w = V * (lwU U V * k) := by
    have e1 : U * w = g * lwU U V * (lwV U V * k) := by rw [← gU, hw]
    have e2 : V * (lwU U V * k) = g * lwV U V * (lwU U V * k) := by rw [← gV]
    rw [e1, e2]; grind
  rw [e]
  exact Int.mul_tdiv_cancel_left _ (by omega)
theorem sq_dvd {e d : Int} (h : e * e ∣ d * d) : e ∣ d := by
  have h1 : e.natAbs * e.natAbs ∣ d.natAbs * d.natAbs := by rw [← Int.natAbs_mul, ← Int.natAbs_mul]; exact Int.natAbs_dvd_natAbs.mpr h
  have h4 : e.natAbs ^ 2 ∣ d.natAbs ^ 2 := by rw [Nat.pow_two, Nat.pow_two]; exact h1
  exact Int.natAbs_dvd_natAbs.mp ((Nat.pow_dvd_pow_iff (by decide)).mp h4)
/-- the first depth that clears the fraction: the SUM's e, if that is whole; else what comes is in no list -/
theorem depth_ok {a b : Int} {M E : Nat} {U V : Int} (hV : 0 < V) {L : List Pt} (hL : ∀ t ∈ L, isPt a b M E t) {d : Int} (hd : 1 ≤ d) (hdE : d ≤ E) (hmin : ∀ d', 1 ≤ d' → d' < d → ¬ lwV U V ∣ d' * d') (hdv : lwV U V ∣ d * d) : ((rtN (lwV U V).toNat : Int) * (rtN (lwV U V).toNat : Int) = lwV U V ∧ rtN (lwV U V).toNat ≤ E ∧ d = (rtN (lwV U V).toNat : Int) ∧ (U * (d * d)).tdiv V = lwU U V) ∨ (¬ ((rtN (lwV U V).toNat : Int) * (rtN (lwV U V).toNat : Int) = lwV U V ∧ rtN (lwV U V).toNat ≤ E) ∧ ∀ n, ((U * (d * d)).tdiv V, n, d) ∉ L) := by
  obtain ⟨g, g0, gU, gV, v0, cop, -⟩ := lw_ok (U := U) hV
  obtain ⟨e, he⟩ : ∃ e, e = rtN (lwV U V).toNat := ⟨_, rfl⟩
  rw [← he]
  by_cases c : (e : Int) * (e : Int) = lwV U V ∧ e ≤ E
  · obtain ⟨c1, c2⟩ := c
    refine Or.inl ⟨c1, c2, ?_, ?_⟩
    · have h1 : (e : Int) ∣ d := sq_dvd (by rw [c1]; exact hdv)
      have h2 : (e : Int) ≤ d := Int.le_of_dvd (by omega) h1
      have h3 : 1 ≤ (e : Int) := by
        rcases Nat.eq_zero_or_pos e with z | z
        · rw [z] at c1; simp only [Int.ofNat_eq_natCast, Int.natCast_zero, Int.zero_mul] at c1; omega
        · omega
      rcases Int.lt_or_eq_of_le h2 with q | q
      · exact absurd (by rw [c1]; exact Int.dvd_refl _) (hmin e h3 q)
      · exact q.symm
    · have h1 : (e : Int) ∣ d := sq_dvd (by rw [c1]; exact hdv)
      have h2 : (e : Int) ≤ d := Int.le_of_dvd (by omega) h1
      have h3 : 1 ≤ (e : Int) := by
        rcases Nat.eq_zero_or_pos e with z | z
        · rw [z] at c1; simp only [Int.ofNat_eq_natCast, Int.natCast_zero, Int.zero_mul] at c1; omega
        · omega
      have h4 : d = (e : Int) := by
        rcases Int.lt_or_eq_of_le h2 with q | q
        · exact absurd (by rw [c1]; exact Int.dvd_refl _) (hmin e h3 q)
        · exact q.symm
      have := clear_val (U := U) (w := d * d) (k := 1) hV (by rw [h4, c1, Int.mul_one])
      rw [this, Int.mul_one]
  · refine Or.inr ⟨c, fun n hn => ?_⟩
    obtain ⟨k, hk⟩ := hdv
    have hpt := (hL _ hn).2.2.2.1
    simp only at hpt
    rw [clear_val (k := k) hV hk] at hpt
    have hdd : 0 < d * d := Int.mul_pos (by omega) (by omega)
    have hk0 : 0 < k := by
      rcases Int.lt_or_le 0 k with q | q
      · exact q
      · have := Int.mul_le_mul_of_nonneg_left q (show (0 : Int) ≤ lwV U V by omega)
        omega
    -- k is 1
    have hcop : Nat.Coprime k.natAbs d.natAbs := by
      have : Nat.Coprime ((lwU U V).natAbs * k.natAbs) d.natAbs := by
        rw [← Int.natAbs_mul]; exact hpt
      exact Nat.Coprime.coprime_dvd_left ⟨(lwU U V).natAbs, Nat.mul_comm _ _⟩ this
    have hkd : k.natAbs ∣ d.natAbs * d.natAbs := by
      rw [← Int.natAbs_mul, hk]
      exact Int.natAbs_dvd_natAbs.mpr ⟨lwV U V, Int.mul_comm _ _⟩
    have hk1 : k.natAbs = 1 := Nat.Coprime.eq_one_of_dvd (Nat.Coprime.mul_right hcop hcop) hkd
    have hk2 : k = 1 := by omega
    rw [hk2, Int.mul_one] at hk
    have ed : e = d.toNat := by
      rw [he, ← hk]
      have : (d * d).toNat = d.toNat * d.toNat := by
        obtain ⟨x, rfl⟩ : ∃ x : Nat, d = x := ⟨d.toNat, by omega⟩
        rw [← Int.natCast_mul, Int.toNat_natCast, Int.toNat_natCast]
      rw [this, rtN_sq]
    exact c ⟨by rw [ed, ← hk, Int.toNat_of_nonneg (by omega)], by omega⟩
theorem tdiv_c {c A B : Int} (hc : c ≠ 0) : (c * A).tdiv (c * B) = A.tdiv B := by
  rcases Int.lt_or_gt_of_ne hc with q | q
  · have h := Int.mul_tdiv_mul_of_pos (a := -c) A B (by omega)
    rw [Int.neg_mul, Int.neg_mul, Int.neg_tdiv_neg] at h
    exact h
  · exact Int.mul_tdiv_mul_of_pos A B q
