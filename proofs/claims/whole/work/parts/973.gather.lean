/-! CLASSES: divisors without squares, their masks -/
def prN (f : Nat) : Prop := 2 ≤ f ∧ ∀ k, 2 ≤ k → k < f → ¬ k ∣ f
theorem prN_cop {f x : Nat} (h : prN f) : f ∣ x ∨ Nat.Coprime f x := by
  by_cases c : f ∣ x
  · exact Or.inl c
  · right
    have g1 : Nat.gcd f x ∣ f := Nat.gcd_dvd_left _ _
    have g2 : Nat.gcd f x ∣ x := Nat.gcd_dvd_right _ _
    have g0 : 0 < Nat.gcd f x := Nat.gcd_pos_of_pos_left _ (by have := h.1; omega)
    have g3 := Nat.le_of_dvd (by have := h.1; omega) g1
    have g4 : Nat.gcd f x ≠ f := fun e => c (by rw [e] at g2; exact g2)
    apply Classical.byContradiction
    intro q
    have q' : Nat.gcd f x ≠ 1 := q
    exact h.2 (Nat.gcd f x) (by omega) (by omega) g1
theorem prN_mul {f x y : Nat} (h : prN f) (hd : f ∣ x * y) : f ∣ x ∨ f ∣ y := by
  rcases prN_cop (x := x) h with c | c
  · exact Or.inl c
  · exact Or.inr (Nat.Coprime.dvd_of_dvd_mul_left c hd)
theorem sqf_mul {y f : Nat} (hy : sqf y) (hf : prN f) (hn : ¬ f ∣ y) : sqf (y * f) := by
  intro g hg hd
  have hf1 := hf.1
  rcases prN_cop (x := g) hf with c | c
  · obtain ⟨t, ht⟩ := c
    subst ht
    apply hn
    have h1 : f * (f * (t * t)) ∣ y * f := by
      have e : f * (f * (t * t)) = f * t * (f * t) := by grind
      rw [e]; exact hd
    have h2 : f * (t * t) * f ∣ y * f := by rw [Nat.mul_comm (f * (t * t)) f]; exact h1
    have h3 := Nat.dvd_of_mul_dvd_mul_right (by omega) h2
    exact Nat.dvd_trans ⟨t * t, rfl⟩ h3
  · have c2 : Nat.Coprime (g * g) f := Nat.Coprime.mul_left (Nat.Coprime.symm c) (Nat.Coprime.symm c)
    exact hy g hg (Nat.Coprime.dvd_of_dvd_mul_right c2 hd)
/-- the divisors when a new prime comes -/
theorem div_new {u f k x : Nat} (hf : prN f) (hu : ¬ f ∣ u) (hk : 1 ≤ k) : (sqf x ∧ x ∣ u * f ^ k) ↔ ((sqf x ∧ x ∣ u) ∨ ∃ y, x = y * f ∧ sqf y ∧ y ∣ u) := by
  have hf1 := hf.1
  constructor
  · intro ⟨h1, h2⟩
    rcases prN_cop (x := x) hf with c | c
    · right
      obtain ⟨y, hy⟩ := c
      have hy' : x = y * f := by rw [hy, Nat.mul_comm]
      refine ⟨y, hy', sqf_dvd h1 ⟨f, hy'⟩, ?_⟩
      have ny : ¬ f ∣ y := fun ⟨t, ht⟩ => h1 f hf1 ⟨t, by rw [hy, ht, Nat.mul_assoc]⟩
      have cy : Nat.Coprime y (f ^ k) := by
        rcases prN_cop (x := y) hf with z | z
        · exact absurd z ny
        · exact Nat.Coprime.pow_right k (Nat.Coprime.symm z)
      exact Nat.Coprime.dvd_of_dvd_mul_right cy (Nat.dvd_trans ⟨f, hy'⟩ h2)
    · left
      exact ⟨h1, Nat.Coprime.dvd_of_dvd_mul_right (Nat.Coprime.pow_right k (Nat.Coprime.symm c)) h2⟩
  · intro h
    rcases h with ⟨h1, h2⟩ | ⟨y, h1, h2, h3⟩
    · exact ⟨h1, Nat.dvd_trans h2 ⟨f ^ k, rfl⟩⟩
    · subst h1
      refine ⟨sqf_mul h2 hf (fun z => hu (Nat.dvd_trans z h3)), Nat.mul_dvd_mul h3 ?_⟩
      obtain ⟨j, rfl⟩ : ∃ j, k = j + 1 := ⟨k - 1, by omega⟩
      exact ⟨f ^ j, by rw [Nat.pow_succ, Nat.mul_comm]⟩
/-- a bit for each prime -/
def mkM : List Nat → Nat → Nat
  | [], _ => 0
  | p :: ps, d => (if d % p = 0 then 1 else 0) + 2 * mkM ps d
theorem mkM_lt : ∀ (ps : List Nat) (d : Nat), mkM ps d < 2 ^ ps.length := by
  intro ps
  induction ps with
  | nil => intro d; exact Nat.one_pos
  | cons p ps ih =>
    intro d
    have h := ih d
    show (if d % p = 0 then 1 else 0) + 2 * mkM ps d < 2 ^ (ps.length + 1)
    rw [Nat.pow_succ]
    split <;> omega
theorem mkM_app : ∀ (ps : List Nat) (f d : Nat), mkM (ps ++ [f]) d = mkM ps d + (if d % f = 0 then 2 ^ ps.length else 0) := by
  intro ps
  induction ps with
  | nil =>
    intro f d
    show (if d % f = 0 then 1 else 0) + 2 * 0 = 0 + (if d % f = 0 then 1 else 0)
    omega
  | cons p ps ih =>
    intro f d
    show (if d % p = 0 then 1 else 0) + 2 * mkM (ps ++ [f]) d = (if d % p = 0 then 1 else 0) + 2 * mkM ps d + (if d % f = 0 then 2 ^ (ps.length + 1) else 0)
    rw [ih f d, Nat.pow_succ]
    split <;> split <;> omega
/-- insertion as the class does it -/
def insP (x : Nat × Nat) : List (Nat × Nat) → List (Nat × Nat)
  | [] => [x]
  | y :: ys => if y.1 ≤ x.1 then y :: insP x ys else x :: y :: ys
theorem insP_mem (x z : Nat × Nat) : ∀ L, z ∈ insP x L ↔ z = x ∨ z ∈ L := by
  intro L
  induction L with
  | nil => exact List.mem_cons
  | cons y ys ih =>
    unfold insP
    by_cases c : y.1 ≤ x.1
    · rw [if_pos c, List.mem_cons, ih, List.mem_cons]
      constructor
      · intro h
        rcases h with h | h | h
        · exact Or.inr (Or.inl h)
        · exact Or.inl h
        · exact Or.inr (Or.inr h)
      · intro h
        rcases h with h | h | h
        · exact Or.inr (Or.inl h)
        · exact Or.inl h
        · exact Or.inr (Or.inr h)
    · rw [if_neg c, List.mem_cons]
theorem insP_len (x : Nat × Nat) : ∀ L, (insP x L).length = L.length + 1 := by
  intro L
  induction L with
  | nil => rfl
  | cons y ys ih =>
    unfold insP
    split
    · show (insP x ys).length + 1 = _
      rw [ih]; rfl
    · rfl
/-- rising -/
def srtP : List (Nat × Nat) → Prop
  | [] => True
  | x :: L => (∀ y ∈ L, x.1 < y.1) ∧ srtP L
theorem insP_srt (x : Nat × Nat) : ∀ L, srtP L → (∀ y ∈ L, y.1 ≠ x.1) → srtP (insP x L) := by
  intro L
  induction L with
  | nil => intro _ _; exact ⟨fun y h => (by cases h), trivial⟩
  | cons y ys ih =>
    intro h hx
    unfold insP
    have hy := hx y (List.mem_cons.mpr (Or.inl rfl))
    by_cases c : y.1 ≤ x.1
    · rw [if_pos c]
      refine ⟨fun z hz => ?_, ih h.2 (fun z hz => hx z (List.mem_cons.mpr (Or.inr hz)))⟩
      rcases (insP_mem x z ys).mp hz with e | e
      · subst e; omega
      · exact h.1 z e
    · rw [if_neg c]
      refine ⟨fun z hz => ?_, h⟩
      rcases List.mem_cons.mp hz with e | e
      · subst e; omega
      · have := h.1 z e; omega
/-- one behind the other -/
def isrP : List (Nat × Nat) → List (Nat × Nat) → List (Nat × Nat)
  | S, [] => S
  | S, x :: R => isrP (insP x S) R
theorem isrP_mem (z : Nat × Nat) : ∀ R S, z ∈ isrP S R ↔ z ∈ S ∨ z ∈ R := by
  intro R
  induction R with
  | nil => intro S; exact ⟨fun h => Or.inl h, fun h => by rcases h with h | h; exact h; cases h⟩
  | cons x R ih =>
    intro S
    show z ∈ isrP (insP x S) R ↔ _
    rw [ih, insP_mem, List.mem_cons]
    constructor
    · intro h
      rcases h with (h | h) | h
      · exact Or.inr (Or.inl h)
      · exact Or.inl h
      · exact Or.inr (Or.inr h)
    · intro h
      rcases h with h | h | h
      · exact Or.inl (Or.inr h)
      · exact Or.inl (Or.inl h)
      · exact Or.inr h
theorem isrP_len : ∀ R S, (isrP S R).length = S.length + R.length := by
  intro R
  induction R with
  | nil => intro S; rfl
  | cons x R ih =>
    intro S
    show (isrP (insP x S) R).length = S.length + (R.length + 1)
    rw [ih, insP_len]; omega
theorem isrP_srt : ∀ R S, srtP S → srtP R → (∀ x ∈ S, ∀ y ∈ R, x.1 ≠ y.1) → srtP (isrP S R) := by
  intro R
  induction R with
  | nil => intro S h _ _; exact h
  | cons x R ih =>
    intro S hS hR hd
    refine ih (insP x S) (insP_srt x S hS (fun y hy => hd y hy x (List.mem_cons.mpr (Or.inl rfl)))) hR.2 (fun y hy z hz => ?_)
    rcases (insP_mem x y S).mp hy with e | e
    · subst e
      have := hR.1 z hz; omega
    · exact hd y e z (List.mem_cons.mpr (Or.inr hz))
/-- the divisors of u without squares, with their masks by the primes ps -/
def GL (ps : List Nat) (u : Nat) (L : List (Nat × Nat)) : Prop := srtP L ∧ L.length = 2 ^ ps.length ∧ (∀ x, (∃ m, (x, m) ∈ L) ↔ (sqf x ∧ x ∣ u)) ∧ (∀ x m, (x, m) ∈ L → m = mkM ps x)
def upP (f bit : Nat) (x : Nat × Nat) : Nat × Nat := (x.1 * f, x.2 + bit)
theorem map_srt {f bit : Nat} (hf : 1 ≤ f) : ∀ L, srtP L → srtP (L.map (upP f bit)) := by
  intro L
  induction L with
  | nil => intro _; trivial
  | cons x L ih =>
    intro h
    refine ⟨fun y hy => ?_, ih h.2⟩
    obtain ⟨z, z1, z2⟩ := List.mem_map.mp hy
    subst z2
    have := h.1 z z1
    exact Nat.mul_lt_mul_of_pos_right this (by omega)
theorem GL_new {ps : List Nat} {u : Nat} {L : List (Nat × Nat)} (h : GL ps u L) {f k : Nat} (hf : prN f) (hu : ¬ f ∣ u) (hk : 1 ≤ k) (hps : ∀ p ∈ ps, prN p ∧ p ∣ u) : GL (ps ++ [f]) (u * f ^ k) (isrP L (L.map (upP f (2 ^ ps.length)))) := by
  obtain ⟨h1, h2, h3, h4⟩ := h
  have hf1 := hf.1
  have fdx : ∀ x m, (x, m) ∈ L → ¬ f ∣ x := fun x m hm z => hu (Nat.dvd_trans z ((h3 x).mp ⟨m, hm⟩).2)
  have dis : ∀ x ∈ L, ∀ y ∈ L.map (upP f (2 ^ ps.length)), x.1 ≠ y.1 := fun x hx y hy e => by
    obtain ⟨z, z1, z2⟩ := List.mem_map.mp hy
    subst z2
    exact fdx x.1 x.2 hx ⟨z.1, by rw [e]; exact Nat.mul_comm _ _⟩
  refine ⟨isrP_srt _ _ h1 (map_srt (by omega) L h1) dis, ?_, fun x => ?_, fun x m hm => ?_⟩
  · rw [isrP_len, List.length_map, h2, List.length_append]
    show 2 ^ ps.length + 2 ^ ps.length = 2 ^ (ps.length + 1)
    rw [Nat.pow_succ]; omega
  · rw [div_new hf hu hk]
    constructor
    · intro ⟨m, hm⟩
      rcases (isrP_mem _ _ _).mp hm with e | e
      · exact Or.inl ((h3 x).mp ⟨m, e⟩)
      · obtain ⟨z, z1, z2⟩ := List.mem_map.mp e
        have q := (h3 z.1).mp ⟨z.2, z1⟩
        exact Or.inr ⟨z.1, (congrArg Prod.fst z2).symm, q.1, q.2⟩
    · intro hx
      rcases hx with hx | ⟨y, y1, y2, y3⟩
      · obtain ⟨m, hm⟩ := (h3 x).mpr hx
        exact ⟨m, (isrP_mem _ _ _).mpr (Or.inl hm)⟩
      · obtain ⟨m, hm⟩ := (h3 y).mpr ⟨y2, y3⟩
        refine ⟨m + 2 ^ ps.length, (isrP_mem _ _ _).mpr (Or.inr (List.mem_map.mpr ⟨(y, m), hm, ?_⟩))⟩
        rw [y1]; rfl
  · rw [mkM_app]
    rcases (isrP_mem _ _ _).mp hm with e | e
    · rw [if_neg (fun z => fdx x m e (Nat.dvd_of_mod_eq_zero z)), Nat.add_zero]
      exact h4 x m e
    · obtain ⟨z, z1, z2⟩ := List.mem_map.mp e
      have e1 : z.1 * f = x := congrArg Prod.fst z2
      have e2 : z.2 + 2 ^ ps.length = m := congrArg Prod.snd z2
      rw [if_pos (by rw [← e1]; exact Nat.mul_mod_left _ _), ← e2]
      have e3 := h4 z.1 z.2 z1
      have mk : ∀ qs : List Nat, (∀ p ∈ qs, prN p ∧ p ∣ u) → mkM qs x = mkM qs z.1 := by
        intro qs
        induction qs with
        | nil => intro _; rfl
        | cons p qs ih =>
          intro hq
          have hp := hq p (List.mem_cons.mpr (Or.inl rfl))
          show (if x % p = 0 then 1 else 0) + 2 * mkM qs x = (if z.1 % p = 0 then 1 else 0) + 2 * mkM qs z.1
          rw [ih (fun r hr => hq r (List.mem_cons.mpr (Or.inr hr)))]
          have iff : x % p = 0 ↔ z.1 % p = 0 := by
            constructor
            · intro w
              have d := Nat.dvd_of_mod_eq_zero w
              rw [← e1] at d
              rcases prN_mul hp.1 d with q | q
              · exact Nat.mod_eq_zero_of_dvd q
              · exfalso
                have hp1 := hp.1.1
                rcases Nat.lt_or_ge p f with l | l
                · exact hf.2 p hp1 l q
                · have := Nat.le_of_dvd (by omega) q
                  have e4 : p = f := by omega
                  exact hu (by rw [← e4]; exact hp.2)
            · intro w
              have d := Nat.dvd_of_mod_eq_zero w
              rw [← e1]
              exact Nat.mod_eq_zero_of_dvd (Nat.dvd_trans d ⟨f, rfl⟩)
          by_cases w : z.1 % p = 0
          · rw [if_pos w, if_pos (iff.mpr w)]
          · rw [if_neg w, if_neg (fun q => w (iff.mp q))]
      rw [mk ps hps, e3]
