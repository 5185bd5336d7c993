/-! BY A PRIME: orders -/
theorem opr_odd : ∀ q ∈ opr, q % 2 = 1 := by decide +kernel
/-- a place for each point -/
def slE (p : Nat) : Option (Int × Int) → Nat
  | none => 194
  | some P => 2 * P.1.toNat + (if (p : Int) < 2 * P.2 then 1 else 0)
/-- the first number that does it -/
def fo (f : Nat → Bool) : Nat → Nat → Nat
  | 0, k => k
  | n + 1, k => if f k = true then k else fo f n (k + 1)
theorem fo_ok {f : Nat → Bool} : ∀ (n k m : Nat), k ≤ m → m < k + n → f m = true → f (fo f n k) = true ∧ k ≤ fo f n k ∧ fo f n k ≤ m ∧ ∀ j, k ≤ j → j < fo f n k → f j = false := by
  intro n
  induction n with
  | zero => intro k m h1 h2; omega
  | succ n ih =>
    intro k m h1 h2 h3
    unfold fo
    by_cases c : f k = true
    · rw [if_pos c]; exact ⟨c, Nat.le_refl _, h1, fun j h4 h5 => by omega⟩
    · rw [if_neg c]
      have : k ≠ m := fun e => by subst e; exact c h3
      obtain ⟨g1, g2, g3, g4⟩ := ih (k + 1) m (by omega) (by omega) h3
      refine ⟨g1, by omega, g3, fun j h4 h5 => ?_⟩
      by_cases e : j = k
      · subst e; exact ft_tt c
      · exact g4 j (by omega) h5
def ordP (p : Nat) (a b : Int) (P : Option (Int × Int)) : Nat := fo (fun k => (mP p a b P k).isNone) 200 1
section ELL
variable {p : Nat} {a b : Int}
theorem slE_lt (hp : p ∈ opr) {P : Option (Int × Int)} (h : onE p a b P) : slE p P < 195 := by
  have hb := opr_bd p hp
  cases P with
  | none => show 194 < 195; omega
  | some P =>
    obtain ⟨x, y⟩ := P
    have h1 := h.1
    show 2 * x.toNat + (if (p : Int) < 2 * y then 1 else 0) < 195
    simp only at h1
    split <;> omega
theorem slE_inj (hp : p ∈ opr) {P Q : Option (Int × Int)} (h1 : onE p a b P) (h2 : onE p a b Q) (e : slE p P = slE p Q) : P = Q := by
  have hb := opr_bd p hp
  have ho := opr_odd p hp
  cases P with
  | none =>
    cases Q with
    | none => rfl
    | some Q =>
      obtain ⟨x, y⟩ := Q
      have q := h2.1
      have e' : 194 = 2 * x.toNat + (if (p : Int) < 2 * y then 1 else 0) := e
      simp only at q
      split at e' <;> omega
  | some P =>
    obtain ⟨x1, y1⟩ := P
    cases Q with
    | none =>
      have q := h1.1
      have e' : 2 * x1.toNat + (if (p : Int) < 2 * y1 then 1 else 0) = 194 := e
      simp only at q
      split at e' <;> omega
    | some Q =>
      obtain ⟨x2, y2⟩ := Q
      have e' : 2 * x1.toNat + (if (p : Int) < 2 * y1 then 1 else 0) = 2 * x2.toNat + (if (p : Int) < 2 * y2 then 1 else 0) := e
      have q1 := h1.1
      have q2 := h2.1
      have r1 := h1.2.1
      have r2 := h2.2.1
      simp only at q1 q2 r1 r2
      have ex : x1 = x2 := by
        split at e' <;> split at e' <;> omega
      subst ex
      rcases same_y hp (y1 := y1) (y2 := y2) h1 h2 with h | h
      · rw [h]
      · have ey : y1 = y2 := by
          have hq : y1 + y2 = 0 ∨ y1 + y2 = p := by
            obtain ⟨c, hc⟩ := h
            have c0 : 0 ≤ c := by
              apply Classical.byContradiction
              intro n
              have : (p : Int) * c ≤ (p : Int) * (-1) := Int.mul_le_mul_of_nonneg_left (by omega) (by omega)
              omega
            have c1 : c < 2 := by
              apply Classical.byContradiction
              intro n
              have : (p : Int) * 2 ≤ (p : Int) * c := Int.mul_le_mul_of_nonneg_left (by omega) (by omega)
              omega
            have : c = 0 ∨ c = 1 := by omega
            rcases this with c | c
            · left; rw [hc, c, Int.mul_zero]
            · right; rw [hc, c, Int.mul_one]
          rcases hq with q | q
          · omega
          · split at e' <;> split at e' <;> omega
        rw [ey]
theorem mP_none (k : Nat) : mP p a b none k = none := by
  induction k with
  | zero => rfl
  | succ k ih => rw [mP_s, ih]; rfl
theorem mP_desc (hp : p ∈ opr) (nb : ¬ (p : Int) ∣ b) (nd : ¬ (p : Int) ∣ a * a - 4 * b) {P : Option (Int × Int)} (h : onE p a b P) : ∀ i d, mP p a b P (i + d) = mP p a b P i → mP p a b P d = none := by
  intro i
  induction i with
  | zero => intro d e; rw [Nat.zero_add] at e; exact e
  | succ i ih =>
    intro d e
    rw [show i + 1 + d = (i + d) + 1 by omega] at e
    exact ih d (mP_inj hp nb nd h e)
theorem mP_per (hp : p ∈ opr) (nb : ¬ (p : Int) ∣ b) (nd : ¬ (p : Int) ∣ a * a - 4 * b) {P : Option (Int × Int)} (h : onE p a b P) : ∃ n, 1 ≤ n ∧ n ≤ 195 ∧ mP p a b P n = none := by
  apply Classical.byContradiction
  intro hc
  have no : ∀ n, 1 ≤ n → n ≤ 195 → mP p a b P n ≠ none := fun n h1 h2 h3 => hc ⟨n, h1, h2, h3⟩
  have := pigeon 195 196 (fun i => slE p (mP p a b P i)) (fun i _ => slE_lt hp (mP_on hp h i)) (fun i j hi hj e => by
    have e' := slE_inj hp (mP_on hp h i) (mP_on hp h j) e
    rcases Nat.lt_or_ge i j with q | q
    · exfalso
      refine no (j - i) (by omega) (by omega) (mP_desc hp nb nd h i (j - i) ?_)
      rw [show i + (j - i) = j by omega]; exact e'.symm
    · rcases Nat.lt_or_ge j i with q2 | q2
      · exfalso
        refine no (i - j) (by omega) (by omega) (mP_desc hp nb nd h j (i - j) ?_)
        rw [show j + (i - j) = i by omega]; exact e'
      · omega)
  omega
theorem ord_ok (hp : p ∈ opr) (nb : ¬ (p : Int) ∣ b) (nd : ¬ (p : Int) ∣ a * a - 4 * b) {P : Option (Int × Int)} (h : onE p a b P) : 1 ≤ ordP p a b P ∧ ordP p a b P ≤ 195 ∧ mP p a b P (ordP p a b P) = none ∧ ∀ j, 1 ≤ j → j < ordP p a b P → mP p a b P j ≠ none := by
  obtain ⟨n, n1, n2, n3⟩ := mP_per hp nb nd h
  obtain ⟨g1, g2, g3, g4⟩ := fo_ok (f := fun k => (mP p a b P k).isNone) 200 1 n n1 (by omega) (by rw [n3]; rfl)
  refine ⟨g2, Nat.le_trans g3 n2, Option.isNone_iff_eq_none.mp g1, fun j h1 h2 q => ?_⟩
  have := g4 j h1 h2
  rw [q] at this
  cases this
theorem ord_un (hp : p ∈ opr) (nb : ¬ (p : Int) ∣ b) (nd : ¬ (p : Int) ∣ a * a - 4 * b) {P : Option (Int × Int)} (h : onE p a b P) {n : Nat} (h1 : 1 ≤ n) (h2 : mP p a b P n = none) (h3 : ∀ j, 1 ≤ j → j < n → mP p a b P j ≠ none) : ordP p a b P = n := by
  obtain ⟨g1, g2, g3, g4⟩ := ord_ok hp nb nd h
  rcases Nat.lt_or_ge (ordP p a b P) n with q | q
  · exact absurd g3 (h3 _ g1 q)
  · rcases Nat.lt_or_ge n (ordP p a b P) with q2 | q2
    · exact absurd h2 (g4 n h1 q2)
    · omega
theorem ord_dvd (hp : p ∈ opr) (nb : ¬ (p : Int) ∣ b) (nd : ¬ (p : Int) ∣ a * a - 4 * b) {P : Option (Int × Int)} (h : onE p a b P) (m : Nat) : mP p a b P m = none ↔ ordP p a b P ∣ m := by
  obtain ⟨g1, g2, g3, g4⟩ := ord_ok hp nb nd h
  have mult : ∀ q, mP p a b P (q * ordP p a b P) = none := fun q => by rw [← mP_mul hp nb nd h, g3, mP_none]
  constructor
  · intro e
    have hm := Nat.mod_add_div m (ordP p a b P)
    have e2 : mP p a b P (m / ordP p a b P * ordP p a b P + m % ordP p a b P) = none := by
      rw [Nat.mul_comm, Nat.add_comm, hm]; exact e
    rw [← mP_add hp nb nd h, mult] at e2
    have e3 : mP p a b P (m % ordP p a b P) = none := e2
    apply Nat.dvd_of_mod_eq_zero
    apply Classical.byContradiction
    intro c
    exact g4 _ (by omega) (Nat.mod_lt _ (by omega)) e3
  · intro ⟨q, e⟩
    rw [e, Nat.mul_comm]; exact mult q
/-- the order of a multiple -/
theorem ord_mul (hp : p ∈ opr) (nb : ¬ (p : Int) ∣ b) (nd : ¬ (p : Int) ∣ a * a - 4 * b) {P : Option (Int × Int)} (h : onE p a b P) (k : Nat) : ordP p a b (mP p a b P k) = ordP p a b P / Nat.gcd (ordP p a b P) k := by
  obtain ⟨g1, g2, g3, g4⟩ := ord_ok hp nb nd h
  obtain ⟨n, hn⟩ : ∃ n, n = ordP p a b P := ⟨_, rfl⟩
  have iff : ∀ j, mP p a b (mP p a b P k) j = none ↔ n ∣ j * k := fun j => by rw [mP_mul hp nb nd h, hn]; exact ord_dvd hp nb nd h _
  rw [← hn] at g1 ⊢
  have gp : 0 < Nat.gcd n k := Nat.gcd_pos_of_pos_left _ (by omega)
  have d1 : n / Nat.gcd n k * Nat.gcd n k = n := Nat.div_mul_cancel (Nat.gcd_dvd_left _ _)
  have d2 : k / Nat.gcd n k * Nat.gcd n k = k := Nat.div_mul_cancel (Nat.gcd_dvd_right _ _)
  have dp : 1 ≤ n / Nat.gcd n k := by
    rcases Nat.eq_zero_or_pos (n / Nat.gcd n k) with q | q
    · rw [q, Nat.zero_mul] at d1
      omega
    · exact q
  refine ord_un hp nb nd (mP_on hp h k) dp ((iff _).mpr ⟨k / Nat.gcd n k, ?_⟩) (fun j h1 h2 h3 => ?_)
  · obtain ⟨g, hg⟩ : ∃ g, g = Nat.gcd n k := ⟨_, rfl⟩
    rw [← hg] at d1 d2 ⊢
    obtain ⟨u, hu⟩ : ∃ u, u = n / g := ⟨_, rfl⟩
    obtain ⟨v, hv⟩ : ∃ v, v = k / g := ⟨_, rfl⟩
    rw [← hu] at d1 ⊢
    rw [← hv] at d2 ⊢
    rw [← d1, ← d2]; grind
  · have dv := (iff j).mp h3
    have cop : Nat.Coprime (n / Nat.gcd n k) (k / Nat.gcd n k) := Nat.coprime_div_gcd_div_gcd gp
    obtain ⟨g, hg⟩ : ∃ g, g = Nat.gcd n k := ⟨_, rfl⟩
    rw [← hg] at d1 d2 cop gp h2
    obtain ⟨u, hu⟩ : ∃ u, u = n / g := ⟨_, rfl⟩
    obtain ⟨v, hv⟩ : ∃ v, v = k / g := ⟨_, rfl⟩
    rw [← hu] at d1 cop h2
    rw [← hv] at d2 cop
    have dv2 : u ∣ j * v := by
      obtain ⟨c, hc⟩ := dv
      refine ⟨c, Nat.eq_of_mul_eq_mul_right gp ?_⟩
      rw [← d1, ← d2] at hc
      grind
    have dv3 : u ∣ j := Nat.Coprime.dvd_of_dvd_mul_right cop dv2
    have := Nat.le_of_dvd (by omega) dv3
    omega
end ELL
def fvP (p : Nat) (a b : Int) (x : Nat) : Nat := ((((x : Int) * x * x + a * x * x + b * x) % p).toNat)
def mnS (p : Nat) (a b : Int) : Nat → Nat → Int → Int
  | 0, _, c => c
  | j + 1, x, c => mnS p a b j (x + 1) (c + ((ysF p (fvP p a b x) p 0).length : Int))
def manyN (p : Nat) (a b : Int) : Int := mnS p a b p 0 1
def updE (p : Nat) (a b : Int) (x : Nat) (s : Int × Int × Int) (y : Nat) : Int × Int × Int := if s.1 < (ordP p a b (some ((x : Int), (y : Int))) : Int) then ((ordP p a b (some ((x : Int), (y : Int))) : Int), (x : Int), (y : Int)) else s
def bsX (p : Nat) (a b : Int) : Nat → Nat → Int × Int × Int → Int × Int × Int
  | 0, _, s => s
  | j + 1, x, s => bsX p a b j (x + 1) ((ysF p (fvP p a b x) p 0).foldl (updE p a b x) s)
def bst (p : Nat) (a b : Int) : Int × Int × Int := bsX p a b p 0 (1, -1, -1)
def cdB (s : Int × Int × Int) : Int := if s.2.1 < 0 then -1 else s.2.1 * 128 + s.2.2
def BST (p : Nat) (a b : Int) (σ : aSt) : Prop := σ.1 34 11 = 0 ∨ (σ.1 34 11 = iZ (bst p a b).1 ∧ σ.1 34 12 = iZ (cdB (bst p a b)))
/-- what the class keeps of primes -/
def GI (a b : Int) (σ : aSt) : Prop := σ.1 34 6 = iZ a ∧ σ.1 34 7 = iZ b ∧ (∀ q, q < 98 → σ.1 40 q = 0 ∨ (gP a b q = true ∧ σ.1 40 q = iZ (manyN q a b))) ∧ (σ.1 34 10 = 0 ∨ ∃ p : Nat, gP a b p = true ∧ TKN p a b σ ∧ BST p a b σ)
theorem newG_GI {a b : Int} {σ : aSt} (h : newG a b σ) : GI a b σ := ⟨h.1, h.2.1, fun q hq => Or.inl (h.2.2.2.1 q hq), Or.inl h.2.2.1⟩
theorem TKN_fr {S : Nat → Nat → Bool} {p : Nat} {a b : Int} {σ σ' : aSt} (hf : fr S σ σ') (h34 : S 34 8 = false ∧ S 34 9 = false ∧ S 34 10 = false) (h35 : ∀ k, S 35 k = false) (h36 : ∀ k, S 36 k = false) (h : TKN p a b σ) : TKN p a b σ' := ⟨by rw [(hf 34 10 h34.2.2).1]; exact h.1, by rw [(hf 34 8 h34.1).1]; exact h.2.1, by rw [(hf 34 9 h34.2.1).1]; exact h.2.2.1, fun r hr => by rw [(hf 35 r (h35 r)).1]; exact h.2.2.2.1 r hr, fun k h1 h2 => by rw [(hf 36 k (h36 k)).1]; exact h.2.2.2.2 k h1 h2⟩
theorem GI_fr {S : Nat → Nat → Bool} {a b : Int} {σ σ' : aSt} (hf : fr S σ σ') (h34 : ∀ k, S 34 k = false) (h35 : ∀ k, S 35 k = false) (h36 : ∀ k, S 36 k = false) (h40 : ∀ k, S 40 k = false) (h : GI a b σ) : GI a b σ' := by
  obtain ⟨h1, h2, h3, h4⟩ := h
  refine ⟨by rw [(hf 34 6 (h34 6)).1]; exact h1, by rw [(hf 34 7 (h34 7)).1]; exact h2, fun q hq => by rw [(hf 40 q (h40 q)).1]; exact h3 q hq, ?_⟩
  rcases h4 with h4 | ⟨p, q1, q2, q3⟩
  · left; rw [(hf 34 10 (h34 10)).1]; exact h4
  · right
    refine ⟨p, q1, TKN_fr hf ⟨h34 8, h34 9, h34 10⟩ h35 h36 q2, ?_⟩
    unfold BST
    rw [(hf 34 11 (h34 11)).1, (hf 34 12 (h34 12)).1]; exact q3
theorem frG_of {S : Nat → Nat → Bool} {σ σ' : aSt} (hf : fr S σ σ') (h : ∀ o k, S o k = true → 34 ≤ o ∧ o ≤ 40) : fr frG σ σ' := fr_mono hf (fun o k q => by
  cases c : S o k
  · rfl
  · have := h o k c
    unfold frG at q
    rw [show Nat.ble 34 o = true from by rw [Nat.ble_eq]; omega, show Nat.ble o 40 = true from by rw [Nat.ble_eq]; omega] at q
    cases q)
theorem frG_34 (k : Nat) : frG 34 k = true := rfl
theorem take_ok {N : Nat} {a b : Int} (hN : 10000 ≤ N) (ha : bd 60 a) (hb' : bd 200 b) {p : Nat} (hg : gP a b p = true) {σ : aSt} (h : GI a b σ) : ∃ σ', f_PrimeGroup_take N (iZ p) σ = some σ' ∧ GI a b σ' ∧ TKN p a b σ' ∧ BST p a b σ' ∧ fr frG σ σ' := by
  obtain ⟨q, e, hp, _, _⟩ := gP_ex hg
  have e' : p = q := by omega
  subst e'
  have hb := opr_bd p hp
  by_cases c : σ.1 34 10 = iZ p
  · refine ⟨σ, ?_, h, ?_⟩
    · unfold f_PrimeGroup_take
      rw [if_neg (fun z => z c)]
    · rcases h.2.2.2 with h4 | ⟨r, q1, q2, q3⟩
      · rw [h4, show (0 : Int32) = iZ 0 from rfl, iZ_eq (bd_lit _ rfl) ⟨by omega, by omega⟩] at c
        omega
      · have r1 := q2.1
        obtain ⟨r', er, hr', _, _⟩ := gP_ex q1
        have hr := opr_bd r' hr'
        rw [c, iZ_eq ⟨by omega, by omega⟩ ⟨by omega, by omega⟩] at r1
        have : p = r := by omega
        subst this
        exact ⟨q2, q3, fr_refl _ _⟩
  · obtain ⟨σ', g1, g2, g3, g4⟩ := take_new hN ha hb' hp h.1 h.2.1 c
    refine ⟨σ', g1, ⟨by rw [(g4 34 6 rfl).1]; exact h.1, by rw [(g4 34 7 rfl).1]; exact h.2.1, fun q hq => by rw [(g4 40 q rfl).1]; exact h.2.2.1 q hq, Or.inr ⟨p, hg, g2, Or.inl g3⟩⟩, g2, Or.inl g3, frG_of g4 (fun o k z => ?_)⟩
    have : o = 36 ∨ o = 35 ∨ o = 34 := by
      cases c1 : Nat.beq o 36
      · cases c2 : Nat.beq o 35
        · cases c3 : Nat.beq o 34
          · rw [c1, c2, c3] at z; cases z
          · exact Or.inr (Or.inr (Nat.eq_of_beq_eq_true c3))
        · exact Or.inr (Or.inl (Nat.eq_of_beq_eq_true c2))
      · exact Or.inl (Nat.eq_of_beq_eq_true c1)
    omega
