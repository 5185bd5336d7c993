/-! BY A PRIME: the class's tables -/
/-- the least root up to half of p; -1 without -/
def rtS (p r : Nat) : Nat → Nat → Int
  | 0, _ => -1
  | j + 1, y => if y * y % p = r then (y : Int) else rtS p r j (y + 1)
def rtP (p r : Nat) : Int := rtS p r (p / 2 + 1) 0
theorem rtS_s (p r j y : Nat) : rtS p r (j + 1) y = if y * y % p = r then (y : Int) else rtS p r j (y + 1) := rfl
/-- all y of a square -/
def ysF (p r : Nat) : Nat → Nat → List Nat
  | 0, _ => []
  | j + 1, y => if y * y % p = r then y :: ysF p r j (y + 1) else ysF p r j (y + 1)
theorem ysF_s (p r j y : Nat) : ysF p r (j + 1) y = if y * y % p = r then y :: ysF p r j (y + 1) else ysF p r j (y + 1) := rfl
theorem ysK : ∀ p ∈ opr, ∀ r, r < p → ysF p r p 0 = if rtP p r < 0 then [] else if rtP p r = 0 then [0] else [(rtP p r).toNat, p - (rtP p r).toNat] := by decide +kernel
theorem ivK : ∀ p ∈ opr, ∀ k, k < p → 2 ≤ k → k ^ (p - 2) % p = ((p - p / k) * ((p % k) ^ (p - 2) % p)) % p ∧ 1 ≤ p % k := by decide +kernel
theorem ivO : ∀ p ∈ opr, 1 ^ (p - 2) % p = 1 := by decide +kernel
theorem rtS_bd (p r : Nat) : ∀ j y, -1 ≤ rtS p r j y ∧ (rtS p r j y = -1 ∨ ((y : Int) ≤ rtS p r j y ∧ rtS p r j y < y + j)) := by
  intro j
  induction j with
  | zero => intro y; exact ⟨by show (-1 : Int) ≤ -1; omega, Or.inl rfl⟩
  | succ j ih =>
    intro y
    rw [rtS_s]
    split
    · omega
    · have := ih (y + 1); omega
theorem rtP_bd (p r : Nat) : -1 ≤ rtP p r ∧ rtP p r ≤ (p / 2 : Nat) := by
  have := rtS_bd p r (p / 2 + 1) 0
  unfold rtP
  omega
def frG : Nat → Nat → Bool := fun o _ => Nat.ble 34 o && Nat.ble o 40
def TKN (p : Nat) (a b : Int) (σ : aSt) : Prop := σ.1 34 10 = iZ p ∧ σ.1 34 8 = iZ (a % p) ∧ σ.1 34 9 = iZ (b % p) ∧ (∀ r, r < p → σ.1 35 r = iZ (rtP p r)) ∧ (∀ k, 1 ≤ k → k < p → σ.1 36 k = iZ (ivP p k))
theorem pg_res {N : Nat} {z : Int} (hz : bd 9223372036854775807 z) {p : Nat} (hp : 0 < p) (hp2 : p ≤ 97) {σ : aSt} (h : σ.1 34 10 = iZ p) : f_PrimeGroup_residue N (jZ z) σ = some (iZ (z % p)) := by
  unfold f_PrimeGroup_residue
  rw [h, residue_ok hz hp (by omega), Option.bind_some]
theorem ivP_bd {p : Nat} (hp : 0 < p) (k : Int) : 0 ≤ ivP p k ∧ ivP p k < p := by
  unfold ivP
  have := Nat.mod_lt (k.toNat ^ (p - 2)) hp
  omega
theorem mul_bd {x y : Int} {A B : Nat} (h1 : 0 ≤ x ∧ x ≤ A) (h2 : 0 ≤ y ∧ y ≤ B) : 0 ≤ x * y ∧ x * y ≤ ((A * B : Nat) : Int) := by
  obtain ⟨m, rfl⟩ : ∃ m : Nat, x = m := ⟨x.toNat, by omega⟩
  obtain ⟨n, rfl⟩ : ∃ n : Nat, y = n := ⟨y.toNat, by omega⟩
  have := Nat.mul_le_mul (show m ≤ A by omega) (show n ≤ B by omega)
  rw [← Int.natCast_mul]
  omega
/-- the inverses -/
theorem take55 {N : Nat} {p : Nat} (hp : p ∈ opr) : ∀ (j k n : Nat) (σ : aSt), k + j = p → 2 ≤ k → j + 1 ≤ n → σ.1 34 10 = iZ p → (∀ i, 1 ≤ i → i < k → σ.1 36 i = iZ (ivP p i)) → ∃ σ', f_PrimeGroup_take_l55 N n (iZ k) σ = some σ' ∧ (∀ i, 1 ≤ i → i < p → σ'.1 36 i = iZ (ivP p i)) ∧ fr (fun o _ => Nat.beq o 36) σ σ' := by
  have hb := opr_bd p hp
  intro j
  induction j with
  | zero =>
    intro k n σ hk h2 hn h10 hi
    obtain ⟨n, rfl, _⟩ := fuel hn
    rw [f_PrimeGroup_take_l55, h10, if_pos (by rw [iZ_le ⟨by omega, by omega⟩ ⟨by omega, by omega⟩]; omega)]
    exact ⟨σ, rfl, fun i h1 h2 => hi i h1 (by omega), fr_refl _ _⟩
  | succ j ih =>
    intro k n σ hk h2 hn h10 hi
    obtain ⟨n, rfl, hn'⟩ := fuel hn
    obtain ⟨v1, v2⟩ := ivK p hp k (by omega) h2
    have hm : p % k < k := Nat.mod_lt _ (by omega)
    have hd : p / k ≤ p := Nat.div_le_self _ _
    obtain ⟨d0, hd0⟩ : ∃ d0, d0 = p / k := ⟨_, rfl⟩
    have e1 : iZ (p : Int) / iZ (k : Int) = iZ (d0 : Int) := by rw [iZ_div ⟨by omega, by omega⟩ ⟨by omega, by omega⟩, nat_div, hd0]
    rw [← hd0] at v1 hd
    have e2 : irem (iZ (p : Int)) (iZ (k : Int)) = iZ ((p % k : Nat) : Int) := by rw [iZ_rem ⟨by omega, by omega⟩ ⟨by omega, by omega⟩, nat_rem]
    have ib := ivP_bd (p := p) (by omega) ((p % k : Nat) : Int)
    have mb := mul_bd (x := (p : Int) - (d0 : Int)) (y := ivP p ((p % k : Nat) : Int)) (A := 97) (B := 97) ⟨by omega, by omega⟩ ⟨by omega, by omega⟩
    rw [f_PrimeGroup_take_l55, h10, if_neg (by rw [iZ_le ⟨by omega, by omega⟩ ⟨by omega, by omega⟩]; omega), if_pos (by rw [show (0 : Int32) = iZ 0 from rfl, iZ_eq ⟨by omega, by omega⟩ (bd_lit _ rfl)]; omega), e1, e2, pick_in (by decide) (by decide) (by omega) (by show ((p % k : Nat) : Int) < ((97 : Nat) : Int); omega), Int.toNat_natCast, hi (p % k) v2 hm, iZ_sub, iZ_mul, i2j ⟨by omega, by omega⟩, pg_res ⟨by omega, by omega⟩ (by omega) (by omega) h10, Option.bind_some, lt_eq, store_in (by decide) (by decide) (by omega) (by show (k : Int) < ((97 : Nat) : Int); omega), Int.toNat_natCast, i1]
    have ev : (((p : Int) - (d0 : Int)) * ivP p ((p % k : Nat) : Int)) % p = ivP p (k : Int) := by
      have q : ((p : Int) - (d0 : Int)) = ((p - d0 : Nat) : Int) := by omega
      unfold ivP
      rw [q, Int.toNat_natCast, Int.toNat_natCast, v1, ← Int.natCast_mul, ← Int.natCast_emod]
    rw [ev]
    obtain ⟨σ', g1, g2, g3⟩ := ih (k + 1) n (s_i σ 36 k (iZ (ivP p (k : Int)))) (by omega) (by omega) hn' (by rw [si_ne (Or.inl (by decide))]; exact h10) (fun i h1 h3 => by
      by_cases c : i = k
      · subst c; exact si_eq _ _ _ _
      · rw [si_ne (Or.inr c)]; exact hi i h1 (by omega))
    exact ⟨σ', g1, g2, fr_trans (fr_si rfl) g3⟩
/-- the roots -/
theorem take34 {N : Nat} {p : Nat} (hp : p ∈ opr) (hN : 10000 ≤ N) : ∀ (y n : Nat) (σ : aSt), y ≤ p / 2 + 1 → y + 1 ≤ n → σ.1 34 10 = iZ p → (∀ r, r < p → σ.1 35 r = iZ (rtS p r (p / 2 + 1 - y) y)) → ∃ σ', f_PrimeGroup_take_l34 N n (iZ ((y : Int) - 1)) σ = some σ' ∧ (∀ r, r < p → σ'.1 35 r = iZ (rtP p r)) ∧ (∀ i, 1 ≤ i → i < p → σ'.1 36 i = iZ (ivP p i)) ∧ fr (fun o _ => Nat.beq o 36 || Nat.beq o 35) σ σ' := by
  have hb := opr_bd p hp
  intro y
  induction y with
  | zero =>
    intro n σ hy hn h10 hr
    obtain ⟨n, rfl, _⟩ := fuel hn
    rw [f_PrimeGroup_take_l34, if_pos (by rw [show (0 : Int32) = iZ 0 from rfl, iZ_lt ⟨by omega, by omega⟩ (bd_lit _ rfl)]; omega), lt_eq]
    have e1 : f_store σ 36 (1 : Int32) (1 : Int32) = s_i σ 36 1 (1 : Int32) := by
      rw [show (1 : Int32) = iZ 1 from rfl, store_in (by decide) (by decide) (by omega) (by decide)]; rfl
    rw [e1]
    obtain ⟨σ', g1, g2, g3⟩ := take55 (N := N) hp (p - 2) 2 N (s_i σ 36 1 (1 : Int32)) (by omega) (by omega) (by omega) h10 (fun i h1 h2 => by
      have : i = 1 := by omega
      subst this
      rw [si_eq]
      show (1 : Int32) = iZ ((((1 : Nat) : Int).toNat ^ (p - 2) % p : Nat) : Int)
      rw [Int.toNat_natCast, ivO p hp]; rfl)
    have f : fr (fun o _ => Nat.beq o 36 || Nat.beq o 35) σ σ' := fr_trans (fr_si rfl) (fr_mono g3 (fun o k q => by rw [Bool.or_eq_false_iff] at q; exact q.1))
    refine ⟨σ', g1, fun r h => ?_, g2, f⟩
    rw [(g3 35 r rfl).1]
    exact hr r h
  | succ y ih =>
    intro n σ hy hn h10 hr
    obtain ⟨n, rfl, hn'⟩ := fuel hn
    have sq := sq97 (show y ≤ p by omega) hb.2
    have eb := em_bd ((y : Int) * y) (p := p) (by omega)
    have e0 : (((y + 1 : Nat) : Int) - 1) = (y : Int) := by omega
    rw [e0, f_PrimeGroup_take_l34, if_neg (by rw [show (0 : Int32) = iZ 0 from rfl, iZ_lt ⟨by omega, by omega⟩ (bd_lit _ rfl)]; omega), iZ_mul, i2j ⟨by omega, by omega⟩, pg_res ⟨by omega, by omega⟩ (by omega) (by omega) h10, Option.bind_some, lt_eq, store_in (by decide) (by decide) eb.1 (by show (y : Int) * y % p < ((97 : Nat) : Int); omega), show iZ (y : Int) + (-1 : Int32) = iZ ((y : Int) - 1) from by rw [show (-1 : Int32) = iZ (-1) from rfl, iZ_add]; rfl]
    have em : ((y : Int) * y % p).toNat = y * y % p := by rw [← Int.natCast_mul, ← Int.natCast_emod, Int.toNat_natCast]
    rw [em]
    obtain ⟨σ', g1, g2, g3, g4⟩ := ih n (s_i σ 35 (y * y % p) (iZ (y : Int))) (by omega) hn' (by rw [si_ne (Or.inl (by decide))]; exact h10) (fun r h => by
      rw [show p / 2 + 1 - y = (p / 2 + 1 - (y + 1)) + 1 by omega, rtS_s]
      by_cases c : y * y % p = r
      · subst c
        rw [si_eq, if_pos rfl]
      · rw [si_ne (Or.inr (fun q => c q.symm)), if_neg c]; exact hr r h)
    exact ⟨σ', g1, g2, g3, fr_trans (fr_si rfl) g4⟩
section BYP
variable {a b : Int}
theorem take_new {N : Nat} (hN : 10000 ≤ N) (ha : bd 60 a) (hb' : bd 200 b) {p : Nat} (hp : p ∈ opr) {σ : aSt} (h6 : σ.1 34 6 = iZ a) (h7 : σ.1 34 7 = iZ b) (hne : σ.1 34 10 ≠ iZ p) : ∃ σ', f_PrimeGroup_take N (iZ p) σ = some σ' ∧ TKN p a b σ' ∧ σ'.1 34 11 = 0 ∧ fr (fun o k => Nat.beq o 36 || Nat.beq o 35 || (Nat.beq o 34 && (Nat.beq k 8 || Nat.beq k 9 || Nat.beq k 10 || Nat.beq k 11))) σ σ' := by
  have hb := opr_bd p hp
  have := ha.1; have := ha.2; have := hb'.1; have := hb'.2
  unfold f_PrimeGroup_take
  rw [if_pos hne, h6, h7, i2j ⟨by omega, by omega⟩, i2j ⟨by omega, by omega⟩, pg_res (z := a) (p := p) (σ := s_i σ 34 10 (iZ p)) ⟨by omega, by omega⟩ (by omega) (by omega) (si_eq _ _ _ _), Option.bind_some, pg_res (z := b) (p := p) (σ := s_i (s_i σ 34 10 (iZ p)) 34 8 (iZ (a % p))) ⟨by omega, by omega⟩ (by omega) (by omega) (by rw [si_ne (Or.inr (by decide))]; exact si_eq _ _ _ _), Option.bind_some, lt_eq]
  obtain ⟨σ1, hσ1⟩ : ∃ s, s = f_fill (s_i (s_i (s_i (s_i σ 34 10 (iZ p)) 34 8 (iZ (a % p))) 34 9 (iZ (b % p))) 34 11 (0 : Int32)) 35 (-1 : Int32) := ⟨_, rfl⟩
  rw [← hσ1]
  have e10 : σ1.1 34 10 = iZ p := by rw [hσ1]; rfl
  have e8 : σ1.1 34 8 = iZ (a % p) := by rw [hσ1]; rfl
  have e9 : σ1.1 34 9 = iZ (b % p) := by rw [hσ1]; rfl
  have e11 : σ1.1 34 11 = 0 := by rw [hσ1]; rfl
  have e35 : ∀ r, r < p → σ1.1 35 r = (-1 : Int32) := fun r h => by rw [hσ1]; exact fill_get (row := 35) (by show r < 97; omega)
  have ed : σ1.1 34 10 / (2 : Int32) = iZ (((p / 2 + 1 : Nat) : Int) - 1) := by
    rw [e10, show (2 : Int32) = iZ ((2 : Nat) : Int) from rfl, iZ_div ⟨by omega, by omega⟩ (bd_lit _ rfl), nat_div]
    congr 1; omega
  rw [ed]
  obtain ⟨σ', g1, g2, g3, g4⟩ := take34 (N := N) hp hN (p / 2 + 1) N σ1 (Nat.le_refl _) (by omega) e10 (fun r h => by rw [Nat.sub_self]; exact e35 r h)
  refine ⟨σ', g1, ⟨by rw [(g4 34 10 rfl).1]; exact e10, by rw [(g4 34 8 rfl).1]; exact e8, by rw [(g4 34 9 rfl).1]; exact e9, g2, g3⟩, by rw [(g4 34 11 rfl).1]; exact e11, ?_⟩
  refine fr_trans (σ' := σ1) ?_ (fr_mono g4 (fun o k q => by rw [Bool.or_eq_false_iff] at q; exact q.1))
  rw [hσ1]
  exact fr_trans (fr_trans (fr_trans (fr_trans (fr_si rfl) (fr_si rfl)) (fr_si rfl)) (fr_si rfl)) (fr_fill (fun _ => rfl))
end BYP
