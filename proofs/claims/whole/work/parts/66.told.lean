/-! TOLD: the text said last, in step; octet, fault, count -/
def ToD (len : Nat) (σ τ : aSt) : Prop := σ.1 4 1 = iZ len ∧ τ.1 66 57 = iZ len ∧ len ≤ 64 ∧ ∀ i, i < len → σ.1 5 i = τ.1 86 i
def frXD : Nat → Nat → Bool := fun o k => (Nat.beq o 4 && Nat.beq k 1) || Nat.beq o 5
def frMD : Nat → Nat → Bool := fun o k => (Nat.beq o 66 && Nat.beq k 57) || Nat.beq o 86
theorem frXD5 (k : Nat) : frXD 5 k = true := by unfold frXD; simp
theorem frMD86 (k : Nat) : frMD 86 k = true := by unfold frMD; simp
/-- from one pair to a next one -/
def ToS (l : Nat) (σ τ σ' τ' : aSt) : Prop := ToD l σ' τ' ∧ fr frXD σ σ' ∧ fr frMD τ τ'
theorem ToS_trans {l l' : Nat} {σ τ σ1 τ1 σ2 τ2 : aSt} (h : ToS l σ τ σ1 τ1) (h' : ToS l' σ1 τ1 σ2 τ2) : ToS l' σ τ σ2 τ2 := ⟨h'.1, fr_trans h.2.1 h'.2.1, fr_trans h.2.2 h'.2.2⟩
theorem told_clear (σ τ : aSt) : ToS 0 σ τ (f_Told_clear σ) (s_i τ 66 57 (0 : Int32)) := ⟨⟨rfl, rfl, by omega, fun i hi => by omega⟩, fr_si rfl, fr_si rfl⟩
theorem put_ok {N len : Nat} {z : Int} {σ τ : aSt} (h : ToD len σ τ) (hl : len < 64) (hz : 0 ≤ z ∧ z < 128) : ∃ τ', f_M_puts N (iZ z) τ = some τ' ∧ ToS (len + 1) σ τ (f_Told_putByte (iZ z) σ) τ' := by
  obtain ⟨h1, h2, h3, h4⟩ := h
  unfold f_Told_putByte f_M_puts
  have c2 : 0 ≤ iZ (len : Int) ∧ iZ (len : Int) < (100 : Int32) := by
    rw [show (0 : Int32) = iZ 0 from rfl, show (100 : Int32) = iZ 100 from rfl, iZ_le (bd_lit _ rfl) ⟨by omega, by omega⟩, iZ_lt ⟨by omega, by omega⟩ (bd_lit _ rfl)]; omega
  have e : iZ (len : Int) + (1 : Int32) = iZ ((len + 1 : Nat) : Int) := by rw [iZ_lit, iZ_add]; congr 1
  rw [h1, h2, if_pos c2, if_pos (by rw [iZ_lit, iZ_lt ⟨by omega, by omega⟩ (bd_lit _ rfl)]; omega), lt_eq, store_in (by decide) (by decide) (by omega) (by show (len : Int) < ((64 : Nat) : Int); omega), si_ne (Or.inl (by decide)), h1, e, iZ_idx (by omega) (by omega), i8_self ⟨by omega, hz.2⟩, i8_self ⟨by omega, hz.2⟩, Int.toNat_natCast]
  refine ⟨_, rfl, ⟨si_eq _ _ _ _, si_eq _ _ _ _, by omega, fun i hi => ?_⟩, fr_trans (fr_si (frXD5 _)) (fr_si rfl), fr_trans (fr_si (frMD86 _)) (fr_si rfl)⟩
  rw [si_ne (a := 5) (o := 4) (Or.inl (by decide)), si_ne (a := 86) (o := 66) (Or.inl (by decide))]
  by_cases c : i = len
  · subst c; rw [si_eq, si_eq]
  · rw [si_ne (Or.inr c), si_ne (Or.inr c)]; exact h4 i (by omega)
/-- the digits, from the k-th down -/
theorem digits_ok {N v : Nat} (hv : v < 10000000000) : ∀ (k c n n' len : Nat) (σ τ : aSt), c + k + 1 ≤ 11 → k + 2 ≤ n → k + 2 ≤ n' → ToD len σ τ → len + k + 1 ≤ 64 → ∃ σ' τ', f_Told_putNumber_l30 N n (jZ v) (jZ (10 ^ k : Nat)) (iZ c) σ = some σ' ∧ f_M_tellsNumber_l23 N n' (jZ v) (jZ (10 ^ k : Nat)) τ = some τ' ∧ ToS (len + k + 1) σ τ σ' τ' := by
  intro k
  induction k with
  | zero =>
    intro c n n' len σ τ hc hn hn' h hl
    obtain ⟨n, rfl, hn1⟩ := fuel hn
    obtain ⟨n', rfl, hn1'⟩ := fuel hn'
    obtain ⟨n, rfl, hn2⟩ := fuel hn1
    obtain ⟨n', rfl, hn2'⟩ := fuel hn1'
    have hd : 0 ≤ (v : Int) % 10 ∧ (v : Int) % 10 < 10 := by omega
    have e1 : lrem (jZ (v : Int) / jZ ((10 ^ 0 : Nat) : Int)) (10 : Int64) = jZ ((v : Int) % 10) := by
      rw [jZ_lit, jZ_div ⟨by omega, by omega⟩ (bd_lit _ rfl), jZ_rem (bd_tdiv _ ⟨by omega, by omega⟩) (bd_lit _ rfl)]
      congr 1
      show ((v : Int).tdiv 1).tmod 10 = _
      rw [Int.tdiv_one, Int.tmod_eq_emod_of_nonneg (by omega)]
    have e2 : jZ ((10 ^ 0 : Nat) : Int) / (10 : Int64) = jZ 0 := rfl
    have e3 : iZ (c : Int) + (1 : Int32) = iZ ((c + 1 : Nat) : Int) := by rw [iZ_lit, iZ_add]; congr 1
    obtain ⟨τ', g1, g2⟩ := put_ok (N := N) (z := 48 + (v : Int) % 10) h (by omega) (by omega)
    rw [f_Told_putNumber_l30, if_neg (by rw [iZ_lit, iZ_le (bd_lit _ rfl) ⟨by omega, by omega⟩]; omega), if_neg (by decide), lt_eq, e1, e2, e3, show (48 : Int64) + jZ ((v : Int) % 10) = jZ (48 + (v : Int) % 10) from by rw [show (48 : Int64) = jZ 48 from rfl, jZ_add], j2i, f_Told_putNumber_l30, if_neg (by rw [iZ_lit, iZ_le (bd_lit _ rfl) ⟨by omega, by omega⟩]; omega), if_pos (by decide)]
    rw [f_M_tellsNumber_l23, if_neg (by decide), e1, e2, j2i, show (48 : Int32) + iZ ((v : Int) % 10) = iZ (48 + (v : Int) % 10) from by rw [show (48 : Int32) = iZ 48 from rfl, iZ_add], g1, Option.bind_some, f_M_tellsNumber_l23, if_pos (by decide)]
    exact ⟨_, _, rfl, rfl, g2⟩
  | succ k ih =>
    intro c n n' len σ τ hc hn hn' h hl
    obtain ⟨n, rfl, hn1⟩ := fuel hn
    obtain ⟨n', rfl, hn1'⟩ := fuel hn'
    have hk : (1 : Nat) ≤ 10 ^ k := Nat.one_le_pow _ _ (by omega)
    have hk9 : 10 ^ k ≤ 10 ^ 9 := Nat.pow_le_pow_right (by omega) (by omega)
    have hp : (10 ^ (k + 1) : Nat) = 10 ^ k * 10 := Nat.pow_succ ..
    have hB : bd 9223372036854775807 ((10 ^ (k + 1) : Nat) : Int) := ⟨by omega, by rw [hp]; omega⟩
    have e1 : lrem (jZ (v : Int) / jZ ((10 ^ (k + 1) : Nat) : Int)) (10 : Int64) = jZ (((v / 10 ^ (k + 1)) % 10 : Nat) : Int) := by
      rw [jZ_lit, jZ_div ⟨by omega, by omega⟩ hB, jZ_rem (bd_tdiv _ ⟨by omega, by omega⟩) (bd_lit _ rfl)]
      congr 1
    have hd : v / 10 ^ (k + 1) % 10 < 10 := Nat.mod_lt _ (by omega)
    have e2 : jZ ((10 ^ (k + 1) : Nat) : Int) / (10 : Int64) = jZ ((10 ^ k : Nat) : Int) := by
      rw [jZ_lit, jZ_div hB (bd_lit _ rfl)]
      congr 1
      rw [hp]
      show (((10 ^ k * 10) / 10 : Nat) : Int) = _
      rw [Nat.mul_div_cancel _ (by omega)]
    have e3 : iZ (c : Int) + (1 : Int32) = iZ ((c + 1 : Nat) : Int) := by rw [iZ_lit, iZ_add]; congr 1
    have c1 : ¬ jZ ((10 ^ (k + 1) : Nat) : Int) ≤ (0 : Int64) := by
      rw [jZ_lit, jZ_le hB (bd_lit _ rfl), hp]; omega
    obtain ⟨τ1, g1, g2⟩ := put_ok (N := N) (z := 48 + ((v / 10 ^ (k + 1) % 10 : Nat) : Int)) h (by omega) (by omega)
    obtain ⟨σ', τ', a1, a2, a3⟩ := ih (c + 1) n n' (len + 1) _ τ1 (by omega) hn1 hn1' g2.1 (by omega)
    rw [f_Told_putNumber_l30, if_neg (by rw [iZ_lit, iZ_le (bd_lit _ rfl) ⟨by omega, by omega⟩]; omega), if_neg c1, lt_eq, e1, e2, e3, show (48 : Int64) + jZ ((v / 10 ^ (k + 1) % 10 : Nat) : Int) = jZ (48 + ((v / 10 ^ (k + 1) % 10 : Nat) : Int)) from by rw [show (48 : Int64) = jZ 48 from rfl, jZ_add], j2i, a1]
    rw [f_M_tellsNumber_l23, if_neg c1, e1, e2, j2i, show (48 : Int32) + iZ ((v / 10 ^ (k + 1) % 10 : Nat) : Int) = iZ (48 + ((v / 10 ^ (k + 1) % 10 : Nat) : Int)) from by rw [show (48 : Int32) = iZ 48 from rfl, iZ_add], g1, Option.bind_some, a2]
    refine ⟨_, _, rfl, rfl, ?_⟩
    have := ToS_trans g2 a3
    rw [show len + (k + 1) + 1 = len + 1 + k + 1 from by omega]
    exact this
/-- the scale -/
theorem scale_ok {N v : Nat} (hv : v < 10000000000) (σ τ : aSt) : ∀ (j c n n' : Nat), c + j = 9 → j + 1 ≤ n → j + 1 ≤ n' → ∃ k, k ≤ 9 ∧ f_Told_putNumber_l13 N n (jZ v) (jZ (10 ^ c : Nat)) (iZ c) σ = f_Told_putNumber_b28 N (jZ v) (jZ (10 ^ k : Nat)) σ ∧ f_M_tellsNumber_l12 N n' (jZ v) (jZ (10 ^ c : Nat)) τ = f_M_tellsNumber_l23 N N (jZ v) (jZ (10 ^ k : Nat)) τ := by
  intro j
  induction j with
  | zero =>
    intro c n n' hc hn hn'
    obtain ⟨n, rfl, hn1⟩ := fuel hn
    obtain ⟨n', rfl, hn1'⟩ := fuel hn'
    have e : c = 9 := by omega
    subst e
    have c3 : jZ (v : Int) / jZ ((10 ^ 9 : Nat) : Int) < (10 : Int64) := by
      rw [jZ_lit, jZ_div ⟨by omega, by omega⟩ (bd_lit _ rfl), jZ_lt (bd_tdiv _ ⟨by omega, by omega⟩) (bd_lit _ rfl)]
      show ((v / 10 ^ 9 : Nat) : Int) < 10
      omega
    refine ⟨9, Nat.le_refl _, ?_, ?_⟩
    · rw [f_Told_putNumber_l13, if_neg (by decide), if_pos (by
        rw [show jZ ((10 ^ 9 : Nat) : Int) * (10 : Int64) = jZ 10000000000 from rfl, jZ_lt ⟨by omega, by omega⟩ (bd_lit _ rfl)]; omega)]
    · rw [f_M_tellsNumber_l12, if_pos (by decide), if_pos c3]
  | succ j ih =>
    intro c n n' hc hn hn'
    obtain ⟨n, rfl, hn1⟩ := fuel hn
    obtain ⟨n', rfl, hn1'⟩ := fuel hn'
    have hk : (1 : Nat) ≤ 10 ^ c := Nat.one_le_pow _ _ (by omega)
    have hk9 : 10 ^ c ≤ 10 ^ 9 := Nat.pow_le_pow_right (by omega) (by omega)
    have hp : (10 ^ (c + 1) : Nat) = 10 ^ c * 10 := Nat.pow_succ ..
    have hB : bd 9223372036854775807 ((10 ^ c : Nat) : Int) := ⟨by omega, by omega⟩
    have e1 : jZ ((10 ^ c : Nat) : Int) * (10 : Int64) = jZ ((10 ^ (c + 1) : Nat) : Int) := by
      rw [jZ_lit, jZ_mul, hp]; congr 1
    have e3 : iZ (c : Int) + (1 : Int32) = iZ ((c + 1 : Nat) : Int) := by rw [iZ_lit, iZ_add]; congr 1
    have c0 : ¬ jZ ((10 ^ c : Nat) : Int) = 0 := by rw [jZ_lit, jZ_eq hB (bd_lit _ rfl)]; omega
    have c1 : (jZ (v : Int) < jZ ((10 ^ (c + 1) : Nat) : Int)) = (v < 10 ^ (c + 1)) := by
      rw [jZ_lt ⟨by omega, by omega⟩ ⟨by omega, by rw [hp]; omega⟩]; apply propext; omega
    have c2 : (jZ (v : Int) / jZ ((10 ^ c : Nat) : Int) < (10 : Int64)) = (v < 10 ^ (c + 1)) := by
      rw [jZ_lit, jZ_div ⟨by omega, by omega⟩ hB, jZ_lt (bd_tdiv _ ⟨by omega, by omega⟩) (bd_lit _ rfl)]
      show (((v / 10 ^ c : Nat) : Int) < 10) = _
      rw [hp, Nat.mul_comm, ← Nat.div_lt_iff_lt_mul (show 0 < 10 ^ c by omega)]
      apply propext; omega
    by_cases d : v < 10 ^ (c + 1)
    · refine ⟨c, by omega, ?_, ?_⟩
      · rw [f_Told_putNumber_l13, if_neg (by rw [iZ_lit, iZ_le (bd_lit _ rfl) ⟨by omega, by omega⟩]; omega), e1, if_pos (by rw [c1]; exact d)]
      · rw [f_M_tellsNumber_l12, if_pos c0, if_pos (by rw [c2]; exact d)]
    · obtain ⟨k, b1, b2, b3⟩ := ih (c + 1) n n' (by omega) hn1 hn1'
      refine ⟨k, b1, ?_, ?_⟩
      · rw [f_Told_putNumber_l13, if_neg (by rw [iZ_lit, iZ_le (bd_lit _ rfl) ⟨by omega, by omega⟩]; omega), e1, if_neg (by rw [c1]; exact d), e3]; exact b2
      · rw [f_M_tellsNumber_l12, if_pos c0, if_neg (by rw [c2]; exact d), e1]; exact b3
theorem number_ok {N : Nat} (hN : 100 ≤ N) {z : Int} (hz : bd 2147483647 z) {len : Nat} {σ τ : aSt} (h : ToD len σ τ) (hl : len + 11 ≤ 64) : ∃ σ' τ' l, f_Told_putNumber N (iZ z) σ = some σ' ∧ f_M_tellsNumber N (jZ z) τ = some τ' ∧ l ≤ len + 11 ∧ ToS l σ τ σ' τ' := by
  have hz1 := hz.1
  have hz2 := hz.2
  have core : ∀ (l : Nat) (σ τ : aSt), ToD l σ τ → l + 10 ≤ 64 → ∃ σ' τ' l', f_Told_putNumber_b5 N (iZ z) σ = some σ' ∧ f_M_tellsNumber_b7 N (jZ z) τ = some τ' ∧ l' ≤ l + 10 ∧ ToS l' σ τ σ' τ' := fun l σ τ h hl => by
    unfold f_Told_putNumber_b5 f_M_tellsNumber_b7
    rw [i2j hz, labs_Z (bd_mono hz (by decide))]
    obtain ⟨k, b1, b2, b3⟩ := scale_ok (N := N) (v := z.natAbs) (by omega) σ τ 9 0 N N rfl (by omega) (by omega)
    have e1 : f_Told_putNumber_l13 N N (jZ (z.natAbs : Int)) (1 : Int64) (0 : Int32) σ = f_Told_putNumber_b28 N (jZ (z.natAbs : Int)) (jZ (10 ^ k : Nat)) σ := b2
    have e2 : f_M_tellsNumber_l12 N N (jZ (z.natAbs : Int)) (1 : Int64) τ = f_M_tellsNumber_l23 N N (jZ (z.natAbs : Int)) (jZ (10 ^ k : Nat)) τ := b3
    rw [e1, e2]
    unfold f_Told_putNumber_b28
    obtain ⟨σ', τ', g1, g2, g3⟩ := digits_ok (N := N) (v := z.natAbs) (by omega) k 0 N N l σ τ (by omega) (by omega) (by omega) h (by omega)
    exact ⟨σ', τ', l + k + 1, g1, g2, by omega, g3⟩
  unfold f_Told_putNumber f_M_tellsNumber
  have c1 : (0 ≤ iZ z) = (0 ≤ z) := by rw [show (0 : Int32) = iZ 0 from rfl, iZ_le (bd_lit _ rfl) hz]
  have c2 : ((0 : Int64) ≤ jZ z) = (0 ≤ z) := by rw [show (0 : Int64) = jZ 0 from rfl, jZ_le (bd_lit _ rfl) (bd_mono hz (by decide))]
  simp only [c1, c2]
  by_cases c : 0 ≤ z
  · rw [if_pos c, if_pos c]
    obtain ⟨σ', τ', l, g1, g2, g3, g4⟩ := core len σ τ h (by omega)
    exact ⟨σ', τ', l, g1, g2, by omega, g4⟩
  · rw [if_neg c, if_neg c, lt_eq]
    obtain ⟨τ1, a1, a2⟩ := put_ok (N := N) (z := 45) h (by omega) (by omega)
    have a1' : f_M_puts N (45 : Int32) τ = some τ1 := a1
    obtain ⟨σ', τ', l, g1, g2, g3, g4⟩ := core (len + 1) _ τ1 a2.1 (by omega)
    rw [a1', Option.bind_some]
    exact ⟨σ', τ', l, g1, g2, by omega, ToS_trans a2 g4⟩
theorem octet_eq {N len : Nat} {σ τ : aSt} (h : ToD len σ τ) (p : Int32) : f_M_octet N p τ = some (f_X_octet p σ) := by
  obtain ⟨h1, h2, h3, h4⟩ := h
  unfold f_M_octet f_X_octet f_Told_byteAt
  have e : (iZ (len : Int) - (1 : Int32)).toInt64 = jZ ((len : Int) - 1) := by rw [iZ_lit, iZ_sub, i2j ⟨by omega, by omega⟩]
  have q1 : (p < (0 : Int32)) = (p.toInt < 0) := pl_lt (bd_lit 0 rfl)
  have q2 : (iZ (len : Int) ≤ p) = ((len : Int) ≤ p.toInt) := pl_ge ⟨by omega, by omega⟩
  rw [h1, h2, e, jZ_lit, in_p (bd_lit _ rfl) ⟨by omega, by omega⟩, ite_dec]
  simp only [q1, q2]
  by_cases c : 0 ≤ p.toInt ∧ p.toInt ≤ (len : Int) - 1
  · rw [if_pos c, if_neg (show ¬ p.toInt < 0 by omega), if_neg (show ¬ (len : Int) ≤ p.toInt by omega)]
    obtain ⟨n, hn⟩ : ∃ n : Nat, p.toInt = n := ⟨p.toInt.toNat, by omega⟩
    have ep := lit32 hn
    rw [ep, pick_in (by decide) (by decide) (by omega) (by show (n : Int) < ((64 : Nat) : Int); omega), iZ_idx (by omega) (by omega), if_pos (by
      rw [show (0 : Int32) = iZ 0 from rfl, show (100 : Int32) = iZ 100 from rfl, iZ_le (bd_lit _ rfl) ⟨by omega, by omega⟩, iZ_lt ⟨by omega, by omega⟩ (bd_lit _ rfl)]; omega), Int.toNat_natCast, h4 n (by omega)]
  · rw [if_neg c]
    by_cases c2 : p.toInt < 0
    · rw [if_pos c2]
    · rw [if_neg c2, if_pos (show (len : Int) ≤ p.toInt by omega)]
theorem fault_eq {σ τ : aSt} (h1 : σ.1 1 7 = τ.1 66 18) (h2 : σ.1 1 8 = τ.1 66 19) (p : Int32) : f_X_fault p σ = f_M_fault p τ := by
  unfold f_X_fault f_M_fault f_Reader_faultPlace f_Reader_faultNumber
  rw [h1, h2]
