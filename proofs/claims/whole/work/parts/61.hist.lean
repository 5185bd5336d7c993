/-! WHAT undo() TAKES BACK -/
def XH (H : Nat → Int) (d : Nat) (σ : aSt) : Prop := σ.1 6 1 = iZ d ∧ d ≤ 10 ∧ ∀ i, i < 4 * d → σ.1 7 i = iZ (H i)
def MH (H : Nat → Int) (d : Nat) (τ : aSt) : Prop := τ.1 66 22 = iZ d ∧ d ≤ 10 ∧ ∀ i, i < 4 * d → τ.1 72 i = iZ (H i)
def put (H : Nat → Int) (d : Nat) (r0 r1 r2 r3 : Int) : Nat → Int := fun i => if i = 4 * d then r0 else if i = 4 * d + 1 then r1 else if i = 4 * d + 2 then r2 else if i = 4 * d + 3 then r3 else H i
theorem put_lt {H : Nat → Int} {d i : Nat} {r0 r1 r2 r3 : Int} (h : i < 4 * d) : put H d r0 r1 r2 r3 i = H i := by
  unfold put
  rw [if_neg (by omega), if_neg (by omega), if_neg (by omega), if_neg (by omega)]
theorem put_0 {H : Nat → Int} {d : Nat} {r0 r1 r2 r3 : Int} : put H d r0 r1 r2 r3 (4 * d) = r0 := if_pos rfl
theorem put_1 {H : Nat → Int} {d : Nat} {r0 r1 r2 r3 : Int} : put H d r0 r1 r2 r3 (4 * d + 1) = r1 := by
  unfold put; rw [if_neg (by omega), if_pos rfl]
theorem put_2 {H : Nat → Int} {d : Nat} {r0 r1 r2 r3 : Int} : put H d r0 r1 r2 r3 (4 * d + 2) = r2 := by
  unfold put; rw [if_neg (by omega), if_neg (by omega), if_pos rfl]
theorem put_3 {H : Nat → Int} {d : Nat} {r0 r1 r2 r3 : Int} : put H d r0 r1 r2 r3 (4 * d + 3) = r3 := by
  unfold put; rw [if_neg (by omega), if_neg (by omega), if_neg (by omega), if_pos rfl]
def frH : Nat → Nat → Bool := fun o k => Nat.beq o 7 || (Nat.beq o 6 && Nat.beq k 1)
theorem xpush15 {H : Nat → Int} {d : Nat} {σ : aSt} (h : XH H d σ) (hd : d ≤ 9) (r0 r1 r2 r3 : Int) : XH (put H d r0 r1 r2 r3) (d + 1) (f_History_push_b15 (iZ r0) (iZ r1) (iZ r2) (iZ r3) σ) ∧ fr frH σ (f_History_push_b15 (iZ r0) (iZ r1) (iZ r2) (iZ r3) σ) := by
  obtain ⟨h1, h2, h3⟩ := h
  unfold f_History_push_b15
  simp only [lt_eq]
  have ho : oln 7 = 40 := rfl
  have e0 : ((d : Int) * 4).toNat = 4 * d := by omega
  have e1 : ((d : Int) * 4 + 1).toNat = 4 * d + 1 := by omega
  have e2 : ((d : Int) * 4 + 2).toNat = 4 * d + 2 := by omega
  have e3 : ((d : Int) * 4 + 3).toNat = 4 * d + 3 := by omega
  rw [h1, show iZ (d : Int) * (4 : Int32) = iZ ((d : Int) * 4) from by rw [iZ_lit, iZ_mul], store_in (row := 7) (by decide) (by decide) (by omega) (by rw [ho]; omega), e0]
  rw [show (s_i σ 7 (4 * d) (iZ r0)).1 6 1 = iZ d from h1, show iZ (d : Int) * (4 : Int32) + (1 : Int32) = iZ ((d : Int) * 4 + 1) from by rw [iZ_lit, iZ_lit, iZ_mul, iZ_add], store_in (row := 7) (by decide) (by decide) (by omega) (by rw [ho]; omega), e1]
  rw [show (s_i (s_i σ 7 (4 * d) (iZ r0)) 7 (4 * d + 1) (iZ r1)).1 6 1 = iZ d from h1, show iZ (d : Int) * (4 : Int32) + (2 : Int32) = iZ ((d : Int) * 4 + 2) from by rw [iZ_lit, iZ_lit, iZ_mul, iZ_add], store_in (row := 7) (by decide) (by decide) (by omega) (by rw [ho]; omega), e2]
  rw [show (s_i (s_i (s_i σ 7 (4 * d) (iZ r0)) 7 (4 * d + 1) (iZ r1)) 7 (4 * d + 2) (iZ r2)).1 6 1 = iZ d from h1, show iZ (d : Int) * (4 : Int32) + (3 : Int32) = iZ ((d : Int) * 4 + 3) from by rw [iZ_lit, iZ_lit, iZ_mul, iZ_add], store_in (row := 7) (by decide) (by decide) (by omega) (by rw [ho]; omega), e3]
  rw [show (s_i (s_i (s_i (s_i σ 7 (4 * d) (iZ r0)) 7 (4 * d + 1) (iZ r1)) 7 (4 * d + 2) (iZ r2)) 7 (4 * d + 3) (iZ r3)).1 6 1 = iZ d from h1, i1]
  have h7 : ∀ k, frH 7 k = true := fun k => rfl
  refine ⟨⟨si_eq _ _ _ _, by omega, fun i hi => ?_⟩, fr_trans (fr_trans (fr_trans (fr_trans (fr_si (h7 _)) (fr_si (h7 _))) (fr_si (h7 _))) (fr_si (h7 _))) (fr_si rfl)⟩
  rw [si_ne (Or.inl (by decide))]
  by_cases c3 : i = 4 * d + 3
  · subst c3; rw [si_eq, put_3]
  · rw [si_ne (Or.inr c3)]
    by_cases c2 : i = 4 * d + 2
    · subst c2; rw [si_eq, put_2]
    · rw [si_ne (Or.inr c2)]
      by_cases c1 : i = 4 * d + 1
      · subst c1; rw [si_eq, put_1]
      · rw [si_ne (Or.inr c1)]
        by_cases c0 : i = 4 * d
        · subst c0; rw [si_eq, put_0]
        · rw [si_ne (Or.inr c0), put_lt (by omega)]; exact h3 i (by omega)
/-- one more row; of ten the first is lost -/
def pshH (H : Nat → Int) (d : Nat) (r0 r1 r2 r3 : Int) : Nat → Int := if d = 10 then put (fun i => H (i + 4)) 9 r0 r1 r2 r3 else put H d r0 r1 r2 r3
def pshD (d : Nat) : Nat := if d = 10 then 10 else d + 1
theorem xpush {H : Nat → Int} {d : Nat} {σ : aSt} (h : XH H d σ) (r0 r1 r2 r3 : Int) : XH (pshH H d r0 r1 r2 r3) (pshD d) (f_History_push (iZ r0) (iZ r1) (iZ r2) (iZ r3) σ) ∧ fr frH σ (f_History_push (iZ r0) (iZ r1) (iZ r2) (iZ r3) σ) := by
  obtain ⟨h1, h2, h3⟩ := id h
  unfold f_History_push pshH pshD
  rw [h1]
  by_cases c : d = 10
  · have cc : ¬ iZ (d : Int) < (10 : Int32) := by rw [iZ_lit, iZ_lt ⟨by omega, by omega⟩ (bd_lit _ rfl)]; omega
    rw [if_neg cc, if_pos c, if_pos c]
    have f1 : fr frH σ (s_i (cpI σ 7 4 0 36) 6 1 (9 : Int32)) := by
      refine fr_trans (σ' := cpI σ 7 4 0 36) (fun o k q => ⟨?_, rfl, rfl⟩) (fr_si rfl)
      show cond (Nat.beq o 7) (va_cpy (σ.1 7) (σ.1 7) 4 0 36 k) (σ.1 o k) = σ.1 o k
      have : o ≠ 7 := fun e => by subst e; cases q
      rw [beqN this]; rfl
    obtain ⟨g1, g2⟩ := xpush15 (H := fun i => H (i + 4)) (d := 9) (σ := s_i (cpI σ 7 4 0 36) 6 1 (9 : Int32)) ⟨si_eq _ _ _ _, by omega, fun i hi => by
      rw [si_ne (Or.inl (by decide))]
      show cond (Nat.beq 7 7) (va_cpy (σ.1 7) (σ.1 7) 4 0 36 i) (σ.1 7 i) = _
      show va_cpy (σ.1 7) (σ.1 7) 4 0 36 i = _
      unfold va_cpy
      rw [if_pos ⟨Nat.zero_le _, by omega⟩, show 4 + (i - 0) = i + 4 from by omega]
      exact h3 (i + 4) (by omega)⟩ (by omega) r0 r1 r2 r3
    exact ⟨g1, fr_trans f1 g2⟩
  · have cc : iZ (d : Int) < (10 : Int32) := by rw [iZ_lit, iZ_lt ⟨by omega, by omega⟩ (bd_lit _ rfl)]; omega
    rw [if_pos cc, if_neg c, if_neg c]
    exact xpush15 h (by omega) r0 r1 r2 r3
def frK : Nat → Nat → Bool := fun o k => Nat.beq o 72 || (Nat.beq o 66 && Nat.beq k 22)
theorem mkeep27 (N : Nat) {H : Nat → Int} {d : Nat} {τ : aSt} (h : MH H d τ) (hd : d ≤ 9) {r0 r1 r2 r3 : Int} (c2 : τ.1 66 2 = iZ r0) (c3 : τ.1 66 3 = iZ r1) (c4 : τ.1 66 4 = iZ r2) (c5 : τ.1 66 5 = iZ r3) : ∃ τ', f_M_keeps_b27 N τ = some τ' ∧ MH (put H d r0 r1 r2 r3) (d + 1) τ' ∧ fr frK τ τ' := by
  obtain ⟨h1, h2, h3⟩ := h
  unfold f_M_keeps_b27
  rw [h1, c2, c3, c4, c5, show (4 : Int32) * iZ (d : Int) = iZ (4 * (d : Int)) from by rw [iZ_lit, iZ_mul], show iZ (4 * (d : Int)) + (1 : Int32) = iZ (4 * (d : Int) + 1) from by rw [iZ_lit, iZ_add], show iZ (4 * (d : Int)) + (2 : Int32) = iZ (4 * (d : Int) + 2) from by rw [iZ_lit, iZ_add], show iZ (4 * (d : Int)) + (3 : Int32) = iZ (4 * (d : Int) + 3) from by rw [iZ_lit, iZ_add], i1]
  have inr : ∀ z : Int, 0 ≤ z → z < 40 → (0 ≤ iZ z ∧ iZ z < (40 : Int32)) := fun z z0 z1 => by
    rw [iZ_lit, iZ_lit, iZ_le (bd_lit _ rfl) ⟨by omega, by omega⟩, iZ_lt ⟨by omega, by omega⟩ (bd_lit _ rfl)]; omega
  rw [if_pos (inr _ (by omega) (by omega)), if_pos (inr _ (by omega) (by omega)), if_pos (inr _ (by omega) (by omega)), if_pos (inr _ (by omega) (by omega)), iZ_idx (by omega) (by omega), iZ_idx (by omega) (by omega), iZ_idx (by omega) (by omega), iZ_idx (by omega) (by omega), show (4 * (d : Int)).toNat = 4 * d from by omega, show (4 * (d : Int) + 1).toNat = 4 * d + 1 from by omega, show (4 * (d : Int) + 2).toNat = 4 * d + 2 from by omega, show (4 * (d : Int) + 3).toNat = 4 * d + 3 from by omega]
  have h7 : ∀ k, frK 72 k = true := fun k => rfl
  refine ⟨_, rfl, ⟨si_eq _ _ _ _, by omega, fun i hi => ?_⟩, fr_trans (fr_trans (fr_trans (fr_trans (fr_si (h7 _)) (fr_si (h7 _))) (fr_si (h7 _))) (fr_si (h7 _))) (fr_si rfl)⟩
  rw [si_ne (Or.inl (by decide))]
  by_cases c3 : i = 4 * d + 3
  · subst c3; rw [si_eq, put_3]
  · rw [si_ne (Or.inr c3)]
    by_cases c2 : i = 4 * d + 2
    · subst c2; rw [si_eq, put_2]
    · rw [si_ne (Or.inr c2)]
      by_cases c1 : i = 4 * d + 1
      · subst c1; rw [si_eq, put_1]
      · rw [si_ne (Or.inr c1)]
        by_cases c0 : i = 4 * d
        · subst c0; rw [si_eq, put_0]
        · rw [si_ne (Or.inr c0), put_lt (by omega)]; exact h3 i (by omega)
theorem mkeepL (N : Nat) {H : Nat → Int} {r0 r1 r2 r3 : Int} : ∀ (j n k : Nat) (τ : aSt), k + j = 36 → j + 1 ≤ n → τ.1 66 22 = iZ (10 : Nat) → (∀ i, i < k → τ.1 72 i = iZ (H (i + 4))) → (∀ i, k ≤ i → i < 40 → τ.1 72 i = iZ (H i)) → τ.1 66 2 = iZ r0 → τ.1 66 3 = iZ r1 → τ.1 66 4 = iZ r2 → τ.1 66 5 = iZ r3 → ∃ τ', f_M_keeps_l6 N n (iZ k) τ = some τ' ∧ MH (put (fun i => H (i + 4)) 9 r0 r1 r2 r3) 10 τ' ∧ fr frK τ τ' := by
  intro j
  induction j with
  | zero =>
    intro n k τ hk hn h22 ha hb c2 c3 c4 c5
    obtain ⟨n, rfl, hn⟩ := fuel hn
    rw [f_M_keeps_l6, if_pos (by rw [iZ_lit, iZ_le (bd_lit _ rfl) ⟨by omega, by omega⟩]; omega), h22]
    have f0 : fr frK τ (s_i τ 66 22 (iZ ((10 : Nat) : Int) - (1 : Int32))) := fr_si rfl
    obtain ⟨τ', g1, g2, g3⟩ := mkeep27 N (H := fun i => H (i + 4)) (d := 9) (τ := s_i τ 66 22 (iZ ((10 : Nat) : Int) - (1 : Int32))) ⟨by rw [si_eq]; decide, by omega, fun i hi => by rw [si_ne (Or.inl (by decide))]; exact ha i (by omega)⟩ (by omega) c2 c3 c4 c5
    exact ⟨τ', g1, g2, fr_trans f0 g3⟩
  | succ j ih =>
    intro n k τ hk hn h22 ha hb c2 c3 c4 c5
    obtain ⟨n, rfl, hn⟩ := fuel hn
    rw [f_M_keeps_l6, if_neg (by rw [iZ_lit, iZ_le (bd_lit _ rfl) ⟨by omega, by omega⟩]; omega), show iZ (k : Int) + (4 : Int32) = iZ ((k : Int) + 4) from by rw [iZ_lit, iZ_add], if_pos (by rw [iZ_lit, iZ_lit, iZ_le (bd_lit _ rfl) ⟨by omega, by omega⟩, iZ_lt ⟨by omega, by omega⟩ (bd_lit _ rfl)]; omega), if_pos (by rw [iZ_lit, iZ_lit, iZ_le (bd_lit _ rfl) ⟨by omega, by omega⟩, iZ_lt ⟨by omega, by omega⟩ (bd_lit _ rfl)]; omega), iZ_idx (by omega) (by omega), iZ_idx (by omega) (by omega), Int.toNat_natCast, show ((k : Int) + 4).toNat = k + 4 from by omega, hb (k + 4) (by omega) (by omega), i1]
    have h7 : ∀ k, frK 72 k = true := fun k => rfl
    have f0 : fr frK τ (s_i τ 72 k (iZ (H (k + 4)))) := fr_si (h7 _)
    obtain ⟨τ', g1, g2, g3⟩ := ih n (k + 1) (s_i τ 72 k (iZ (H (k + 4)))) (by omega) (by omega) (by rw [si_ne (Or.inl (by decide))]; exact h22) (fun i hi => by
      by_cases c : i = k
      · subst c; rw [si_eq]
      · rw [si_ne (Or.inr c)]; exact ha i (by omega)) (fun i h1 h2 => by rw [si_ne (Or.inr (by omega))]; exact hb i (by omega) h2) c2 c3 c4 c5
    exact ⟨τ', g1, g2, fr_trans f0 g3⟩
theorem mkeep {N : Nat} (hN : 10000 ≤ N) {H : Nat → Int} {d : Nat} {τ : aSt} (h : MH H d τ) {r0 r1 r2 r3 : Int} (c2 : τ.1 66 2 = iZ r0) (c3 : τ.1 66 3 = iZ r1) (c4 : τ.1 66 4 = iZ r2) (c5 : τ.1 66 5 = iZ r3) : ∃ τ', f_M_keeps N τ = some τ' ∧ MH (pshH H d r0 r1 r2 r3) (pshD d) τ' ∧ fr frK τ τ' := by
  obtain ⟨h1, h2, h3⟩ := id h
  unfold f_M_keeps pshH pshD
  rw [h1]
  by_cases c : d = 10
  · subst c
    rw [if_neg (c := iZ ((10 : Nat) : Int) ≠ (10 : Int32)) (fun h => h rfl), if_pos rfl, if_pos rfl]
    exact mkeepL N 36 N 0 τ (by omega) (by omega) h1 (fun i hi => by omega) (fun i _ hi => h3 i (by omega)) c2 c3 c4 c5
  · have cc : iZ (d : Int) ≠ (10 : Int32) := by rw [ne_eq, iZ_lit, iZ_eq ⟨by omega, by omega⟩ (bd_lit _ rfl)]; omega
    rw [if_pos cc, if_neg c, if_neg c]
    exact mkeep27 N h (by omega) c2 c3 c4 c5
/-- all rows are curves -/
def HV (H : Nat → Int) (d : Nat) : Prop := ∀ r, r < d → ∃ (a b : Int) (M E : Nat), CVc a b M E ∧ H (4 * r) = a ∧ H (4 * r + 1) = b ∧ H (4 * r + 2) = M ∧ H (4 * r + 3) = E
theorem HV_push {H : Nat → Int} {d : Nat} (hd : d ≤ 10) (h : HV H d) {a b : Int} {M E : Nat} (hc : CVc a b M E) : HV (pshH H d a b M E) (pshD d) := by
  have base : ∀ (G : Nat → Int) (k : Nat), HV G k → HV (put G k a b M E) (k + 1) := fun G k hG r hr => by
    by_cases c : r = k
    · subst c
      exact ⟨a, b, M, E, hc, put_0, put_1, put_2, put_3⟩
    · obtain ⟨a', b', M', E', q1, q2, q3, q4, q5⟩ := hG r (by omega)
      exact ⟨a', b', M', E', q1, by rw [put_lt (by omega)]; exact q2, by rw [put_lt (by omega)]; exact q3, by rw [put_lt (by omega)]; exact q4, by rw [put_lt (by omega)]; exact q5⟩
  unfold pshH pshD
  by_cases c : d = 10
  · rw [if_pos c, if_pos c]
    refine base (fun i => H (i + 4)) 9 (fun r hr => ?_)
    obtain ⟨a', b', M', E', q1, q2, q3, q4, q5⟩ := h (r + 1) (by omega)
    exact ⟨a', b', M', E', q1, by rw [← q2]; congr 1, by rw [← q3]; congr 1, by rw [← q4]; congr 1, by rw [← q5]; congr 1⟩
  · rw [if_neg c, if_neg c]
    exact base H d h
