/-! BY A PRIME: the POINTS of the LIST, their orders -/
def rdP (p : Nat) (q : Pt) : Option (Int × Int) := if q.2.2 % (p : Int) = 0 then none else some ((q.1 * ivP p (q.2.2 % p) * ivP p (q.2.2 % p)) % p, (q.2.1 * ivP p (q.2.2 % p) * ivP p (q.2.2 % p) * ivP p (q.2.2 % p)) % p)
def rdX (a b : Int) (M E : Nat) (p : Nat) (x : Int) : Option (Int × Int) := if x = 1000 then none else rdP p (gp a b M E x)
/-- the reference's start -/
def MSt (P : Option (Int × Int)) (τ : aSt) : Prop := match P with
  | none => τ.2.2 66 34 = true
  | some P => τ.2.2 66 34 = false ∧ τ.1 66 32 = iZ P.1 ∧ τ.1 66 33 = iZ P.2
def frSt : Nat → Nat → Bool := fun o k => Nat.beq o 66 && (Nat.beq k 32 || Nat.beq k 33 || Nat.beq k 34)
/-- all that the reference changes BY A PRIME -/
def frBP : Nat → Nat → Bool := fun o k => Nat.beq o 66 && (Nat.ble 29 k && Nat.ble k 37)
theorem frBP_66 {k : Nat} (h1 : 29 ≤ k) (h2 : k ≤ 37) : frBP 66 k = true := by
  unfold frBP
  rw [show Nat.ble 29 k = true from by rw [Nat.ble_eq]; omega, show Nat.ble k 37 = true from by rw [Nat.ble_eq]; omega]; rfl
theorem frMo_B {σ σ' : aSt} (h : fr frMo σ σ') : fr frBP σ σ' := fr_mono h (fun o k q => by
  cases c : frMo o k
  · rfl
  · unfold frMo at c
    rw [Bool.and_eq_true] at c
    have h1 := Nat.eq_of_beq_eq_true c.1
    subst h1
    have : k = 29 ∨ k = 30 ∨ k = 31 := by
      cases c1 : Nat.beq k 29
      · cases c2 : Nat.beq k 30
        · cases c3 : Nat.beq k 31
          · rw [c1, c2, c3] at c; cases c.2
          · exact Or.inr (Or.inr (Nat.eq_of_beq_eq_true c3))
        · exact Or.inr (Or.inl (Nat.eq_of_beq_eq_true c2))
      · exact Or.inl (Nat.eq_of_beq_eq_true c1)
    rw [frBP_66 (by omega) (by omega)] at q
    cases q)
theorem frSt_B {σ σ' : aSt} (h : fr frSt σ σ') : fr frBP σ σ' := fr_mono h (fun o k q => by
  cases c : frSt o k
  · rfl
  · unfold frSt at c
    rw [Bool.and_eq_true] at c
    have h1 := Nat.eq_of_beq_eq_true c.1
    subst h1
    have : k = 32 ∨ k = 33 ∨ k = 34 := by
      cases c1 : Nat.beq k 32
      · cases c2 : Nat.beq k 33
        · cases c3 : Nat.beq k 34
          · rw [c1, c2, c3] at c; cases c.2
          · exact Or.inr (Or.inr (Nat.eq_of_beq_eq_true c3))
        · exact Or.inr (Or.inl (Nat.eq_of_beq_eq_true c2))
      · exact Or.inl (Nat.eq_of_beq_eq_true c1)
    rw [frBP_66 (by omega) (by omega)] at q
    cases q)
section BYC
variable {a b : Int} {M E : Nat}
theorem MC_B {τ τ' : aSt} (hf : fr frBP τ τ') (h : MC a b M E τ) : MC a b M E τ' := MC_fr hf ⟨rfl, rfl, rfl, rfl, rfl, fun _ => ⟨rfl, rfl, rfl⟩⟩ h
theorem RM_B {τ τ' : aSt} (hf : fr frBP τ τ') (h : RM a b M E τ) : RM a b M E τ' := ⟨by rw [(hf 66 1 rfl).2.2]; exact h.1, MC_B hf h.2⟩
theorem XC_G {σ σ' : aSt} (hf : fr frG σ σ') (h : XC a b M E σ) : XC a b M E σ' := XC_fr hf (fun _ => ⟨rfl, rfl, rfl, rfl, rfl⟩) h
theorem RX_G {σ σ' : aSt} (hf : fr frG σ σ') (h : RX a b M E σ) : RX a b M E σ' := ⟨by rw [(hf 0 13 rfl).2.2]; exact h.1, XC_G hf h.2⟩
theorem CP_G {σ σ' : aSt} (hf : fr frG σ σ') (h : CP σ) : CP σ' := fun k hk => by rw [(hf 87 k rfl).1]; exact h k hk
theorem rd_on {p : Nat} (hp : p ∈ opr) {q : Pt} (hq : isPt a b M E q) : onE p a b (rdP p q) := by
  have hb := opr_bd p hp
  unfold rdP
  by_cases c : q.2.2 % (p : Int) = 0
  · rw [if_pos c]; trivial
  · rw [if_neg c]
    refine ⟨em_bd _ (by omega), em_bd _ (by omega), ?_⟩
    have iv := (iv_ok hp (fun z => c (Int.emod_eq_zero_of_dvd z))).1
    obtain ⟨v, hv⟩ : ∃ v, v = ivP p (q.2.2 % p) := ⟨_, rfl⟩
    rw [← hv] at iv
    simp only [← hv]
    have k1 := d_em p (q.1 * v * v)
    have k2 := d_em p (q.2.1 * v * v * v)
    obtain ⟨x, hx⟩ : ∃ x, x = (q.1 * v * v) % (p : Int) := ⟨_, rfl⟩
    obtain ⟨y, hy⟩ : ∃ y, y = (q.2.1 * v * v * v) % (p : Int) := ⟨_, rfl⟩
    rw [← hx] at k1 ⊢
    rw [← hy] at k2 ⊢
    have e := hq.2.2.2.2
    unfold pv at e
    obtain ⟨m, n, f⟩ := q
    simp only at e k1 k2 iv
    refine d_eq (y := (y + n * v * v * v) * (y - n * v * v * v) - (x * x + x * (m * v * v) + (m * v * v) * (m * v * v) + a * (x + m * v * v) + b) * (x - m * v * v) + (a * m * m * v * v * v * v * (f * v + 1) + b * m * v * v * (f * v + 1) * (f * f * v * v + 1)) * (f * v - 1)) ?_ (Int.dvd_add (Int.dvd_sub (d_mul k2) (d_mul k1)) (d_mul iv))
    have e6 : n * n * (v * v * v * v * v * v) = m * (m * m + a * m * (f * f) + b * (f * f) * (f * f)) * (v * v * v * v * v * v) := by rw [e]
    grind
theorem rdX_on {p : Nat} (hp : p ∈ opr) {x : Int} (hx : pnt a b M E x) : onE p a b (rdX a b M E p x) := by
  unfold rdX
  by_cases c : x = 1000
  · rw [if_pos c]; trivial
  · rw [if_neg c]
    rcases hx with h | h
    · exact absurd h c
    · exact rd_on hp (gp_pt h.1 h.2)
theorem pt_n {q : Pt} (hc : CVc a b M E) (hq : isPt a b M E q) : bd 141422 q.2.1 := by
  obtain ⟨hab, hb0, hM1, hM, hE1, hE⟩ := CVc_CV hc
  have h1 := pv_bd hab (isPt_m hM hq) (isPt_e hE hq)
  rw [← hq.2.2.2.2] at h1
  have h2 := h1.2
  constructor
  · apply Classical.byContradiction
    intro n
    have : 141423 * 141423 ≤ (-q.2.1) * (-q.2.1) := Int.mul_le_mul (by omega) (by omega) (by omega) (by omega)
    rw [Int.neg_mul_neg] at this
    omega
  · apply Classical.byContradiction
    intro n
    have : 141423 * 141423 ≤ q.2.1 * q.2.1 := Int.mul_le_mul (by omega) (by omega) (by omega) (by omega)
    omega
/-- a POINT's code, in the class -/
theorem codeX {N : Nat} (hc : CVc a b M E) {p : Nat} (hp : p ∈ opr) {σ : aSt} (hx : XC a b M E σ) (h : TKN p a b σ) {x : Int} (hx1 : pnt a b M E x) : f_X_codeBy N (iZ x) σ = some (iZ (cdE (rdX a b M E p x))) := by
  have hb := opr_bd p hp
  have hl := hL_le (a := a) (b := b) (M := M) (E := E)
  obtain ⟨hab, hb0, hM1, hM, hE1, hE⟩ := CVc_CV hc
  unfold f_X_codeBy rdX
  rcases hx1 with c | c
  · subst c
    rw [if_neg (fun z => z rfl), if_pos rfl]; rfl
  · rw [if_pos (by rw [ne_eq, show (1000 : Int32) = iZ 1000 from rfl, iZ_eq ⟨by omega, by omega⟩ (bd_lit _ rfl)]; omega), if_neg (by omega)]
    obtain ⟨i, hi⟩ : ∃ i : Nat, x = i := ⟨x.toNat, by omega⟩
    subst hi
    have hg := gp_get (a := a) (b := b) (M := M) (E := E) c.1 c.2
    rw [Int.toNat_natCast] at hg
    have hgX := (hL_get hg).1
    have hq := hL_pt hg
    obtain ⟨q, hqq⟩ : ∃ q, q = gp a b M E (i : Int) := ⟨_, rfl⟩
    rw [← hqq] at hgX hq ⊢
    have bm := isPt_m hM hq
    have be := isPt_e hE hq
    have bn := pt_n hc hq
    have := bm.1; have := bm.2; have := be.1; have := be.2; have := bn.1; have := bn.2
    rw [m11 hx.1 hgX, n11 hx.1 hgX, e11 hx.1 hgX]
    unfold f_PrimeGroup_codeOf rdP
    have eb := em_bd q.2.2 (p := p) (by omega)
    rw [i2j (z := q.2.2) ⟨by omega, by omega⟩, pg_res (p := p) ⟨by omega, by omega⟩ (by omega) (by omega) h.1, Option.bind_some]
    have cz : (iZ (q.2.2 % p) ≠ 0) = ¬ (q.2.2 % p = 0) := by rw [ne_eq, show (0 : Int32) = iZ 0 from rfl, iZ_eq ⟨by omega, by omega⟩ (bd_lit _ rfl)]
    simp only [cz]
    by_cases d : q.2.2 % (p : Int) = 0
    · rw [if_neg (fun z => z d), if_pos d]; rfl
    · rw [if_pos d, if_neg d, pick36 hp h (by omega) (by omega)]
      have ib := ivP_bd (p := p) (by omega) (q.2.2 % p)
      have bv : bd 97 (ivP p (q.2.2 % p)) := ⟨by omega, by omega⟩
      have b1 : bd 9223372036854775807 (q.1 * ivP p (q.2.2 % p) * ivP p (q.2.2 % p)) := bd_mono (bd_mul (bd_mul bm bv) bv) (by decide)
      have b2 : bd 9223372036854775807 (q.2.1 * ivP p (q.2.2 % p) * ivP p (q.2.2 % p) * ivP p (q.2.2 % p)) := bd_mono (bd_mul (bd_mul (bd_mul bn bv) bv) bv) (by decide)
      rw [i2j (z := q.1) ⟨by omega, by omega⟩, i2j (z := q.2.1) ⟨by omega, by omega⟩, i2j (z := ivP p (q.2.2 % p)) ⟨by omega, by omega⟩, jZ_mul, jZ_mul, jZ_mul, jZ_mul, jZ_mul, pg_res (p := p) b1 (by omega) (by omega) h.1, Option.bind_some, pg_res (p := p) b2 (by omega) (by omega) h.1, Option.bind_some, Option.bind_some, show (128 : Int32) = iZ 128 from rfl, iZ_mul, iZ_add]
      rfl
/-- .. in the reference -/
theorem starts_ok {N : Nat} (hc : CVc a b M E) (hN : 10000 ≤ N) {p : Nat} (hp : p ∈ opr) {τ : aSt} (hm : MC a b M E τ) {x : Int} (hx1 : pnt a b M E x) : ∃ τ', f_M_starts N (iZ x) (iZ p) τ = some τ' ∧ MSt (rdX a b M E p x) τ' ∧ fr frSt τ τ' := by
  have hb := opr_bd p hp
  have hl := hL_le (a := a) (b := b) (M := M) (E := E)
  obtain ⟨hab, hb0, hM1, hM, hE1, hE⟩ := CVc_CV hc
  unfold f_M_starts rdX f_M_starts_b11 f_M_starts_b14
  rcases hx1 with c | c
  · subst c
    rw [if_pos (c := iZ 1000 = (1000 : Int32)) rfl, if_pos rfl, if_pos rfl]
    exact ⟨_, rfl, sb_eq _ _ _ _, fr_sb rfl⟩
  · rw [if_neg (by rw [show (1000 : Int32) = iZ 1000 from rfl, iZ_eq ⟨by omega, by omega⟩ (bd_lit _ rfl)]; omega), if_neg (show ¬ x = 1000 by omega)]
    obtain ⟨i, hi⟩ : ∃ i : Nat, x = i := ⟨x.toNat, by omega⟩
    subst hi
    have hg := gp_get (a := a) (b := b) (M := M) (E := E) c.1 c.2
    rw [Int.toNat_natCast] at hg
    have hq := hL_pt hg
    obtain ⟨q, hqq⟩ : ∃ q, q = gp a b M E (i : Int) := ⟨_, rfl⟩
    rw [← hqq] at hg hq ⊢
    have bm := isPt_m hM hq
    have be := isPt_e hE hq
    have bn := pt_n hc hq
    have h1 := hq.2.1
    have := bm.1; have := bm.2; have := be.1; have := be.2; have := bn.1; have := bn.2
    obtain ⟨l1, l2, l3⟩ := hm.1.2.2 i q hg
    have ci : 0 ≤ iZ (i : Int) ∧ iZ (i : Int) < (120 : Int32) := by
      rw [show (0 : Int32) = iZ 0 from rfl, show (120 : Int32) = iZ 120 from rfl, iZ_le (bd_lit _ rfl) ⟨by omega, by omega⟩, iZ_lt ⟨by omega, by omega⟩ (bd_lit _ rfl)]; omega
    have p0 : ¬ (iZ (p : Int) = 0) := by rw [show (0 : Int32) = iZ 0 from rfl, iZ_eq ⟨by omega, by omega⟩ (bd_lit _ rfl)]; omega
    have p1 : ¬ (jZ (p : Int) = 0) := by rw [show (0 : Int64) = jZ 0 from rfl, jZ_eq ⟨by omega, by omega⟩ (bd_lit _ rfl)]; omega
    rw [if_pos ci, if_pos p0, iZ_idx (by omega) (by omega), Int.toNat_natCast, l1, l2, l3, irem_nn (by omega) (by omega) (by omega) (by omega)]
    have eb := em_bd q.2.2 (p := p) (by omega)
    have cz : (iZ (q.2.2 % p) ≠ 0) = ¬ (q.2.2 % p = 0) := by rw [ne_eq, show (0 : Int32) = iZ 0 from rfl, iZ_eq ⟨by omega, by omega⟩ (bd_lit _ rfl)]
    simp only [cz]
    unfold rdP
    by_cases d : q.2.2 % (p : Int) = 0
    · rw [if_neg (fun z => z d), if_pos d, if_pos (c := True) trivial]
      exact ⟨_, rfl, sb_eq _ _ _ _, fr_sb rfl⟩
    · rw [if_pos d, if_neg d, if_neg ff_tt, if_pos ci, if_pos p0, power_ok hN hp eb.1 eb.2, Option.bind_some]
      have ib := ivP_bd (p := p) (by omega) (q.2.2 % p)
      obtain ⟨v, hv⟩ : ∃ v, v = ivP p (q.2.2 % p) := ⟨_, rfl⟩
      rw [← hv] at ib ⊢
      have e1 := em_bd q.1 (p := p) (by omega)
      have e2 := em_bd q.2.1 (p := p) (by omega)
      have m1 := mul_bd (x := q.1 % p) (y := v) (A := 97) (B := 97) ⟨by omega, by omega⟩ ⟨by omega, by omega⟩
      have e3 := em_bd (q.1 % p * v) (p := p) (by omega)
      have m2 := mul_bd (x := q.1 % p * v % p) (y := v) (A := 97) (B := 97) ⟨by omega, by omega⟩ ⟨by omega, by omega⟩
      have m3 := mul_bd (x := q.2.1 % p) (y := v) (A := 97) (B := 97) ⟨by omega, by omega⟩ ⟨by omega, by omega⟩
      have e4 := em_bd (q.2.1 % p * v) (p := p) (by omega)
      have m4 := mul_bd (x := q.2.1 % p * v % p) (y := v) (A := 97) (B := 97) ⟨by omega, by omega⟩ ⟨by omega, by omega⟩
      have e5 := em_bd (q.2.1 % p * v % p * v) (p := p) (by omega)
      have m5 := mul_bd (x := q.2.1 % p * v % p * v % p) (y := v) (A := 97) (B := 97) ⟨by omega, by omega⟩ ⟨by omega, by omega⟩
      rw [i2j (z := q.1) ⟨by omega, by omega⟩, i2j (z := (p : Int)) ⟨by omega, by omega⟩, mod_ok ⟨by omega, by omega⟩ (by omega) (by omega), Option.bind_some, if_pos p1, mod_ok (z := q.2.1) ⟨by omega, by omega⟩ (by omega) (by omega), i2j (z := q.1 % p) ⟨by omega, by omega⟩, i2j (z := v) ⟨by omega, by omega⟩, jZ_mul, jZ_rem ⟨by omega, by omega⟩ ⟨by omega, by omega⟩, Int.tmod_eq_emod_of_nonneg m1.1, jZ_mul, mod_ok ⟨by omega, by omega⟩ (by omega) (by omega), Option.bind_some, Option.bind_some, i2j (z := q.2.1 % p) ⟨by omega, by omega⟩, jZ_mul, jZ_rem ⟨by omega, by omega⟩ ⟨by omega, by omega⟩, Int.tmod_eq_emod_of_nonneg m3.1, jZ_mul, jZ_rem ⟨by omega, by omega⟩ ⟨by omega, by omega⟩, Int.tmod_eq_emod_of_nonneg m4.1, jZ_mul, mod_ok ⟨by omega, by omega⟩ (by omega) (by omega), Option.bind_some]
      have f1 : (q.1 % p * v % p * v) % p = (q.1 * v * v) % p := em_of (d_eq (y := v * (q.1 % p * v % p - q.1 % p * v) + (v * v) * (q.1 % p - q.1)) (by grind) (Int.dvd_add (d_mul (d_em _ _)) (d_mul (d_em _ _))))
      have f2 : (q.2.1 % p * v % p * v % p * v) % p = (q.2.1 * v * v * v) % p := em_of (d_eq (y := v * (q.2.1 % p * v % p * v % p - q.2.1 % p * v % p * v) + (v * v) * (q.2.1 % p * v % p - q.2.1 % p * v) + (v * v * v) * (q.2.1 % p - q.2.1)) (by grind) (Int.dvd_add (Int.dvd_add (d_mul (d_em _ _)) (d_mul (d_em _ _))) (d_mul (d_em _ _))))
      rw [f1, f2]
      exact ⟨_, rfl, ⟨rfl, by rw [si_ne (Or.inr (by decide))]; exact si_eq _ _ _ _, si_eq _ _ _ _⟩, fr_trans (fr_trans (fr_sb rfl) (fr_si rfl)) (fr_si rfl)⟩
end BYC
