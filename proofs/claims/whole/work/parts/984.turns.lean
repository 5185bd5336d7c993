/-! CLASSES: turnsRank -/
def inT (a b : Int) (d : Int) : Prop := d ≠ 0 ∧ bd 60 (a * d) ∧ bd 200 (b * d * d)
noncomputable def trK (a b : Int) (k : Nat) : Int := @ite _ (inT a b ((k : Int) - 9)) (Classical.propDecidable _) (rkN (a * ((k : Int) - 9)) (b * ((k : Int) - 9) * ((k : Int) - 9)) 3) (-1)
theorem trK_in {a b : Int} {k : Nat} (h : inT a b ((k : Int) - 9)) : trK a b k = rkN (a * ((k : Int) - 9)) (b * ((k : Int) - 9) * ((k : Int) - 9)) 3 := by
  unfold trK
  exact @if_pos _ (Classical.propDecidable _) h _ _ _
theorem trK_out {a b : Int} {k : Nat} (h : ¬ inT a b ((k : Int) - 9)) : trK a b k = -1 := by
  unfold trK
  exact @if_neg _ (Classical.propDecidable _) h _ _ _
theorem inT_ok {a b d : Int} (hb : b ≠ 0) (hD : a * a - 4 * b ≠ 0) (h : inT a b d) : b * d * d ≠ 0 ∧ a * d * (a * d) - 4 * (b * d * d) ≠ 0 := by
  refine ⟨Int.mul_ne_zero (Int.mul_ne_zero hb h.1) h.1, ?_⟩
  have e : a * d * (a * d) - 4 * (b * d * d) = (a * a - 4 * b) * (d * d) := by grind
  rw [e]
  exact Int.mul_ne_zero hD (Int.mul_ne_zero h.1 h.1)
theorem rkN_bd {a b : Int} (v0 : VC a b) (v1 : VC (-2 * a) (a * a - 4 * b)) (w : Nat) : 0 ≤ rkN a b w ∧ rkN a b w ≤ 10 := by
  have q1 := hlv_le (v := kdC a b w) (by have := kdC_le a b w; have := cd_len v0; omega)
  have q2 := hlv_le (v := kdC (-2 * a) (a * a - 4 * b) w) (by have := kdC_le (-2 * a) (a * a - 4 * b) w; have := cd_len v1; omega)
  unfold rkN
  omega
theorem trK_bd {a b : Int} (hb : b ≠ 0) (hD : a * a - 4 * b ≠ 0) (k : Nat) : -1 ≤ trK a b k ∧ trK a b k ≤ 10 := by
  by_cases h : inT a b ((k : Int) - 9)
  · rw [trK_in h]
    have o := inT_ok hb hD h
    have := rkN_bd ⟨bd_mono h.2.1 (by decide), bd_mono h.2.2 (by decide), o.1, o.2⟩ (VC_1 h.2.1 h.2.2 o.1 o.2) 3
    omega
  · rw [trK_out h]; omega
def bit19 (P : Nat → Bool) : Nat → Int32
  | 0 => 0
  | n + 1 => if P n = true then bit19 P n ||| ((1 : Int32) <<< ((iZ (n : Int)) &&& 31)) else bit19 P n
theorem bit19_s (P : Nat → Bool) (n : Nat) : bit19 P (n + 1) = if P n = true then bit19 P n ||| ((1 : Int32) <<< ((iZ (n : Int)) &&& 31)) else bit19 P n := rfl
/-- the class keeps the ranks -/
def TR (a b : Int) (σ : aSt) : Prop := σ.2.2 0 15 = true → ∀ k, k < 19 → σ.1 65 k = iZ (trK a b k)
def frTR : Nat → Nat → Bool := fun o k => frX_57 o k || Nat.beq o 65 || (Nat.beq o 0 && Nat.beq k 15)
theorem fr57_TR {σ σ' : aSt} (h : fr frX_57 σ σ') : fr frTR σ σ' := fr_mono h (fun o k q => (Bool.or_eq_false_iff.mp (Bool.or_eq_false_iff.mp q).1).1)
section TRN
variable {a b : Int} {M E : Nat}
theorem fillT {N : Nat} (hc : CVc a b M E) (hN : 10000 ≤ N) : ∀ (j k n : Nat) (σ : aSt), k + j = 19 → j + 1 ≤ n → XC a b M E σ → CM σ → KT_57 σ → (∀ i, i < k → σ.1 65 i = iZ (trK a b i)) → ∃ σ', f_X_fillTurnRanks_l2 N n (iZ (k : Int)) σ = some σ' ∧ (∀ i, i < 19 → σ'.1 65 i = iZ (trK a b i)) ∧ KT_57 σ' ∧ σ'.2.2 0 15 = true ∧ fr frTR σ σ' := by
  have a1 := hc.1.1; have a2 := hc.1.2; have b1 := hc.2.1.1; have b2 := hc.2.1.2
  intro j
  induction j with
  | zero =>
    intro k n σ hk hn hx hM hK h65
    obtain ⟨n, rfl, _⟩ := fuel hn
    rw [f_X_fillTurnRanks_l2, if_pos (by rw [show (19 : Int32) = iZ 19 from rfl, iZ_le (bd_lit _ rfl) ⟨by omega, by omega⟩]; omega)]
    have f1 : fr frTR σ (s_b σ 0 15 true) := fr_sb rfl
    exact ⟨_, rfl, fun i hi => h65 i (by omega), hK, sb_eq _ _ _ _, f1⟩
  | succ j ih =>
    intro k n σ hk hn hx hM hK h65
    obtain ⟨n, rfl, hn'⟩ := fuel hn
    have ed : iZ (k : Int) - (9 : Int32) = iZ ((k : Int) - 9) := by rw [show (9 : Int32) = iZ 9 from rfl, iZ_sub]
    have dB : bd 9 ((k : Int) - 9) := ⟨by omega, by omega⟩
    have adB : bd 540 (a * ((k : Int) - 9)) := bd_mono (bd_mul hc.1 dB) (by decide)
    have bdB : bd 16200 (b * ((k : Int) - 9) * ((k : Int) - 9)) := bd_mono (bd_mul (bd_mul hc.2.1 dB) dB) (by decide)
    rw [f_X_fillTurnRanks_l2, if_neg (by rw [show (19 : Int32) = iZ 19 from rfl, iZ_le (bd_lit _ rfl) ⟨by omega, by omega⟩]; omega), if_pos (by rw [show (0 : Int32) = iZ 0 from rfl, show (19 : Int32) = iZ 19 from rfl, iZ_le (bd_lit _ rfl) ⟨by omega, by omega⟩, iZ_lt ⟨by omega, by omega⟩ (bd_lit _ rfl)]; omega), ed, iZ_idx (by omega) (by omega), Int.toNat_natCast, i1, show f_PointList_a_11 σ = iZ a from hx.2.1, show f_PointList_b_11 σ = iZ b from hx.2.2.1, iZ_mul, iZ_mul, iZ_mul, inBounds_Z (bd_mono adB (by decide)) (bd_mono bdB (by decide)), ite_dec]
    have c0 : (iZ ((k : Int) - 9) = 0) = ((k : Int) - 9 = 0) := by rw [show (0 : Int32) = iZ 0 from rfl, iZ_eq ⟨by omega, by omega⟩ (bd_lit _ rfl)]
    simp only [c0]
    have next : ∀ (σ1 : aSt) (v : Int32), XC a b M E σ1 → CM σ1 → KT_57 σ1 → fr frTR σ σ1 → (∀ i, i < k → σ1.1 65 i = iZ (trK a b i)) → v = iZ (trK a b k) → ∃ σ', f_X_fillTurnRanks_l2 N n (iZ ((k + 1 : Nat) : Int)) (s_i σ1 65 k v) = some σ' ∧ (∀ i, i < 19 → σ'.1 65 i = iZ (trK a b i)) ∧ KT_57 σ' ∧ σ'.2.2 0 15 = true ∧ fr frTR σ σ' := fun σ1 v hx1 hM1 hK1 hf1 h1 hv => by
      have f2 : fr frTR σ1 (s_i σ1 65 k v) := fr_si rfl
      have f3 : fr (fun o _ => Nat.beq o 65) σ1 (s_i σ1 65 k v) := fr_si rfl
      obtain ⟨σ', g1, g2, g3, g4, g5⟩ := ih (k + 1) n (s_i σ1 65 k v) (by omega) hn' (XC_fr f3 (fun _ => ⟨rfl, rfl, rfl, rfl, rfl⟩) hx1) (CM_fr f3 (fun _ => rfl) (fun _ => rfl) (fun _ => rfl) hM1) (KT_57_fr f3 rfl rfl rfl (fun _ => rfl) (fun _ => rfl) (fun _ => rfl) (fun _ => rfl) (fun _ => rfl) (fun _ => rfl) (fun _ => rfl) hK1) (fun i hi => by
        by_cases e : i = k
        · subst e; rw [si_eq]; exact hv
        · rw [si_ne (Or.inr e)]; exact h1 i (by omega))
      exact ⟨σ', g1, g2, g3, g4, fr_trans hf1 (fr_trans f2 g5)⟩
    by_cases d0 : (k : Int) - 9 = 0
    · rw [if_pos d0]
      exact next σ _ hx hM hK (fr_refl _ _) h65 (by rw [trK_out (fun z => z.1 d0)]; decide)
    · rw [if_neg d0]
      by_cases d1 : (-60 ≤ a * ((k : Int) - 9) ∧ a * ((k : Int) - 9) ≤ 60) ∧ -200 ≤ b * ((k : Int) - 9) * ((k : Int) - 9) ∧ b * ((k : Int) - 9) * ((k : Int) - 9) ≤ 200
      · rw [if_pos d1]
        have hi : inT a b ((k : Int) - 9) := ⟨d0, d1.1, d1.2⟩
        have o := inT_ok hc.2.2.1 hc.2.2.2.1 hi
        have ht := trK_in hi
        have d1 : bd 60 (a * ((k : Int) - 9)) ∧ bd 200 (b * ((k : Int) - 9) * ((k : Int) - 9)) := d1
        generalize a * ((k : Int) - 9) = x at o d1 ht adB
        generalize b * ((k : Int) - 9) * ((k : Int) - 9) = y at o d1 ht bdB
        have v0 : VC x y := ⟨bd_mono d1.1 (by decide), bd_mono d1.2 (by decide), o.1, o.2⟩
        have v1 := VC_1 d1.1 d1.2 o.1 o.2
        have f3 : fr (fun o _ => Nat.beq o 65) σ (s_i σ 65 k (-1 : Int32)) := fr_si rfl
        have f3' : fr frTR σ (s_i σ 65 k (-1 : Int32)) := fr_si rfl
        have hM3 : CM (s_i σ 65 k (-1 : Int32)) := CM_fr f3 (fun _ => rfl) (fun _ => rfl) (fun _ => rfl) hM
        obtain ⟨σ1, g1, g2, g3⟩ := prep_57 hN v0 hM3 (KT_57_fr f3 rfl rfl rfl (fun _ => rfl) (fun _ => rfl) (fun _ => rfl) (fun _ => rfl) (fun _ => rfl) (fun _ => rfl) (fun _ => rfl) hK)
        have hM4 : CM σ1 := CM_fr g3 (fun _ => rfl) (fun _ => rfl) (fun _ => rfl) hM3
        obtain ⟨σ2, k1, k2, k3⟩ := prep_57 hN v1 hM4 (Or.inr ⟨_, _, g2⟩)
        have eA : (-2 : Int32) * iZ x = iZ (-2 * x) := by rw [show (-2 : Int32) = iZ (-2) from by decide, iZ_mul]
        have eB : iZ x * iZ x - (4 : Int32) * iZ y = iZ (x * x - 4 * y) := by rw [show (4 : Int32) = iZ 4 from rfl, iZ_mul, iZ_mul, iZ_sub]
        have f4 := fr_trans g3 k3
        rw [g1, Option.bind_some, eA]
        first | rw [eB] | rw [show iZ (x * x) - (4 : Int32) * iZ y = iZ (x * x - 4 * y) from by rw [show (4 : Int32) = iZ 4 from rfl, iZ_mul, iZ_sub]]
        rw [k1, Option.bind_some]
        refine next σ2 _ (XC_fr f4 (fun _ => ⟨rfl, rfl, rfl, rfl, rfl⟩) (XC_fr f3 (fun _ => ⟨rfl, rfl, rfl, rfl, rfl⟩) hx)) (CM_fr k3 (fun _ => rfl) (fun _ => rfl) (fun _ => rfl) hM4) (Or.inr ⟨_, _, k2⟩) (fr_trans f3' (fr57_TR f4)) (fun i hi => ?_) ?_
        · rw [(f4 65 i rfl).1, si_ne (Or.inr (by omega))]; exact h65 i hi
        · rw [ht]
          have q1 := hlv_le (v := kdC x y 3) (by have := kdC_le x y 3; have := cd_len v0; omega)
          have q2 := hlv_le (v := kdC (-2 * x) (x * x - 4 * y) 3) (by have := kdC_le (-2 * x) (x * x - 4 * y) 3; have := cd_len v1; omega)
          rw [show (3 : Int32) = iZ ((3 : Nat) : Int) from rfl, hlv_57 g2 (by omega), hlv_57 k2 (by omega), show (0 : Int32) = iZ 0 from rfl, show (2 : Int32) = iZ 2 from rfl, iZ_add, iZ_sub, imax_Z (bd_lit _ rfl) ⟨by omega, by omega⟩]
          rfl
      · rw [if_neg d1]
        exact next σ _ hx hM hK (fr_refl _ _) h65 (by rw [trK_out (fun z => d1 z.2)]; decide)
theorem xbits {N : Nat} (hc : CVc a b M E) {p : Int32} {σ : aSt} (h65 : ∀ i, i < 19 → σ.1 65 i = iZ (trK a b i)) : ∀ (j k n : Nat), k + j = 19 → j + 1 ≤ n → f_X_turnsRank_l19 N n p (bit19 (fun i => decide (p.toInt ≤ trK a b i)) k) (iZ (k : Int)) σ = some (bit19 (fun i => decide (p.toInt ≤ trK a b i)) 19, σ) := by
  intro j
  induction j with
  | zero =>
    intro k n hk hn
    obtain ⟨n, rfl, _⟩ := fuel hn
    have e : k = 19 := by omega
    subst e
    rw [f_X_turnsRank_l19, if_pos (by decide)]
  | succ j ih =>
    intro k n hk hn
    obtain ⟨n, rfl, hn'⟩ := fuel hn
    have tb := trK_bd hc.2.2.1 hc.2.2.2.1 k
    rw [f_X_turnsRank_l19, if_neg (by rw [show (19 : Int32) = iZ 19 from rfl, iZ_le (bd_lit _ rfl) ⟨by omega, by omega⟩]; omega), if_pos (by rw [show (0 : Int32) = iZ 0 from rfl, show (19 : Int32) = iZ 19 from rfl, iZ_le (bd_lit _ rfl) ⟨by omega, by omega⟩, iZ_lt ⟨by omega, by omega⟩ (bd_lit _ rfl)]; omega), iZ_idx (by omega) (by omega), Int.toNat_natCast, h65 k (by omega), i1]
    have c : (iZ (trK a b k) < p) = (trK a b k < p.toInt) := pl_gt ⟨by omega, by omega⟩
    simp only [c]
    have nx := ih (k + 1) n (by omega) hn'
    rw [bit19_s] at nx
    by_cases d : trK a b k < p.toInt
    · rw [if_pos d]
      rw [if_neg (show ¬ decide (p.toInt ≤ trK a b k) = true by rw [decide_eq_true_eq]; omega)] at nx
      exact nx
    · rw [if_neg d]
      rw [if_pos (show decide (p.toInt ≤ trK a b k) = true by rw [decide_eq_true_eq]; omega)] at nx
      exact nx
def rst (v2 v3 : Int32) (τ : aSt) : aSt := s_i (s_i τ 66 2 v2) 66 3 v3
theorem rst_fr {v2 v3 : Int32} {τ υ : aSt} (h : ∀ o k, frSi o k = false → (¬ (o = 66 ∧ (k = 2 ∨ k = 3)) → υ.1 o k = τ.1 o k) ∧ υ.2.1 o k = τ.2.1 o k ∧ υ.2.2 o k = τ.2.2 o k) : fr frSi (rst v2 v3 τ) (rst v2 v3 υ) := fun o k q => by
  obtain ⟨h1, h2, h3⟩ := h o k q
  refine ⟨?_, h2, h3⟩
  unfold rst
  by_cases c3 : o = 66 ∧ k = 3
  · obtain ⟨e1, e2⟩ := c3
    subst e1; subst e2
    rw [si_eq, si_eq]
  · have n3 : o ≠ 66 ∨ k ≠ 3 := by omega
    rw [si_ne n3, si_ne n3]
    by_cases c2 : o = 66 ∧ k = 2
    · obtain ⟨e1, e2⟩ := c2
      subst e1; subst e2
      rw [si_eq, si_eq]
    · have n2 : o ≠ 66 ∨ k ≠ 2 := by omega
      rw [si_ne n2, si_ne n2]
      exact h1 (by omega)
theorem mbits {N : Nat} (hc : CVc a b M E) (hN : 10000 ≤ N) {p : Int32} (hp : 0 ≤ p.toInt) {τ0 : aSt} : ∀ (j k n : Nat) (τ : aSt), k + j = 19 → j + 1 ≤ n → τ.2.2 66 1 = true → fr frSi τ0 (rst (iZ a) (iZ b) τ) → ∃ τ', f_M_turnsRank_l21 N n p (iZ a) (iZ b) (bit19 (fun i => decide (p.toInt ≤ trK a b i)) k) (iZ ((k : Int) - 9)) τ = some (bit19 (fun i => decide (p.toInt ≤ trK a b i)) 19, τ') ∧ fr frSi τ0 τ' := by
  have a1 := hc.1.1; have a2 := hc.1.2; have b1 := hc.2.1.1; have b2 := hc.2.1.2
  intro j
  induction j with
  | zero =>
    intro k n τ hk hn hr hf
    obtain ⟨n, rfl, _⟩ := fuel hn
    have e : k = 19 := by omega
    subst e
    rw [f_M_turnsRank_l21, if_pos (by decide)]
    exact ⟨_, rfl, hf⟩
  | succ j ih =>
    intro k n τ hk hn hr hf
    obtain ⟨n, rfl, hn'⟩ := fuel hn
    have dB : bd 9 ((k : Int) - 9) := ⟨by omega, by omega⟩
    have adB : bd 540 (a * ((k : Int) - 9)) := bd_mono (bd_mul hc.1 dB) (by decide)
    have bdB : bd 16200 (b * ((k : Int) - 9) * ((k : Int) - 9)) := bd_mono (bd_mul (bd_mul hc.2.1 dB) dB) (by decide)
    have e1 : iZ ((k : Int) - 9) + (1 : Int32) = iZ (((k + 1 : Nat) : Int) - 9) := by rw [show (1 : Int32) = iZ 1 from rfl, iZ_add]; congr 1; omega
    have e9 : (9 : Int32) + iZ ((k : Int) - 9) = iZ (k : Int) := by rw [show (9 : Int32) = iZ 9 from rfl, iZ_add]; congr 1; omega
    have q1 := adB.1; have q2 := adB.2; have q3 := bdB.1; have q4 := bdB.2
    rw [f_M_turnsRank_l21, if_neg (by rw [show (9 : Int32) = iZ 9 from rfl, iZ_lt (bd_lit _ rfl) ⟨by omega, by omega⟩]; omega), e1, e9, i2j (z := a) ⟨by omega, by omega⟩, i2j (z := b) ⟨by omega, by omega⟩, i2j (z := (k : Int) - 9) ⟨by omega, by omega⟩, jZ_mul, jZ_mul, jZ_mul, iZ_mul, iZ_mul, iZ_mul, in_Z, in_Z, jZ_int (bd_mono adB (by decide)), jZ_int (bd_mono bdB (by decide)), ite_dec, ite_dec]
    have c0 : (iZ ((k : Int) - 9) = 0) = ((k : Int) - 9 = 0) := by rw [show (0 : Int32) = iZ 0 from rfl, iZ_eq ⟨by omega, by omega⟩ (bd_lit _ rfl)]
    have t1 : (-60 : Int64).toInt = -60 := by decide
    have t2 : (60 : Int64).toInt = 60 := by decide
    have t3 : (-200 : Int64).toInt = -200 := by decide
    have t4 : (200 : Int64).toInt = 200 := by decide
    rw [t1, t2, t3, t4]
    simp only [c0]
    have nx := fun τ1 => ih (k + 1) n τ1 (by omega) hn'
    rw [bit19_s] at nx
    have out : ¬ inT a b ((k : Int) - 9) → ∃ τ', f_M_turnsRank_l21 N n p (iZ a) (iZ b) (bit19 (fun i => decide (p.toInt ≤ trK a b i)) k) (iZ (((k + 1 : Nat) : Int) - 9)) τ = some (bit19 (fun i => decide (p.toInt ≤ trK a b i)) 19, τ') ∧ fr frSi τ0 τ' := fun ho => by
      have g := nx τ hr hf
      rw [if_neg (show ¬ decide (p.toInt ≤ trK a b k) = true by rw [decide_eq_true_eq, trK_out ho]; omega)] at g
      exact g
    by_cases d0 : (k : Int) - 9 = 0
    · rw [if_pos d0]; exact out (fun z => z.1 d0)
    rw [if_neg d0]
    by_cases d1 : -60 ≤ a * ((k : Int) - 9) ∧ a * ((k : Int) - 9) ≤ 60
    case neg => rw [if_neg d1]; exact out (fun z => d1 z.2.1)
    rw [if_pos d1]
    by_cases d2 : -200 ≤ b * ((k : Int) - 9) * ((k : Int) - 9) ∧ b * ((k : Int) - 9) * ((k : Int) - 9) ≤ 200
    case neg => rw [if_neg d2]; exact out (fun z => d2 z.2.2)
    rw [if_pos d2]
    have hi : inT a b ((k : Int) - 9) := ⟨d0, d1, d2⟩
    have o := inT_ok hc.2.2.1 hc.2.2.2.1 hi
    have ht := trK_in hi
    have rb := rkN_bd ⟨bd_mono hi.2.1 (by decide), bd_mono hi.2.2 (by decide), o.1, o.2⟩ (VC_1 hi.2.1 hi.2.2 o.1 o.2) 3
    obtain ⟨υ, m1, m2⟩ := mrank hN hi.2.1 hi.2.2 o.1 o.2 (τ := s_i (s_i τ 66 2 (iZ (a * ((k : Int) - 9)))) 66 3 (iZ (b * ((k : Int) - 9) * ((k : Int) - 9)))) hr (by rw [si_ne (Or.inr (by decide)), si_eq]) (si_eq _ _ _ _) (p := 0) (by omega)
    have m1' : f_M_rank N (0 : Int32) (s_i (s_i τ 66 2 (iZ (a * ((k : Int) - 9)))) 66 3 (iZ (b * ((k : Int) - 9) * ((k : Int) - 9)))) = some (iZ (rkN (a * ((k : Int) - 9)) (b * ((k : Int) - 9) * ((k : Int) - 9)) 3), υ) := m1
    rw [m1', Option.bind_some]
    have c5 : (iZ (rkN (a * ((k : Int) - 9)) (b * ((k : Int) - 9) * ((k : Int) - 9)) 3) < p) = (trK a b k < p.toInt) := by rw [ht]; exact pl_gt ⟨by omega, by omega⟩
    simp only [c5]
    have hr' : υ.2.2 66 1 = true := by rw [(m2 66 1 rfl).2.2]; exact hr
    have hf' : fr frSi τ0 (rst (iZ a) (iZ b) υ) := fr_trans hf (rst_fr (fun o k q => by
      obtain ⟨w1, w2, w3⟩ := m2 o k q
      refine ⟨fun z => ?_, w2, w3⟩
      rw [w1, si_ne (by omega), si_ne (by omega)]))
    have g := nx υ hr' hf'
    by_cases d : trK a b k < p.toInt
    · rw [if_pos d, Int32.or_zero]
      rw [if_neg (show ¬ decide (p.toInt ≤ trK a b k) = true by rw [decide_eq_true_eq]; omega)] at g
      exact g
    · rw [if_neg d]
      rw [if_pos (show decide (p.toInt ≤ trK a b k) = true by rw [decide_eq_true_eq]; omega)] at g
      exact g
theorem turnsRank_eq {N : Nat} (hc : CVc a b M E) (hN : 10000 ≤ N) {σ τ : aSt} (hx : RX a b M E σ) (hm : RM a b M E τ) (hM : CM σ) (h3 : KT_57 σ) (ht : TR a b σ) (p : Int32) : ∃ r σ' τ', f_X_turnsRank N p σ = some (r, σ') ∧ f_M_turnsRank N p τ = some (r, τ') ∧ KT_57 σ' ∧ TR a b σ' ∧ fr frTR σ σ' ∧ fr frSi τ τ' := by
  unfold f_X_turnsRank f_M_turnsRank
  rw [hx.1, hm.1, if_pos rfl, if_pos rfl, show (0 : Int64) = jZ 0 from rfl, show (9 : Int64) = jZ 9 from rfl, in_p (bd_lit _ rfl) (bd_lit _ rfl), ite_dec]
  have c0 : (p < 0) = (p.toInt < 0) := by rw [show (0 : Int32) = iZ 0 from rfl, pl_lt (bd_lit _ rfl)]
  have c1 : (p ≤ (9 : Int32)) = (p.toInt ≤ 9) := by rw [show (9 : Int32) = iZ 9 from rfl, pl_le (bd_lit _ rfl)]
  simp only [c0, c1]
  by_cases d1 : 0 ≤ p.toInt ∧ p.toInt ≤ 9
  · rw [if_neg (show ¬ p.toInt < 0 by omega), if_pos (show p.toInt ≤ 9 by omega), if_pos d1, hm.2.2.1, hm.2.2.2.1]
    obtain ⟨τ', m1, m2⟩ := mbits (N := N) hc hN (p := p) d1.1 (τ0 := τ) 19 0 N τ (by omega) (by omega) hm.1 (fun o k q => by
      refine ⟨?_, rfl, rfl⟩
      unfold rst
      by_cases c3 : o = 66 ∧ k = 3
      · obtain ⟨e1, e2⟩ := c3
        subst e1; subst e2
        rw [si_eq, hm.2.2.2.1]
      · rw [si_ne (by omega)]
        by_cases c2 : o = 66 ∧ k = 2
        · obtain ⟨e1, e2⟩ := c2
          subst e1; subst e2
          rw [si_eq, hm.2.2.1]
        · rw [si_ne (by omega)])
    have m1' : f_M_turnsRank_l21 N N p (iZ a) (iZ b) (0 : Int32) (-9 : Int32) τ = some (bit19 (fun i => decide (p.toInt ≤ trK a b i)) 19, τ') := m1
    rw [m1']
    unfold f_X_turnsRank_b15
    by_cases d : σ.2.2 0 15 = true
    · rw [if_pos d]
      have g := xbits (N := N) (p := p) hc (ht d) 19 0 N (by omega) (by omega)
      exact ⟨_, σ, τ', g, rfl, h3, ht, fr_refl _ _, m2⟩
    · rw [if_neg d]
      unfold f_X_fillTurnRanks
      obtain ⟨σ', k1, k2, k3, k4, k5⟩ := fillT (N := N) hc hN 19 0 N σ (by omega) (by omega) hx.2 hM h3 (fun i hi => by omega)
      have k1' : f_X_fillTurnRanks_l2 N N (0 : Int32) σ = some σ' := k1
      rw [k1', Option.bind_some]
      have g := xbits (N := N) (p := p) hc k2 19 0 N (by omega) (by omega)
      exact ⟨_, σ', τ', g, rfl, k3, fun _ => k2, k5, m2⟩
  · rw [if_neg d1]
    by_cases d : p.toInt < 0
    · rw [if_pos d]; exact ⟨_, σ, τ, rfl, rfl, h3, ht, fr_refl _ _, fr_refl _ _⟩
    · rw [if_neg d, if_neg (by omega)]; exact ⟨_, σ, τ, rfl, rfl, h3, ht, fr_refl _ _, fr_refl _ _⟩
end TRN
