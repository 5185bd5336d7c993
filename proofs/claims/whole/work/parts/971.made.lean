/-! CLASSES: the reference's table -/
def cdF (b : Nat) : Nat → Nat → List Nat
  | 0, _ => []
  | j + 1, d => if b % d = 0 ∧ freeB d = true then d :: cdF b j (d + 1) else cdF b j (d + 1)
def cdN (b : Nat) : List Nat := cdF b b 1
theorem cdF_s (b j d : Nat) : cdF b (j + 1) d = if b % d = 0 ∧ freeB d = true then d :: cdF b j (d + 1) else cdF b j (d + 1) := rfl
theorem cdF_mem {b : Nat} : ∀ (j d x : Nat), x ∈ cdF b j d ↔ (d ≤ x ∧ x < d + j ∧ b % x = 0 ∧ freeB x = true) := by
  intro j
  induction j with
  | zero => intro d x; exact ⟨fun h => (by cases h), fun h => by omega⟩
  | succ j ih =>
    intro d x
    rw [cdF_s]
    by_cases c : b % d = 0 ∧ freeB d = true
    · rw [if_pos c, List.mem_cons, ih]
      constructor
      · intro h
        rcases h with h | h
        · subst h; exact ⟨Nat.le_refl _, by omega, c.1, c.2⟩
        · exact ⟨by omega, by omega, h.2.2.1, h.2.2.2⟩
      · intro h
        by_cases e : x = d
        · exact Or.inl e
        · exact Or.inr ⟨by omega, by omega, h.2.2.1, h.2.2.2⟩
    · rw [if_neg c, ih]
      constructor
      · intro h; exact ⟨by omega, by omega, h.2.2.1, h.2.2.2⟩
      · intro h
        by_cases e : x = d
        · subst e; exact absurd ⟨h.2.2.1, h.2.2.2⟩ c
        · exact ⟨by omega, by omega, h.2.2.1, h.2.2.2⟩
/-- the k-th CLASS -/
def dvK (L : List Nat) (k : Nat) : Int := if k % 2 = 0 then (L.getD (k / 2) 0 : Int) else -(L.getD (k / 2) 0 : Int)
def MD (L : List Nat) (τ : aSt) : Prop := τ.1 66 46 = iZ ((2 * L.length : Nat) : Int) ∧ L.length ≤ 32 ∧ ∀ k, k < 2 * L.length → τ.1 73 k = iZ (dvK L k)
theorem MD_fr {S : Nat → Nat → Bool} {L : List Nat} {τ τ' : aSt} (hf : fr S τ τ') (h1 : S 66 46 = false) (h2 : ∀ k, S 73 k = false) (h : MD L τ) : MD L τ' := ⟨by rw [(hf 66 46 h1).1]; exact h.1, h.2.1, fun k hk => by rw [(hf 73 k (h2 k)).1]; exact h.2.2 k hk⟩
/-- of two, squares taken out -/
def prd (x y : Int) : Int := x.tdiv (Int.gcd x y : Int) * y.tdiv (Int.gcd x y : Int)
section MAD
variable {L : List Nat} {fd : Nat → Bool}
/-- MADE -/
def bsM (L : List Nat) (fd : Nat → Bool) (S : Nat → Prop) : Prop := ∀ k, k < 2 * L.length → (dvK L k = 1 ∨ fd k = true) → S k
def clM (L : List Nat) (S : Nat → Prop) : Prop := ∀ i j k, i < 2 * L.length → j < 2 * L.length → k < 2 * L.length → S i → S j → dvK L k = prd (dvK L i) (dvK L j) → S k
def Md (L : List Nat) (fd : Nat → Bool) (k : Nat) : Prop := ∀ S : Nat → Prop, bsM L fd S → clM L S → S k
theorem Md_bs : bsM L fd (Md L fd) := fun k hk h S hb _ => hb k hk h
theorem Md_cl : clM L (Md L fd) := fun i j k hi hj hk h1 h2 e S hb hc => hc i j k hi hj hk (h1 S hb hc) (h2 S hb hc) e
def cF (τ : aSt) : Nat → Nat
  | 0 => 0
  | n + 1 => cF τ n + (if τ.2.2 78 n = true then 0 else 1)
theorem cF_out {τ : aSt} {k : Nat} {v : Bool} : ∀ n, n ≤ k → cF (s_b τ 78 k v) n = cF τ n := by
  intro n
  induction n with
  | zero => intro _; rfl
  | succ n ih =>
    intro h
    show cF (s_b τ 78 k v) n + (if (s_b τ 78 k v).2.2 78 n = true then 0 else 1) = cF τ n + (if τ.2.2 78 n = true then 0 else 1)
    rw [ih (by omega), sb_ne (Or.inr (by omega))]
theorem cF_set {τ : aSt} {k : Nat} (h : τ.2.2 78 k = false) : ∀ n, k < n → cF (s_b τ 78 k true) n + 1 = cF τ n := by
  intro n
  induction n with
  | zero => intro h; omega
  | succ n ih =>
    intro hk
    show cF (s_b τ 78 k true) n + (if (s_b τ 78 k true).2.2 78 n = true then 0 else 1) + 1 = cF τ n + (if τ.2.2 78 n = true then 0 else 1)
    by_cases e : n = k
    · subst e
      rw [sb_eq, h, if_pos rfl, if_neg ff_tt, cF_out n (Nat.le_refl _)]
    · rw [sb_ne (Or.inr e)]
      have := ih (by omega)
      omega
theorem cF_le (τ : aSt) : ∀ n, cF τ n ≤ n := by
  intro n
  induction n with
  | zero => exact Nat.le_refl _
  | succ n ih =>
    show cF τ n + (if τ.2.2 78 n = true then 0 else 1) ≤ n + 1
    split <;> omega
def fr78 : Nat → Nat → Bool := fun o _ => Nat.beq o 78
/-- while the closure goes on -/
def IM (L : List Nat) (fd : Nat → Bool) (τ : aSt) : Prop := MD L τ ∧ (∀ k, k < 2 * L.length → τ.2.2 78 k = true → Md L fd k) ∧ bsM L fd (fun k => τ.2.2 78 k = true)
def clAt (L : List Nat) (τ : aSt) (i j : Nat) : Prop := τ.2.2 78 i = true → τ.2.2 78 j = true → ∀ k, k < 2 * L.length → dvK L k = prd (dvK L i) (dvK L j) → τ.2.2 78 k = true
/-- all numbers of the list are above 0, unlike, and no more than 4400 -/
def okL (L : List Nat) : Prop := (∀ q ∈ L, 1 ≤ q ∧ q ≤ 4400) ∧ (∀ i j, i < 2 * L.length → j < 2 * L.length → dvK L i = dvK L j → i = j)
theorem dvK_bd (h : okL L) {k : Nat} (hk : k < 2 * L.length) : dvK L k ≠ 0 ∧ bd 4400 (dvK L k) := by
  have hk2 : k / 2 < L.length := by omega
  have hm : L.getD (k / 2) 0 ∈ L := by
    rw [List.getD_eq_getElem?_getD, List.getElem?_eq_getElem hk2]; exact List.getElem_mem hk2
  have := h.1 _ hm
  unfold dvK
  split
  · exact ⟨by omega, ⟨by omega, by omega⟩⟩
  · exact ⟨by omega, ⟨by omega, by omega⟩⟩
theorem classFor_ok {N : Nat} (ho : okL L) {τ : aSt} (h : MD L τ) {z : Int} (hz : bd 100000000 z) : ∀ (j k n : Nat), k + j = 2 * L.length → j + 1 ≤ n → (∃ i, k ≤ i ∧ i < 2 * L.length ∧ dvK L i = z ∧ f_M_classFor_l2 N τ n (jZ z) (iZ (k : Int)) = some (iZ (i : Int))) ∨ ((∀ i, k ≤ i → i < 2 * L.length → dvK L i ≠ z) ∧ f_M_classFor_l2 N τ n (jZ z) (iZ (k : Int)) = some (-1 : Int32)) := by
  have hl := h.2.1
  have := hz.1; have := hz.2
  intro j
  induction j with
  | zero =>
    intro k n hk hn
    obtain ⟨n, rfl, _⟩ := fuel hn
    rw [f_M_classFor_l2, h.1, if_pos (by rw [iZ_le ⟨by omega, by omega⟩ ⟨by omega, by omega⟩]; omega)]
    exact Or.inr ⟨fun i h1 h2 => by omega, rfl⟩
  | succ j ih =>
    intro k n hk hn
    obtain ⟨n, rfl, hn'⟩ := fuel hn
    have db := (dvK_bd ho (k := k) (by omega)).2
    have := db.1; have := db.2
    rw [f_M_classFor_l2, h.1, if_neg (by rw [iZ_le ⟨by omega, by omega⟩ ⟨by omega, by omega⟩]; omega), if_pos (by rw [show (0 : Int32) = iZ 0 from rfl, show (64 : Int32) = iZ 64 from rfl, iZ_le (bd_lit _ rfl) ⟨by omega, by omega⟩, iZ_lt ⟨by omega, by omega⟩ (bd_lit _ rfl)]; omega), iZ_idx (by omega) (by omega), Int.toNat_natCast, h.2.2 k (by omega), i2j ⟨by omega, by omega⟩, i1]
    have c : (jZ (dvK L k) ≠ jZ z) = ¬ (dvK L k = z) := by rw [ne_eq, jZ_eq ⟨by omega, by omega⟩ ⟨by omega, by omega⟩]
    simp only [c]
    by_cases e : dvK L k = z
    · rw [if_neg (fun q => q e)]
      exact Or.inl ⟨k, Nat.le_refl _, by omega, e, rfl⟩
    · rw [if_pos e]
      rcases ih (k + 1) n (by omega) hn' with ⟨i, a1, a2, a3, a4⟩ | ⟨a1, a2⟩
      · exact Or.inl ⟨i, by omega, a2, a3, a4⟩
      · refine Or.inr ⟨fun i h1 h2 => ?_, a2⟩
        by_cases q : i = k
        · subst q; exact e
        · exact a1 i (by omega) h2
theorem prd_bd {x y : Int} (hx : bd 4400 x) (hy : bd 4400 y) : bd 100000000 (prd x y) := bd_mono (bd_mul (bd_tdiv _ hx) (bd_tdiv _ hy)) (by decide)
theorem productOf_ok {N : Nat} (hN : 10000 ≤ N) {x y : Int} (hx : bd 4400 x) (hy : bd 4400 y) (h0 : x ≠ 0) : f_M_productOf N (jZ x) (jZ y) = some (jZ (prd x y)) := by
  have := hx.1; have := hx.2; have := hy.1; have := hy.2
  have g0 : Int.gcd x y ≠ 0 := fun z => h0 (Int.gcd_eq_zero_iff.mp z).1
  have gl : (Int.gcd x y : Int) ≤ 4400 := by
    have h1 : Int.gcd x y ∣ x.natAbs := Nat.gcd_dvd_left _ _
    have := Nat.le_of_dvd (by omega) h1
    omega
  unfold f_M_productOf prd
  rw [common_Z hN ⟨by omega, by omega⟩ ⟨by omega, by omega⟩, Option.bind_some, if_pos (by rw [show (0 : Int64) = jZ 0 from rfl, jZ_eq ⟨by omega, by omega⟩ (bd_lit _ rfl)]; omega), jZ_div ⟨by omega, by omega⟩ ⟨by omega, by omega⟩, jZ_div ⟨by omega, by omega⟩ ⟨by omega, by omega⟩, jZ_mul]
/-- one step, and what it leaves -/
def Lft (L : List Nat) (fd : Nat → Bool) (τ τ' : aSt) (v v' : Int32) (P : Prop) : Prop := IM L fd τ' ∧ fr fr78 τ τ' ∧ ((v' = v ∧ τ' = τ ∧ P) ∨ (v' = 1 ∧ cF τ' (2 * L.length) < cF τ (2 * L.length)))
theorem made40 {N : Nat} (hN : 10000 ≤ N) (ho : okL L) {i : Nat} (hi : i < 2 * L.length) {K : Int32 → Int32 → aSt → Option aSt} : ∀ (j k n : Nat) (v : Int32) (τ : aSt), k + j = 2 * L.length → j + 1 ≤ n → IM L fd τ → ∃ v' τ', f_M_laysMade_l40 N K n v (iZ (i : Int)) (iZ (k : Int)) τ = K v' (iZ (i : Int)) τ' ∧ Lft L fd τ τ' v v' (∀ k', k ≤ k' → k' < 2 * L.length → clAt L τ i k') := by
  intro j
  induction j with
  | zero =>
    intro k n v τ hk hn hI
    obtain ⟨n, rfl, _⟩ := fuel hn
    have hl := hI.1.2.1
    rw [f_M_laysMade_l40, hI.1.1, if_pos (by rw [iZ_le ⟨by omega, by omega⟩ ⟨by omega, by omega⟩]; omega)]
    exact ⟨v, τ, rfl, hI, fr_refl _ _, Or.inl ⟨rfl, rfl, fun k' h1 h2 => by omega⟩⟩
  | succ j ih =>
    intro k n v τ hk hn hI
    obtain ⟨n, rfl, hn'⟩ := fuel hn
    have hl := hI.1.2.1
    have ci : 0 ≤ iZ (i : Int) ∧ iZ (i : Int) < (64 : Int32) := by rw [show (0 : Int32) = iZ 0 from rfl, show (64 : Int32) = iZ 64 from rfl, iZ_le (bd_lit _ rfl) ⟨by omega, by omega⟩, iZ_lt ⟨by omega, by omega⟩ (bd_lit _ rfl)]; omega
    have ck : 0 ≤ iZ (k : Int) ∧ iZ (k : Int) < (64 : Int32) := by rw [show (0 : Int32) = iZ 0 from rfl, show (64 : Int32) = iZ 64 from rfl, iZ_le (bd_lit _ rfl) ⟨by omega, by omega⟩, iZ_lt ⟨by omega, by omega⟩ (bd_lit _ rfl)]; omega
    rw [f_M_laysMade_l40, hI.1.1, if_neg (by rw [iZ_le ⟨by omega, by omega⟩ ⟨by omega, by omega⟩]; omega), if_pos ci, if_pos ck, iZ_idx (by omega) (by omega), iZ_idx (by omega) (by omega), Int.toNat_natCast, Int.toNat_natCast, i1]
    have same : clAt L τ i k → ∃ v' τ', f_M_laysMade_l40 N K n v (iZ (i : Int)) (iZ ((k + 1 : Nat) : Int)) τ = K v' (iZ (i : Int)) τ' ∧ Lft L fd τ τ' v v' (∀ k', k ≤ k' → k' < 2 * L.length → clAt L τ i k') := fun hcl => by
      obtain ⟨v', τ', g1, g2, g3, g4⟩ := ih (k + 1) n v τ (by omega) hn' hI
      refine ⟨v', τ', g1, g2, g3, ?_⟩
      rcases g4 with ⟨a1, a2, a3⟩ | a
      · refine Or.inl ⟨a1, a2, fun k' h1 h2 => ?_⟩
        by_cases e : k' = k
        · subst e; exact hcl
        · exact a3 k' (by omega) h2
      · exact Or.inr a
    by_cases m1 : τ.2.2 78 i = true
    · rw [if_pos m1]
      by_cases m2 : τ.2.2 78 k = true
      · rw [if_pos m2]
        have d1 := dvK_bd ho hi
        have d2 := dvK_bd ho (k := k) (by omega)
        have q1 := d1.2.1; have q2 := d1.2.2; have q3 := d2.2.1; have q4 := d2.2.2
        rw [hI.1.2.2 i hi, hI.1.2.2 k (by omega), i2j ⟨by omega, by omega⟩, i2j ⟨by omega, by omega⟩, productOf_ok hN d1.2 d2.2 d1.1, Option.bind_some]
        unfold f_M_classFor
        rcases classFor_ok (N := N) ho hI.1 (prd_bd d1.2 d2.2) (2 * L.length) 0 N (by omega) (by omega) with ⟨r, r1, r2, r3, r4⟩ | ⟨r1, r2⟩
        · have cr : 0 ≤ iZ (r : Int) ∧ iZ (r : Int) < (64 : Int32) := by rw [show (0 : Int32) = iZ 0 from rfl, show (64 : Int32) = iZ 64 from rfl, iZ_le (bd_lit _ rfl) ⟨by omega, by omega⟩, iZ_lt ⟨by omega, by omega⟩ (bd_lit _ rfl)]; omega
          rw [show f_M_classFor_l2 N τ N (jZ (prd (dvK L i) (dvK L k))) (0 : Int32) = some (iZ (r : Int)) from r4, Option.bind_some, if_neg (by rw [show (-1 : Int32) = iZ (-1) from rfl, iZ_eq ⟨by omega, by omega⟩ (bd_lit _ rfl)]; omega), if_pos cr, iZ_idx (by omega) (by omega), Int.toNat_natCast]
          by_cases m3 : τ.2.2 78 r = true
          · rw [if_pos m3]
            refine same (fun _ _ k' hk' e => ?_)
            have : k' = r := ho.2 k' r hk' r2 (by rw [e, r3])
            subst this; exact m3
          · rw [if_neg m3]
            have f1 : fr fr78 τ (s_b τ 78 r true) := fr_sb rfl
            have I1 : IM L fd (s_b τ 78 r true) := by
              refine ⟨MD_fr f1 rfl (fun _ => rfl) hI.1, fun k' hk' hb => ?_, fun k' hk' hb => ?_⟩
              · by_cases e : k' = r
                · subst e
                  exact Md_cl i k k' hi (by omega) hk' (hI.2.1 i hi m1) (hI.2.1 k (by omega) m2) r3
                · rw [sb_ne (Or.inr e)] at hb
                  exact hI.2.1 k' hk' hb
              · show (s_b τ 78 r true).2.2 78 k' = true
                by_cases e : k' = r
                · subst e; exact sb_eq _ _ _ _
                · rw [sb_ne (Or.inr e)]; exact hI.2.2 k' hk' hb
            have cs := cF_set (ft_tt m3) (2 * L.length) r2
            obtain ⟨v', τ', g1, g2, g3, g4⟩ := ih (k + 1) n 1 (s_b τ 78 r true) (by omega) hn' I1
            refine ⟨v', τ', g1, g2, fr_trans f1 g3, Or.inr ?_⟩
            rcases g4 with ⟨a1, a2, a3⟩ | ⟨a1, a2⟩
            · exact ⟨a1, by rw [a2]; omega⟩
            · exact ⟨a1, by omega⟩
        · rw [show f_M_classFor_l2 N τ N (jZ (prd (dvK L i) (dvK L k))) (0 : Int32) = some (-1 : Int32) from r2, Option.bind_some, if_pos rfl]
          exact same (fun _ _ k' hk' e => absurd e (r1 k' (Nat.zero_le _) hk'))
      · rw [if_neg m2]
        exact same (fun _ z => absurd z m2)
    · rw [if_neg m1]
      exact same (fun z => absurd z m1)
theorem made34 {N : Nat} (hN : 10000 ≤ N) (ho : okL L) {K : Int32 → aSt → Option aSt} : ∀ (j i n : Nat) (v : Int32) (τ : aSt), i + j = 2 * L.length → j + 1 ≤ n → IM L fd τ → ∃ v' τ', f_M_laysMade_l34 N K n v (iZ (i : Int)) τ = K v' τ' ∧ Lft L fd τ τ' v v' (∀ i', i ≤ i' → i' < 2 * L.length → ∀ k, k < 2 * L.length → clAt L τ i' k) := by
  intro j
  induction j with
  | zero =>
    intro i n v τ hi hn hI
    obtain ⟨n, rfl, _⟩ := fuel hn
    have hl := hI.1.2.1
    rw [f_M_laysMade_l34, hI.1.1, if_pos (by rw [iZ_le ⟨by omega, by omega⟩ ⟨by omega, by omega⟩]; omega)]
    exact ⟨v, τ, rfl, hI, fr_refl _ _, Or.inl ⟨rfl, rfl, fun i' h1 h2 => by omega⟩⟩
  | succ j ih =>
    intro i n v τ hi hn hI
    obtain ⟨n, rfl, hn'⟩ := fuel hn
    have hl := hI.1.2.1
    rw [f_M_laysMade_l34, hI.1.1, if_neg (by rw [iZ_le ⟨by omega, by omega⟩ ⟨by omega, by omega⟩]; omega)]
    obtain ⟨v1, τ1, g1, g2, g3, g4⟩ := made40 (N := N) hN ho (i := i) (by omega) (K := fun (y14 : Int32) (y15 : Int32) σ16 => f_M_laysMade_l34 N K n y14 (y15 + (1 : Int32)) σ16) (2 * L.length) 0 N v τ (by omega) (by omega) hI
    obtain ⟨v2, τ2, k1, k2, k3, k4⟩ := ih (i + 1) n v1 τ1 (by omega) hn' g2
    refine ⟨v2, τ2, ?_, k2, fr_trans g3 k3, ?_⟩
    · refine Eq.trans g1 ?_
      show f_M_laysMade_l34 N K n v1 (iZ (i : Int) + (1 : Int32)) τ1 = _
      rw [i1]; exact k1
    · rcases g4 with ⟨a1, a2, a3⟩ | ⟨a1, a2⟩
      · subst a2
        rcases k4 with ⟨b1, b2, b3⟩ | ⟨b1, b2⟩
        · refine Or.inl ⟨b1.trans a1, b2, fun i' h1 h2 k hk => ?_⟩
          by_cases e : i' = i
          · subst e; exact a3 k (Nat.zero_le _) hk
          · exact b3 i' (by omega) h2 k hk
        · exact Or.inr ⟨b1, b2⟩
      · rcases k4 with ⟨b1, b2, b3⟩ | ⟨b1, b2⟩
        · exact Or.inr ⟨b1.trans a1, by rw [b2]; exact a2⟩
        · exact Or.inr ⟨b1, by omega⟩
theorem made28 {N : Nat} (hN : 10000 ≤ N) (ho : okL L) : ∀ (c n : Nat) (τ : aSt), cF τ (2 * L.length) ≤ c → c + 3 ≤ n → IM L fd τ → ∃ τ', f_M_laysMade_l28 N n (1 : Int32) τ = some τ' ∧ IM L fd τ' ∧ fr fr78 τ τ' ∧ (∀ i k, i < 2 * L.length → k < 2 * L.length → clAt L τ' i k) := by
  intro c
  induction c with
  | zero =>
    intro n τ hc hn hI
    obtain ⟨n, rfl, hn1⟩ := fuel (k := 2) hn
    have hl := hI.1.2.1
    rw [f_M_laysMade_l28, if_neg (by decide)]
    obtain ⟨v1, τ1, g1, g2, g3, g4⟩ := made34 (N := N) hN ho (K := fun (y17 : Int32) σ18 => f_M_laysMade_l28 N n y17 σ18) (2 * L.length) 0 N 0 τ (by omega) (by omega) hI
    rcases g4 with ⟨a1, a2, a3⟩ | ⟨a1, a2⟩
    · rw [a1, a2] at g1
      obtain ⟨n, rfl, _⟩ := fuel (k := 1) hn1
      refine ⟨τ, Eq.trans g1 ?_, hI, fr_refl _ _, fun i k hi hk => a3 i (Nat.zero_le _) hi k hk⟩
      show f_M_laysMade_l28 N (n + 1) 0 τ = some τ
      rw [f_M_laysMade_l28, if_pos rfl]
    · omega
  | succ c ih =>
    intro n τ hc hn hI
    obtain ⟨n, rfl, hn1⟩ := fuel (k := c + 3) hn
    have hl := hI.1.2.1
    rw [f_M_laysMade_l28, if_neg (by decide)]
    obtain ⟨v1, τ1, g1, g2, g3, g4⟩ := made34 (N := N) hN ho (K := fun (y17 : Int32) σ18 => f_M_laysMade_l28 N n y17 σ18) (2 * L.length) 0 N 0 τ (by omega) (by omega) hI
    rcases g4 with ⟨a1, a2, a3⟩ | ⟨a1, a2⟩
    · rw [a1, a2] at g1
      obtain ⟨n, rfl, _⟩ := fuel (k := c + 2) hn1
      refine ⟨τ, Eq.trans g1 ?_, hI, fr_refl _ _, fun i k hi hk => a3 i (Nat.zero_le _) hi k hk⟩
      show f_M_laysMade_l28 N (n + 1) 0 τ = some τ
      rw [f_M_laysMade_l28, if_pos rfl]
    · subst a1
      obtain ⟨τ', k1, k2, k3, k4⟩ := ih n τ1 (by omega) hn1 g2
      exact ⟨τ', Eq.trans g1 k1, k2, fr_trans g3 k3, k4⟩
theorem made2 {N : Nat} (hN : 10000 ≤ N) (ho : okL L) : ∀ (j k n : Nat) (τ : aSt), k + j = 2 * L.length → j + 1 ≤ n → MD L τ → (∀ i, i < 2 * L.length → τ.2.2 74 i = fd i) → (∀ i, i < k → (τ.2.2 78 i = true ↔ (dvK L i = 1 ∨ fd i = true))) → ∃ τ', f_M_laysMade_l2 N n (iZ (k : Int)) τ = some τ' ∧ fr fr78 τ τ' ∧ (∀ i, i < 2 * L.length → (τ'.2.2 78 i = true ↔ Md L fd i)) := by
  intro j
  induction j with
  | zero =>
    intro k n τ hk hn hM h74 h78
    obtain ⟨n, rfl, _⟩ := fuel hn
    have hl := hM.2.1
    rw [f_M_laysMade_l2, hM.1, if_pos (by rw [iZ_le ⟨by omega, by omega⟩ ⟨by omega, by omega⟩]; omega)]
    have I0 : IM L fd τ := ⟨hM, fun k' hk' h => Md_bs k' hk' ((h78 k' (by omega)).mp h), fun k' hk' h => (h78 k' (by omega)).mpr h⟩
    have := cF_le τ (2 * L.length)
    obtain ⟨τ', g1, g2, g3, g4⟩ := made28 (N := N) hN ho (2 * L.length) N τ (by omega) (by omega) I0
    refine ⟨τ', g1, g3, fun i hi => ⟨g2.2.1 i hi, fun h => ?_⟩⟩
    exact h (fun k => τ'.2.2 78 k = true) g2.2.2 (fun i j k hi hj hk h1 h2 e => g4 i j hi hj h1 h2 k hk e)
  | succ j ih =>
    intro k n τ hk hn hM h74 h78
    obtain ⟨n, rfl, hn'⟩ := fuel hn
    have hl := hM.2.1
    have db := (dvK_bd ho (k := k) (by omega)).2
    have := db.1; have := db.2
    rw [f_M_laysMade_l2, hM.1, if_neg (by rw [iZ_le ⟨by omega, by omega⟩ ⟨by omega, by omega⟩]; omega), if_pos (by rw [show (0 : Int32) = iZ 0 from rfl, show (64 : Int32) = iZ 64 from rfl, iZ_le (bd_lit _ rfl) ⟨by omega, by omega⟩, iZ_lt ⟨by omega, by omega⟩ (bd_lit _ rfl)]; omega), iZ_idx (by omega) (by omega), Int.toNat_natCast, hM.2.2 k (by omega), h74 k (by omega), i1]
    have c : (iZ (dvK L k) = (1 : Int32)) = (dvK L k = 1) := by rw [show (1 : Int32) = iZ 1 from rfl, iZ_eq ⟨by omega, by omega⟩ (bd_lit _ rfl)]
    simp only [c]
    have go : ∀ bb : Bool, (bb = true ↔ (dvK L k = 1 ∨ fd k = true)) → ∃ τ', f_M_laysMade_l2 N n (iZ ((k + 1 : Nat) : Int)) (s_b τ 78 k bb) = some τ' ∧ fr fr78 τ τ' ∧ (∀ i, i < 2 * L.length → (τ'.2.2 78 i = true ↔ Md L fd i)) := fun bb hbb => by
      have f1 : fr fr78 τ (s_b τ 78 k bb) := fr_sb rfl
      obtain ⟨τ', g1, g2, g3⟩ := ih (k + 1) n (s_b τ 78 k bb) (by omega) hn' (MD_fr f1 rfl (fun _ => rfl) hM) (fun i hi => by rw [sb_ne (Or.inl (by decide))]; exact h74 i hi) (fun i hi => by
        by_cases e : i = k
        · subst e; rw [sb_eq]; exact hbb
        · rw [sb_ne (Or.inr e)]; exact h78 i (by omega))
      exact ⟨τ', g1, fr_trans f1 g2, g3⟩
    by_cases d1 : dvK L k = 1
    · rw [if_pos d1]; exact go true ⟨fun _ => Or.inl d1, fun _ => rfl⟩
    · rw [if_neg d1]
      by_cases d2 : fd k = true
      · rw [if_pos d2]; exact go true ⟨fun _ => Or.inr d2, fun _ => rfl⟩
      · rw [if_neg d2]; exact go false ⟨fun z => absurd z ff_tt, fun z => by rcases z with z | z; exact absurd z d1; exact absurd z d2⟩
end MAD
