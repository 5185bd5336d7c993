/-! one token: where it ends, what it counts -/
def kdT (t : Int) : Int := if t < 0 then 0 else if 97 ≤ t ∧ t ≤ 122 then 1 else if 48 ≤ t ∧ t ≤ 57 then 2 else 3
theorem kind_nat : ∀ t : Nat, t < 256 → f_Reader_kindOf (iZ (t : Int)) = iZ (kdT (t : Int)) := by decide +kernel
theorem kind_ok {t : Int} (h : -1 ≤ t ∧ t < 256) : f_Reader_kindOf (iZ t) = iZ (kdT t) := by
  by_cases c : t = -1
  · subst c; rfl
  · obtain ⟨n, rfl⟩ : ∃ n : Nat, t = n := ⟨t.toNat, by omega⟩
    exact kind_nat n (by omega)
theorem kdT_bd (t : Int) : 0 ≤ kdT t ∧ kdT t ≤ 3 := by
  unfold kdT
  split
  · omega
  · split
    · omega
    · split <;> omega
def tkE (T : Nat → Int) (k : Int) : Nat → Nat → Nat
  | 0, e => e
  | j + 1, e => if kdT (T e) = k then tkE T k j (e + 1) else e
def tkV (T : Nat → Int) (k c : Int) : Nat → Nat → Int → Int
  | 0, _, v => v
  | j + 1, e, v => if kdT (T e) = k then tkV T k c j (e + 1) (min c (v * 10 + T e - 48)) else v
def fr156 : Nat → Nat → Bool := fun o k => Nat.beq o 1 && (Nat.beq k 5 || Nat.beq k 6)
theorem word_x {N : Nat} {T : Nat → Int} {n : Nat} (ho : okT T n) {k : Int} (hk : k = 1 ∨ k = 2) : ∀ (j e m : Nat) (v : Int) (σ : aSt), e + j = n → j + 1 ≤ m → XT T n σ → σ.1 1 5 = iZ e → σ.1 1 3 = iZ k → σ.1 1 6 = iZ v → 0 ≤ v → v ≤ 1000000 → ∃ σ', f_Reader_next_l60 N m σ = some σ' ∧ σ'.1 1 5 = iZ (tkE T k j e) ∧ σ'.1 1 6 = iZ (tkV T k 1000000 j e v) ∧ fr fr156 σ σ' := by
  intro j
  induction j with
  | zero =>
    intro e m v σ he hm h h5 h3 h6 v0 v1
    obtain ⟨m, rfl, _⟩ := fuel hm
    have hn := h.2.1
    rw [f_Reader_next_l60, h.1, h5, if_pos (by rw [iZ_le ⟨by omega, by omega⟩ ⟨by omega, by omega⟩]; omega)]
    exact ⟨σ, rfl, h5, h6, fr_refl _ _⟩
  | succ j ih =>
    intro e m v σ he hm h h5 h3 h6 v0 v1
    obtain ⟨m, rfl, hm'⟩ := fuel hm
    have hn := h.2.1
    have hT := ho e (by omega)
    have hb := kdT_bd (T e)
    rw [f_Reader_next_l60, h.1, h5, h3, h6, if_neg (by rw [iZ_le ⟨by omega, by omega⟩ ⟨by omega, by omega⟩]; omega), byteAt_ok h (by omega), tpb_in (by omega), kind_ok ⟨by omega, by omega⟩]
    have c1 : (iZ (kdT (T e)) ≠ iZ k) = (kdT (T e) ≠ k) := by rw [ne_eq, iZ_eq ⟨by omega, by omega⟩ ⟨by omega, by omega⟩]
    simp only [c1]
    unfold tkE tkV
    by_cases c : kdT (T e) = k
    · rw [if_neg (fun h => h c), if_pos c, if_pos c]
      have h48 : 48 ≤ T e := by
        unfold kdT at c
        split at c
        · omega
        · split at c
          · omega
          · split at c
            · omega
            · omega
      have e1 : iZ v * (10 : Int32) + iZ (T e) - (48 : Int32) = iZ (v * 10 + T e - 48) := by
        rw [show (10 : Int32) = iZ 10 from rfl, show (48 : Int32) = iZ 48 from rfl, iZ_mul, iZ_add, iZ_sub]
      have e2 : imin (1000000 : Int32) (iZ (v * 10 + T e - 48)) = iZ (min 1000000 (v * 10 + T e - 48)) := by
        rw [show (1000000 : Int32) = iZ 1000000 from rfl, imin_Z (bd_lit _ rfl) ⟨by omega, by omega⟩]
      have e3 : iZ (e : Int) + (1 : Int32) = iZ ((e + 1 : Nat) : Int) := by rw [iZ_lit, iZ_add]; congr 1
      rw [e1, e2]
      obtain ⟨σ1, hσ1⟩ : ∃ σ1, σ1 = s_i (s_i σ 1 6 (iZ (min 1000000 (v * 10 + T e - 48)))) 1 5 (iZ ((e + 1 : Nat) : Int)) := ⟨_, rfl⟩
      have f1 : fr fr156 σ σ1 := by rw [hσ1]; exact fr_trans (fr_si rfl) (fr_si rfl)
      rw [e3, ← hσ1]
      obtain ⟨σ', g1, g2, g3, g4⟩ := ih (e + 1) m (min 1000000 (v * 10 + T e - 48)) σ1 (by omega) hm' (XT_fr f1 rfl (fun _ => rfl) h) (by rw [hσ1]; rfl) (by rw [(f1 1 3 rfl).1]; exact h3) (by rw [hσ1]; rfl) (by omega) (by omega)
      exact ⟨σ', g1, g2, g3, fr_trans f1 g4⟩
    · rw [if_pos c, if_neg c, if_neg c]
      exact ⟨σ, rfl, h5, h6, fr_refl _ _⟩
/-- the two ways of counting agree as far as they are asked -/
theorem tkV_min {T : Nat → Int} : ∀ (j e : Nat) (v w : Int), 0 ≤ v → v ≤ 1000000 → w = min 99999 v → tkV T 2 99999 j e w = min 99999 (tkV T 2 1000000 j e v) ∧ 0 ≤ tkV T 2 1000000 j e v ∧ tkV T 2 1000000 j e v ≤ 1000000 := by
  intro j
  induction j with
  | zero => intro e v w h0 h1 h; exact ⟨h, h0, h1⟩
  | succ j ih =>
    intro e v w h0 h1 h
    unfold tkV
    by_cases c : kdT (T e) = 2
    · rw [if_pos c, if_pos c]
      have h48 : 48 ≤ T e ∧ T e ≤ 57 := by
        unfold kdT at c
        split at c
        · omega
        · split at c
          · omega
          · split at c
            · omega
            · omega
      exact ih (e + 1) _ _ (by omega) (by omega) (by omega)
    · rw [if_neg c, if_neg c]
      exact ⟨h, h0, h1⟩
