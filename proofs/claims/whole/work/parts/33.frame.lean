/-! FRAMES: what a call leaves as it was -/
def fr (S : Nat → Nat → Bool) (σ σ' : aSt) : Prop := ∀ o k, S o k = false → σ'.1 o k = σ.1 o k ∧ σ'.2.1 o k = σ.2.1 o k ∧ σ'.2.2 o k = σ.2.2 o k
theorem fr_refl (S : Nat → Nat → Bool) (σ : aSt) : fr S σ σ := fun _ _ _ => ⟨rfl, rfl, rfl⟩
theorem fr_trans {S : Nat → Nat → Bool} {σ σ' σ'' : aSt} (h : fr S σ σ') (h' : fr S σ' σ'') : fr S σ σ'' := fun o k q => by
  obtain ⟨a, b, c⟩ := h o k q
  obtain ⟨a', b', c'⟩ := h' o k q
  exact ⟨a'.trans a, b'.trans b, c'.trans c⟩
theorem fr_mono {S T : Nat → Nat → Bool} {σ σ' : aSt} (h : fr S σ σ') (hST : ∀ o k, T o k = false → S o k = false) : fr T σ σ' := fun o k q => h o k (hST o k q)
theorem beqN {a b : Nat} (h : a ≠ b) : Nat.beq a b = false := by
  cases q : Nat.beq a b with
  | false => rfl
  | true => exact absurd (Nat.eq_of_beq_eq_true q) h
theorem beqS (a : Nat) : Nat.beq a a = true := Nat.beq_refl a
theorem si_eq (σ : aSt) (o k : Nat) (v : Int32) : (s_i σ o k v).1 o k = v := by
  show cond (Nat.beq o o) (cond (Nat.beq k k) v (σ.1 o k)) (σ.1 o k) = v
  rw [beqS, beqS]; rfl
theorem si_ne {σ : aSt} {o k a b : Nat} {v : Int32} (h : a ≠ o ∨ b ≠ k) : (s_i σ o k v).1 a b = σ.1 a b := by
  show cond (Nat.beq a o) (cond (Nat.beq b k) v (σ.1 a b)) (σ.1 a b) = σ.1 a b
  rcases h with h | h
  · rw [beqN h]; rfl
  · rw [beqN h]; cases Nat.beq a o <;> rfl
theorem sl_eq (σ : aSt) (o k : Nat) (v : Int64) : (s_l σ o k v).2.1 o k = v := by
  show cond (Nat.beq o o) (cond (Nat.beq k k) v (σ.2.1 o k)) (σ.2.1 o k) = v
  rw [beqS, beqS]; rfl
theorem sl_ne {σ : aSt} {o k a b : Nat} {v : Int64} (h : a ≠ o ∨ b ≠ k) : (s_l σ o k v).2.1 a b = σ.2.1 a b := by
  show cond (Nat.beq a o) (cond (Nat.beq b k) v (σ.2.1 a b)) (σ.2.1 a b) = σ.2.1 a b
  rcases h with h | h
  · rw [beqN h]; rfl
  · rw [beqN h]; cases Nat.beq a o <;> rfl
theorem sb_eq (σ : aSt) (o k : Nat) (v : Bool) : (s_b σ o k v).2.2 o k = v := by
  show cond (Nat.beq o o) (cond (Nat.beq k k) v (σ.2.2 o k)) (σ.2.2 o k) = v
  rw [beqS, beqS]; rfl
theorem sb_ne {σ : aSt} {o k a b : Nat} {v : Bool} (h : a ≠ o ∨ b ≠ k) : (s_b σ o k v).2.2 a b = σ.2.2 a b := by
  show cond (Nat.beq a o) (cond (Nat.beq b k) v (σ.2.2 a b)) (σ.2.2 a b) = σ.2.2 a b
  rcases h with h | h
  · rw [beqN h]; rfl
  · rw [beqN h]; cases Nat.beq a o <;> rfl
theorem fr_ne {S : Nat → Nat → Bool} {o k a b : Nat} (h : S o k = true) (q : S a b = false) : a ≠ o ∨ b ≠ k := by
  by_cases e : a = o
  · refine Or.inr (fun e2 => ?_)
    subst e; subst e2
    rw [h] at q; cases q
  · exact Or.inl e
theorem fr_si {S : Nat → Nat → Bool} {σ : aSt} {o k : Nat} {v : Int32} (h : S o k = true) : fr S σ (s_i σ o k v) := fun _ _ q => ⟨si_ne (fr_ne h q), rfl, rfl⟩
theorem fr_sl {S : Nat → Nat → Bool} {σ : aSt} {o k : Nat} {v : Int64} (h : S o k = true) : fr S σ (s_l σ o k v) := fun _ _ q => ⟨rfl, sl_ne (fr_ne h q), rfl⟩
theorem fr_sb {S : Nat → Nat → Bool} {σ : aSt} {o k : Nat} {v : Bool} (h : S o k = true) : fr S σ (s_b σ o k v) := fun _ _ q => ⟨rfl, rfl, sb_ne (fr_ne h q)⟩
theorem fr_store {S : Nat → Nat → Bool} {σ : aSt} {row : Nat} {i v : Int32} (h : ∀ k, S row k = true) : fr S σ (f_store σ row i v) := by
  unfold f_store
  by_cases c : i < 0
  · rw [if_pos c]; exact fr_refl _ _
  · rw [if_neg c]
    by_cases c2 : lenI σ row ≤ i
    · rw [if_pos c2]; exact fr_refl _ _
    · rw [if_neg c2]; exact fr_si (h _)
theorem fr_fill {S : Nat → Nat → Bool} {σ : aSt} {row : Nat} {v : Int32} (h : ∀ k, S row k = true) : fr S σ (f_fill σ row v) := fun a b q => by
  refine ⟨?_, rfl, rfl⟩
  show cond (Nat.beq a row) (if b < oln row then v else σ.1 a b) (σ.1 a b) = σ.1 a b
  have : a ≠ row := fun e => by subst e; rw [h] at q; cases q
  rw [beqN this]; rfl
theorem fill_get {σ : aSt} {row k : Nat} {v : Int32} (h : k < oln row) : (f_fill σ row v).1 row k = v := by
  show cond (Nat.beq row row) (if k < oln row then v else σ.1 row k) (σ.1 row k) = v
  rw [beqS, if_pos h]; rfl
theorem lenI_ne {σ : aSt} {row : Nat} (h : row ≠ 91) : lenI σ row = iZ (oln row) := by
  unfold lenI
  rw [show SCR = 91 from rfl, beqN h, nI_iZ]; rfl
theorem store_in {σ : aSt} {row : Nat} {i : Int} {v : Int32} (hr : row ≠ 91) (hs : oln row < 2147483648) (h0 : 0 ≤ i) (h1 : i < oln row) : f_store σ row (iZ i) v = s_i σ row i.toNat v := by
  unfold f_store
  rw [lenI_ne hr, if_neg (by rw [iZ_lit, iZ_lt ⟨by omega, by omega⟩ (bd_lit 0 rfl)]; omega), if_neg (by rw [iZ_le ⟨by omega, by omega⟩ ⟨by omega, by omega⟩]; omega), iZ_idx h0 (by omega)]
theorem store_out {σ : aSt} {row : Nat} {i : Int} {v : Int32} (hr : row ≠ 91) (hs : oln row < 2147483648) (hi : bd 2147483647 i) (h : i < 0 ∨ oln row ≤ i) : f_store σ row (iZ i) v = σ := by
  unfold f_store
  have := hi.1
  have := hi.2
  rw [lenI_ne hr]
  rcases h with h | h
  · rw [if_pos (by rw [iZ_lit, iZ_lt hi (bd_lit 0 rfl)]; omega)]
  · rw [if_neg (by rw [iZ_lit, iZ_lt hi (bd_lit 0 rfl)]; omega), if_pos (by rw [iZ_le ⟨by omega, by omega⟩ hi]; omega)]
theorem pick_in {σ : aSt} {row : Nat} {i : Int} (hr : row ≠ 91) (hs : oln row < 2147483648) (h0 : 0 ≤ i) (h1 : i < oln row) : f_pick σ row (iZ i) = σ.1 row i.toNat := by
  unfold f_pick
  rw [lenI_ne hr, if_neg (by rw [iZ_lit, iZ_lt ⟨by omega, by omega⟩ (bd_lit 0 rfl)]; omega), if_neg (by rw [iZ_le ⟨by omega, by omega⟩ ⟨by omega, by omega⟩]; omega), iZ_idx h0 (by omega)]
theorem pick_out {σ : aSt} {row : Nat} {i : Int} (hr : row ≠ 91) (hs : oln row < 2147483648) (hi : bd 2147483647 i) (h : i < 0 ∨ oln row ≤ i) : f_pick σ row (iZ i) = 0 := by
  unfold f_pick
  have := hi.1
  have := hi.2
  rw [lenI_ne hr]
  rcases h with h | h
  · rw [if_pos (by rw [iZ_lit, iZ_lt hi (bd_lit 0 rfl)]; omega)]
  · rw [if_neg (by rw [iZ_lit, iZ_lt hi (bd_lit 0 rfl)]; omega), if_pos (by rw [iZ_le ⟨by omega, by omega⟩ hi]; omega)]
theorem fuel {n k : Nat} (h : k + 1 ≤ n) : ∃ j, n = j + 1 ∧ k ≤ j := ⟨n - 1, by omega, by omega⟩
/-! NUMBERS WITHOUT SQUARES -/
/-- no square above 1 goes into it -/
def sqf (d : Nat) : Prop := ∀ k, 2 ≤ k → ¬ k * k ∣ d
/-- f f taken out as often as it goes (fuel) -/
def wsqI (f : Nat) : Nat → Nat → Nat
  | 0, left => left
  | n + 1, left => if left % (f * f) = 0 then wsqI f n (left / (f * f)) else left
/-- .. for all f from one on -/
def wsqO : Nat → Nat → Nat → Nat
  | 0, _, left => left
  | n + 1, f, left => if f * f ≤ left then wsqO n (f + 1) (wsqI f 32 left) else left
def sfp (v : Nat) : Nat := wsqO 100 2 v
theorem wsqI_ok {f : Nat} (hf : 2 ≤ f) : ∀ (n left : Nat), 0 < left → left < 2 ^ n → 0 < wsqI f n left ∧ wsqI f n left ≤ left ∧ ¬ f * f ∣ wsqI f n left ∧ ∃ r, left = wsqI f n left * (r * r) ∧ 0 < r
  | 0, left, h0, h1 => by omega
  | n + 1, left, h0, h1 => by
    rw [wsqI]
    have hff : 2 * 2 ≤ f * f := Nat.mul_le_mul hf hf
    by_cases c : left % (f * f) = 0
    · rw [if_pos c]
      have hd : left / (f * f) * (f * f) = left := Nat.div_mul_cancel (Nat.dvd_of_mod_eq_zero c)
      have hpos : 0 < left / (f * f) := by
        rcases Nat.eq_zero_or_pos (left / (f * f)) with q | q
        · rw [q] at hd; omega
        · exact q
      have h4 : left / (f * f) * 4 ≤ left / (f * f) * (f * f) := Nat.mul_le_mul_left _ hff
      have h2 : 2 ^ (n + 1) = 2 ^ n * 2 := Nat.pow_succ ..
      obtain ⟨a1, a2, a3, r, a4, a5⟩ := wsqI_ok hf n (left / (f * f)) hpos (by omega)
      refine ⟨a1, by omega, a3, r * f, ?_, Nat.mul_pos a5 (by omega)⟩
      have e : r * f * (r * f) = r * r * (f * f) := by grind
      rw [e, ← Nat.mul_assoc, ← a4, hd]
    · rw [if_neg c]
      exact ⟨h0, Nat.le_refl _, fun h => c (Nat.mod_eq_zero_of_dvd h), 1, by omega, by omega⟩
theorem wsqO_ok : ∀ (n f left : Nat), 2 ≤ f → 0 < left → left < 4294967296 → left < (f + n) * (f + n) → (∀ k, 2 ≤ k → k < f → ¬ k * k ∣ left) → 0 < wsqO n f left ∧ wsqO n f left ≤ left ∧ sqf (wsqO n f left) ∧ ∃ r, left = wsqO n f left * (r * r) ∧ 0 < r
  | 0, f, left, hf, h0, h1, h2, h3 => by
    rw [wsqO]
    refine ⟨h0, Nat.le_refl _, fun k hk hd => ?_, 1, by omega, by omega⟩
    rcases Nat.lt_or_ge k f with q | q
    · exact h3 k hk q hd
    · have := Nat.le_of_dvd h0 hd
      have := Nat.mul_le_mul q q
      rw [Nat.add_zero] at h2
      omega
  | n + 1, f, left, hf, h0, h1, h2, h3 => by
    rw [wsqO]
    by_cases c : f * f ≤ left
    · rw [if_pos c]
      obtain ⟨a1, a2, a3, r, a4, a5⟩ := wsqI_ok hf 32 left h0 (by omega)
      have hdv : wsqI f 32 left ∣ left := ⟨r * r, a4⟩
      obtain ⟨b1, b2, b3, t, b4, b5⟩ := wsqO_ok n (f + 1) (wsqI f 32 left) (by omega) a1 (by omega) (by rw [show f + 1 + n = f + (n + 1) from by omega]; omega) (fun k hk hk2 hd => by
        rcases Nat.lt_or_ge k f with q | q
        · exact h3 k hk q (Nat.dvd_trans hd hdv)
        · have : k = f := by omega
          subst this
          exact a3 hd)
      refine ⟨b1, by omega, b3, t * r, ?_, Nat.mul_pos b5 a5⟩
      have e : t * r * (t * r) = t * t * (r * r) := by grind
      rw [e, ← Nat.mul_assoc, ← b4, ← a4]
    · rw [if_neg c]
      refine ⟨h0, Nat.le_refl _, fun k hk hd => ?_, 1, by omega, by omega⟩
      rcases Nat.lt_or_ge k f with q | q
      · exact h3 k hk q hd
      · have := Nat.le_of_dvd h0 hd
        have := Nat.mul_le_mul q q
        omega
theorem sfp_ok {v : Nat} (h0 : 0 < v) (h1 : v < 10000) : 0 < sfp v ∧ sfp v ≤ v ∧ sqf (sfp v) ∧ ∃ r, v = sfp v * (r * r) ∧ 0 < r :=
  wsqO_ok 100 2 v (by omega) h0 (by omega) (by omega) (fun k hk hk2 => by omega)
/-- a number without squares is its own rest -/
theorem sfp_self {v : Nat} (h0 : 0 < v) (h1 : v < 10000) (hs : sqf v) : sfp v = v := by
  obtain ⟨a1, a2, a3, r, a4, a5⟩ := sfp_ok h0 h1
  have hr : r = 1 := by
    rcases Nat.lt_or_ge r 2 with q | q
    · omega
    · exact absurd ⟨sfp v, by rw [Nat.mul_comm]; exact a4⟩ (hs r q)
  subst hr
  omega
theorem sfp_iff {v : Nat} (h0 : 0 < v) (h1 : v < 10000) : sfp v = v ↔ sqf v := ⟨fun h => h ▸ (sfp_ok h0 h1).2.2.1, sfp_self h0 h1⟩
