/-! THE WALK over the abstract machine: a configuration comes to its end -/
section GO
variable {C : Nat → List Value → aSt → (Option Value → aSt → Prop) → Prop} {P : Option Value → aSt → Prop} {code : List aMI} {k k' k1 k2 : Nat} {L L' L1 L2 : aLo} {S S' S1 S2 : List Value} {σ σ' σ1 σ2 : aSt}
/-- m steps, then whatever holds there -/
def aRk (C : Nat → List Value → aSt → (Option Value → aSt → Prop) → Prop) (R : Option Value → aSt → Prop) (code : List aMI) (K : Nat → aLo → List Value → aSt → Prop) : Nat → Nat → aLo → List Value → aSt → Prop
  | 0, k, L, S, σ => K k L S σ
  | m + 1, k, L, S, σ => match code[k]? with
    | some q => aStep C R (aRk C R code K m) q k L S σ
    | none => False
theorem aRk_run (n : Nat) : ∀ m : Nat, aRk C P code (aRun C P code n) m = aRun C P code (n + m)
  | 0 => rfl
  | m + 1 => by
    funext k L S σ
    show (match code[k]? with
      | some q => aStep C P (aRk C P code (aRun C P code n) m) q k L S σ
      | none => False) = aRun C P code (n + m + 1) k L S σ
    rw [aRk_run n m]
    rfl
def aGo (C : Nat → List Value → aSt → (Option Value → aSt → Prop) → Prop) (P : Option Value → aSt → Prop) (code : List aMI) (k : Nat) (L : aLo) (S : List Value) (σ : aSt) : Prop := ∃ n, aRun C P code n k L S σ
theorem go_st (m : Nat) (h : ∀ K : Nat → aLo → List Value → aSt → Prop, K k' L' S' σ' → aRk C P code K m k L S σ) (g : aGo C P code k' L' S' σ') : aGo C P code k L S σ := by
  obtain ⟨n, g⟩ := g
  exact ⟨n + m, by rw [← aRk_run]; exact h _ g⟩
theorem go_if {c : Prop} [Decidable c] (m : Nat) (h : ∀ K : Nat → aLo → List Value → aSt → Prop, (if c then K k1 L1 S1 σ1 else K k2 L2 S2 σ2) → aRk C P code K m k L S σ) (g1 : c → aGo C P code k1 L1 S1 σ1) (g2 : ¬ c → aGo C P code k2 L2 S2 σ2) : aGo C P code k L S σ := by
  by_cases hc : c
  · obtain ⟨n, g⟩ := g1 hc
    exact ⟨n + m, by rw [← aRk_run]; exact h _ (by rw [if_pos hc]; exact g)⟩
  · obtain ⟨n, g⟩ := g2 hc
    exact ⟨n + m, by rw [← aRk_run]; exact h _ (by rw [if_neg hc]; exact g)⟩
theorem b2i_01 (b : Bool) : b2i b = 0 ∨ b2i b = 1 := by cases b <;> decide
theorem b2i_nz (b : Bool) : (b2i b != 0) = b := by cases b <;> decide
theorem b2i_z (b : Bool) : b2i b = 0 ↔ b = false := by cases b <;> decide
/-- a branch on a boolean: 'ifeq' -/
theorem go_ifz {b : Bool} (m : Nat) (h : ∀ K : Nat → aLo → List Value → aSt → Prop, (if b2i b = 0 then K k1 L1 S1 σ1 else K k2 L2 S2 σ2) → aRk C P code K m k L S σ) (g1 : ¬ b = true → aGo C P code k1 L1 S1 σ1) (g2 : b = true → aGo C P code k2 L2 S2 σ2) : aGo C P code k L S σ := by
  refine go_if m h (fun hc => g1 ?_) (fun hc => g2 ?_)
  · rw [(b2i_z b).mp hc]; decide
  · cases b with
    | true => rfl
    | false => exact absurd rfl hc
/-- .. and 'ifne' -/
theorem go_ifn {b : Bool} (m : Nat) (h : ∀ K : Nat → aLo → List Value → aSt → Prop, (if b2i b ≠ 0 then K k1 L1 S1 σ1 else K k2 L2 S2 σ2) → aRk C P code K m k L S σ) (g1 : b = true → aGo C P code k1 L1 S1 σ1) (g2 : ¬ b = true → aGo C P code k2 L2 S2 σ2) : aGo C P code k L S σ := by
  refine go_if m h (fun hc => g1 ?_) (fun hc => g2 ?_)
  · cases b with
    | true => rfl
    | false => exact absurd rfl hc
  · intro hb
    rw [hb] at hc
    exact hc (by decide)
theorem lcmp_lt (x y : Int64) : lg_cmp x y < 0 ↔ x < y := by
  unfold lg_cmp
  by_cases h1 : x > y
  · rw [if_pos h1]
    exact ⟨fun h => absurd h (by decide), fun h => absurd h (Int64.not_lt.mpr (Int64.le_of_lt h1))⟩
  · rw [if_neg h1]
    by_cases h2 : x = y
    · rw [if_pos h2, h2]
      exact ⟨fun h => absurd h (by decide), fun h => absurd h (Int64.lt_irrefl)⟩
    · rw [if_neg h2]
      refine ⟨fun _ => ?_, fun _ => by decide⟩
      have h1 : ¬ y < x := h1
      rw [Int64.lt_iff_toInt_lt] at h1 ⊢
      have : x.toInt ≠ y.toInt := fun q => h2 (Int64.toInt_inj.mp q)
      omega
theorem lcmp_gt (x y : Int64) : 0 < lg_cmp x y ↔ y < x := by
  unfold lg_cmp
  by_cases h1 : x > y
  · rw [if_pos h1]
    exact ⟨fun _ => h1, fun _ => by decide⟩
  · rw [if_neg h1]
    by_cases h2 : x = y
    · rw [if_pos h2]
      exact ⟨fun h => absurd h (by decide), fun h => absurd h h1⟩
    · rw [if_neg h2]
      exact ⟨fun h => absurd h (by decide), fun h => absurd h h1⟩
theorem lcmp_ge (x y : Int64) : 0 ≤ lg_cmp x y ↔ y ≤ x := by
  rw [← Int32.not_lt, lcmp_lt, Int64.not_lt]
theorem lcmp_le (x y : Int64) : lg_cmp x y ≤ 0 ↔ x ≤ y := by
  rw [← Int32.not_lt, lcmp_gt, Int64.not_lt]
theorem lcmp_eq (x y : Int64) : lg_cmp x y = 0 ↔ x = y := by
  unfold lg_cmp
  by_cases h1 : x > y
  · rw [if_pos h1]
    exact ⟨fun h => absurd h (by decide), fun h => by rw [h] at h1; exact absurd h1 Int64.lt_irrefl⟩
  · rw [if_neg h1]
    by_cases h2 : x = y
    · rw [if_pos h2]
      exact ⟨fun _ => h2, fun _ => rfl⟩
    · rw [if_neg h2]
      exact ⟨fun h => absurd h (by decide), fun h => absurd h h2⟩
theorem lcmp_ne (x y : Int64) : lg_cmp x y ≠ 0 ↔ x ≠ y := not_congr (lcmp_eq x y)
theorem go_iff {c c' : Prop} [Decidable c] (e : c ↔ c') (m : Nat) (h : ∀ K : Nat → aLo → List Value → aSt → Prop, (if c then K k1 L1 S1 σ1 else K k2 L2 S2 σ2) → aRk C P code K m k L S σ) (g1 : c' → aGo C P code k1 L1 S1 σ1) (g2 : ¬ c' → aGo C P code k2 L2 S2 σ2) : aGo C P code k L S σ :=
  go_if m h (fun hc => g1 (e.mp hc)) (fun hc => g2 (fun q => hc (e.mpr q)))
/-- a call whose answer is known -/
theorem go_call {r : Option Value} {mi : Nat} {vs : List Value} {σc : aSt} (m : Nat) (hc : ∀ P' : Option Value → aSt → Prop, P' r σ1 → C mi vs σc P') (h : ∀ K : Nat → aLo → List Value → aSt → Prop, C mi vs σc (fun r σ1 => K k' L' (r.toList ++ S') σ1) → aRk C P code K m k L S σ) (g : aGo C P code k' L' (r.toList ++ S') σ1) : aGo C P code k L S σ := by
  obtain ⟨n, g⟩ := g
  exact ⟨n + m, by rw [← aRk_run]; exact h _ (hc _ g)⟩
theorem go_ret (m : Nat) (h : ∀ K : Nat → aLo → List Value → aSt → Prop, aRk C P code K m k L S σ) : aGo C P code k L S σ := ⟨0 + m, by rw [← aRk_run]; exact h _⟩
theorem tsw_ex {x : Int32} {Q : Nat → Nat → Prop} {d : Nat} : ∀ (ts : List Nat) (c : Int32), aTsw x (fun t => ∃ n, Q n t) d c ts → ∃ n, aTsw x (fun t => Q n t) d c ts
  | [], _, h => h
  | t :: ts, c, h => by
    unfold aTsw at h
    by_cases hx : x = c
    · rw [if_pos hx] at h
      obtain ⟨n, h⟩ := h
      exact ⟨n, by unfold aTsw; rw [if_pos hx]; exact h⟩
    · rw [if_neg hx] at h
      obtain ⟨n, h⟩ := tsw_ex ts (c + 1) h
      exact ⟨n, by unfold aTsw; rw [if_neg hx]; exact h⟩
theorem go_sw {x c : Int32} {d : Nat} {ts : List Nat} (m : Nat) (h : ∀ K : Nat → aLo → List Value → aSt → Prop, aTsw x (fun t => K t L' S' σ') d c ts → aRk C P code K m k L S σ) (g : aTsw x (fun t => aGo C P code t L' S' σ') d c ts) : aGo C P code k L S σ := by
  obtain ⟨n, g⟩ := tsw_ex ts c g
  exact ⟨n + m, by rw [← aRk_run]; exact h _ g⟩
theorem tsw_cons {x c : Int32} {K : Nat → Prop} {d t : Nat} {ts : List Nat} (h1 : x = c → K t) (h2 : ¬ x = c → aTsw x K d (c + 1) ts) : aTsw x K d c (t :: ts) := by
  unfold aTsw
  by_cases hx : x = c
  · rw [if_pos hx]; exact h1 hx
  · rw [if_neg hx]; exact h2 hx
theorem tsw_nil {x c : Int32} {K : Nat → Prop} {d : Nat} (h : K d) : aTsw x K d c [] := h
end GO
/-- a named value -/
def lt {α β : Type} (a : α) (f : α → β) : β := f a
theorem lt_of {α β : Type} {a : α} {f : α → β} {y : β} (h : lt a f = y) : ∃ x, x = a ∧ f x = y := ⟨a, rfl, h⟩
theorem bind_of {α β : Type} {a : Option α} {f : α → Option β} {y : β} (h : a.bind f = some y) : ∃ x, a = some x ∧ f x = some y := by
  cases a with
  | none => cases h
  | some x => exact ⟨x, rfl, h⟩
theorem ite_of {α : Type} {c : Prop} [Decidable c] {a : Option α} {y : α} (h : (if c then a else none) = some y) : c ∧ a = some y := by
  by_cases hc : c
  · rw [if_pos hc] at h; exact ⟨hc, h⟩
  · rw [if_neg hc] at h; cases h
theorem call_of {mt : List aME} {d m : Nat} {me : aME} {vs : List Value} {σ : aSt} {P : Option Value → aSt → Prop} {code : List aMI} {L : aLo} (hm : mt[m]? = some me) (hl : Nat.ble (loA vs).length me.2.2.1 = true) (hc : me.2.2.2.2.2.2.2.2 = code) (hL : lo0 me.2.2.1 vs = L) (g : aGo (aCall mt d) P code 0 L [] σ) : aCall mt (d + 1) m vs σ P := by
  unfold aCall
  rw [hm]
  subst hc
  subst hL
  exact ⟨hl, g⟩
section GO
variable {C : Nat → List Value → aSt → (Option Value → aSt → Prop) → Prop} {P : Option Value → aSt → Prop} {code : List aMI} {k k' : Nat} {L L' : aLo} {S S' : List Value} {σ σ' : aSt}
theorem go_q {Q : Prop} (m : Nat) (hq : Q) (h : ∀ K : Nat → aLo → List Value → aSt → Prop, (Q ∧ K k' L' S' σ') → aRk C P code K m k L S σ) (g : aGo C P code k' L' S' σ') : aGo C P code k L S σ := by
  obtain ⟨n, g⟩ := g
  exact ⟨n + m, by rw [← aRk_run]; exact h _ ⟨hq, g⟩⟩
theorem go_q2 {Q Q2 : Prop} (m : Nat) (hq : Q) (hq2 : Q2) (h : ∀ K : Nat → aLo → List Value → aSt → Prop, (Q ∧ Q2 ∧ K k' L' S' σ') → aRk C P code K m k L S σ) (g : aGo C P code k' L' S' σ') : aGo C P code k L S σ := by
  obtain ⟨n, g⟩ := g
  exact ⟨n + m, by rw [← aRk_run]; exact h _ ⟨hq, hq2, g⟩⟩
end GO
theorem inb_mk {t : Nat} {σ : aSt} {o : Nat} {i : Int32} (h0 : oty o = t) (h1 : 0 ≤ i) (h2 : i < lenI σ o) : inb t σ o i := ⟨h0, h1, h2⟩
theorem lt_eq {α β : Type} (a : α) (f : α → β) : lt a f = f a := rfl
