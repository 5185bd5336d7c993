/-! MADE BY: closures -/
def cnt (f : Nat → Bool) : Nat → Nat
  | 0 => 0
  | n + 1 => cnt f n + (if f n = true then 1 else 0)
theorem cnt_le (f : Nat → Bool) : ∀ n, cnt f n ≤ n
  | 0 => Nat.le_refl 0
  | n + 1 => by
    rw [cnt]
    have := cnt_le f n
    by_cases c : f n = true
    · rw [if_pos c]; omega
    · rw [if_neg c]; omega
theorem cnt_congr {f g : Nat → Bool} : ∀ n, (∀ i, i < n → f i = g i) → cnt f n = cnt g n
  | 0, _ => rfl
  | n + 1, h => by rw [cnt, cnt, cnt_congr n (fun i hi => h i (by omega)), h n (by omega)]
theorem cnt_add {f g : Nat → Bool} {v : Nat} (hf : f v = false) (hg : g v = true) (h : ∀ i, i ≠ v → f i = g i) : ∀ n, v < n → cnt g n = cnt f n + 1
  | 0, hv => by omega
  | n + 1, hv => by
    rw [cnt, cnt]
    by_cases c : v = n
    · subst c
      rw [if_pos hg, if_neg (by rw [hf]; decide), cnt_congr v (fun i hi => h i (by omega))]
    · rw [cnt_add hf hg h n (by omega), h n (fun q => c q.symm)]
      omega
section CLO
variable {a b : Int} {M E : Nat}
/-- MADE BY -/
def Der (a b : Int) (M E : Nat) (mk : List Int) (x : Int) : Prop := ∀ P : Int → Prop, P 1000 → (∀ m ∈ mk, P m) → (∀ y m, m ∈ mk → P y → (addC a b M E y m ≠ -6 → P (addC a b M E y m)) ∧ (subC a b M E y m ≠ -6 → P (subC a b M E y m))) → P x
theorem Der_mono {mk mk' : List Int} (h : ∀ m ∈ mk, m ∈ mk') {x : Int} (hx : Der a b M E mk x) : Der a b M E mk' x := fun P h0 h1 h2 => hx P h0 (fun m hm => h1 m (h m hm)) (fun y m hm => h2 y m (h m hm))
theorem Der_0 (mk : List Int) : Der a b M E mk 1000 := fun P h0 _ _ => h0
theorem Der_m {mk : List Int} {m : Int} (h : m ∈ mk) : Der a b M E mk m := fun P _ h1 _ => h1 m h
theorem Der_a {mk : List Int} {y m : Int} (hm : m ∈ mk) (hy : Der a b M E mk y) (h : addC a b M E y m ≠ -6) : Der a b M E mk (addC a b M E y m) := fun P h0 h1 h2 => (h2 y m hm (hy P h0 h1 h2)).1 h
theorem Der_s {mk : List Int} {y m : Int} (hm : m ∈ mk) (hy : Der a b M E mk y) (h : subC a b M E y m ≠ -6) : Der a b M E mk (subC a b M E y m) := fun P h0 h1 h2 => (h2 y m hm (hy P h0 h1 h2)).2 h
/-- a set is closed at one of its members -/
def clo (a b : Int) (M E : Nat) (mk mem : List Int) (x : Int) : Prop := ∀ m ∈ mk, (addC a b M E x m = -6 ∨ addC a b M E x m ∈ mem) ∧ (subC a b M E x m = -6 ∨ subC a b M E x m ∈ mem)
theorem clo_mono {mk mem mem' : List Int} (h : ∀ y ∈ mem, y ∈ mem') {x : Int} (hx : clo a b M E mk mem x) : clo a b M E mk mem' x := fun m hm => by
  obtain ⟨h1, h2⟩ := hx m hm
  exact ⟨h1.imp id (h _), h2.imp id (h _)⟩
/-- closed and sound: it is all that is MADE -/
theorem Der_iff {mk mem : List Int} (h0 : 1000 ∈ mem) (hm : ∀ m ∈ mk, m ∈ mem) (hc : ∀ x ∈ mem, clo a b M E mk mem x) (hs : ∀ x ∈ mem, Der a b M E mk x) (x : Int) : x ∈ mem ↔ Der a b M E mk x := ⟨hs x, fun h => h (· ∈ mem) h0 hm (fun y m hmk hy => by
  obtain ⟨q1, q2⟩ := hc y hy m hmk
  exact ⟨fun c => q1.resolve_left c, fun c => q2.resolve_left c⟩)⟩
theorem subC_scd (hc : CV a b M E) {x y : Int} (hx : scd a b M E x) (hy : scd a b M E y) : scd a b M E (subC a b M E x y) := by
  obtain ⟨hab, -, -, hM, -, hE⟩ := id hc
  unfold subC
  by_cases c1 : x = -6
  · rw [if_pos c1]; exact Or.inr (Or.inl rfl)
  · rw [if_neg c1]
    by_cases c2 : y = -6
    · rw [if_pos c2]; exact Or.inr (Or.inl rfl)
    · rw [if_neg c2]
      by_cases c4 : y = 1000
      · rw [if_pos c4]; exact hx
      · rw [if_neg c4]
        by_cases c3 : x = 1000
        · rw [if_pos c3]; exact negC_scd hc
        · rw [if_neg c3]; exact sumI_rng (hL_KS hab hM hE) _ _
/-- what the class finds, held, and what is shown of it -/
def shw (a b : Int) (M E : Nat) (v : Int) : Int := if v = 1000 then 1000 else if ((hL a b M E).length : Int) ≤ v then -6 else v
theorem heldA (hc : CV a b M E) {N : Nat} (hN : 10000 ≤ N) {σ : aSt} (hx : XC a b M E σ) {x y : Int} (hx1 : pnt a b M E x) (hy1 : pnt a b M E y) : ∃ (v : Int) (σ' : aSt), f_Sums_heldTotal N (iZ x) (iZ y) σ = some (iZ v, σ') ∧ fr fr22 σ σ' ∧ (v = -6 ∨ (0 ≤ v ∧ v ≤ 1000)) ∧ shw a b M E v = addC a b M E x y := by
  obtain ⟨hab, -, -, hM, -, hE⟩ := id hc
  have hl := hL_le (a := a) (b := b) (M := M) (E := E)
  have hxl := hX_len a b M E
  obtain ⟨sx, x6⟩ := pnt_scd hx1
  obtain ⟨sy, y6⟩ := pnt_scd hy1
  have bx := scd_bd sx; have by' := scd_bd sy
  have hself : ∀ v, pnt a b M E v → shw a b M E v = v := fun v hv => by
    unfold shw
    rcases hv with h | h
    · rw [if_pos h, h]
    · rw [if_neg (by omega), if_neg (by omega)]
  have m1 : ¬ iZ x = (-6 : Int32) := by rw [min_6, iZ_eq (bd_mono bx (by decide)) (bd_lit _ rfl)]; exact x6
  have m2 : ¬ iZ y = (-6 : Int32) := by rw [min_6, iZ_eq (bd_mono by' (by decide)) (bd_lit _ rfl)]; exact y6
  unfold addC
  rw [if_neg x6, if_neg y6]
  by_cases c3 : x = 1000
  · rw [if_pos c3]
    unfold f_Sums_heldTotal
    rw [if_neg m1, if_pos m2, if_neg (by rw [c3]; exact fun h => h rfl)]
    exact ⟨y, σ, rfl, fr_refl _ _, by rcases hy1 with h | h <;> omega, hself y hy1⟩
  · rw [if_neg c3]
    by_cases c4 : y = 1000
    · rw [if_pos c4]
      unfold f_Sums_heldTotal
      rw [if_neg m1, if_pos m2, if_pos (by rw [ne_eq, iZ_lit, iZ_eq (bd_mono bx (by decide)) (bd_lit _ rfl)]; exact c3), if_neg (by rw [c4]; exact fun h => h rfl)]
      exact ⟨x, σ, rfl, fr_refl _ _, by rcases hx1 with h | h <;> omega, hself x hx1⟩
    · rw [if_neg c4]
      obtain ⟨x0, x1⟩ := pnt_idx hx1 c3
      obtain ⟨y0, y1⟩ := pnt_idx hy1 c4
      obtain ⟨σ', h1, h2⟩ := held_ok hc hN hx (gpX x0 x1) (gpX y0 y1)
      rw [show ((x.toNat : Nat) : Int) = x from by omega, show ((y.toNat : Nat) : Int) = y from by omega] at h1
      have hr := sumI_rng (a := a) (b := b) (M := M) (E := E) (hX_KS hab hM hE) (gp a b M E x) (gp a b M E y)
      exact ⟨_, σ', h1, h2, by omega, by rw [sumI_shown hc]; rfl⟩
theorem heldS (hc : CV a b M E) {N : Nat} (hN : 10000 ≤ N) {σ : aSt} (hx : XC a b M E σ) {x y : Int} (hx1 : pnt a b M E x) (hy1 : pnt a b M E y) : ∃ (v : Int) (σ' : aSt), f_Sums_heldTotal N (iZ x) (f_Sums_negative (iZ y) σ) σ = some (iZ v, σ') ∧ fr fr22 σ σ' ∧ (v = -6 ∨ (0 ≤ v ∧ v ≤ 1000)) ∧ shw a b M E v = subC a b M E x y := by
  obtain ⟨hab, -, -, hM, -, hE⟩ := id hc
  have hl := hL_le (a := a) (b := b) (M := M) (E := E)
  have hxl := hX_len a b M E
  have hlen := hL_len a b M E
  obtain ⟨sx, x6⟩ := pnt_scd hx1
  obtain ⟨sy, y6⟩ := pnt_scd hy1
  have bx := scd_bd sx; have by' := scd_bd sy
  have m1 : ¬ iZ x = (-6 : Int32) := by rw [min_6, iZ_eq (bd_mono bx (by decide)) (bd_lit _ rfl)]; exact x6
  by_cases c4 : y = 1000
  · have e : f_Sums_negative (iZ y) σ = iZ y := by
      unfold f_Sums_negative
      rw [c4, if_pos (by decide)]
    have e2 : subC a b M E x y = addC a b M E x y := by
      unfold subC addC
      rw [if_neg x6, if_neg y6, if_pos c4, if_neg x6, if_neg y6]
      by_cases c3 : x = 1000
      · rw [if_pos c3, c3, c4]
      · rw [if_neg c3, if_pos c4]
    rw [e, e2]
    exact heldA hc hN hx hx1 hy1
  · obtain ⟨y0, y1⟩ := pnt_idx hy1 c4
    obtain ⟨k, h1, h2⟩ := neg_held hc hx (gpX y0 y1)
    rw [show ((y.toNat : Nat) : Int) = y from by omega] at h2
    have hk := get_lt h1
    have m2 : ¬ iZ (k : Int) = (-6 : Int32) := by rw [min_6, iZ_eq ⟨by omega, by omega⟩ (bd_lit _ rfl)]; omega
    have m3 : iZ (k : Int) ≠ (1000 : Int32) := by rw [ne_eq, iZ_lit, iZ_eq ⟨by omega, by omega⟩ (bd_lit _ rfl)]; omega
    rw [h2]
    unfold subC
    rw [if_neg x6, if_neg y6, if_neg c4]
    by_cases c3 : x = 1000
    · rw [if_pos c3]
      unfold f_Sums_heldTotal
      rw [if_neg m1, if_pos m2, if_neg (by rw [c3]; exact fun h => h rfl)]
      refine ⟨k, σ, rfl, fr_refl _ _, by omega, ?_⟩
      unfold shw negC
      rw [if_neg (by omega), if_neg c4, if_neg y6, fnd_shown hab hM hE, fnd_in (hX_KS hab hM hE) h1]
      by_cases c5 : (k : Int) < 120
      · rw [if_pos c5, if_neg (by omega)]
      · rw [if_neg c5, if_pos (by omega)]
    · rw [if_neg c3]
      obtain ⟨x0, x1⟩ := pnt_idx hx1 c3
      obtain ⟨σ', g1, g2⟩ := held_ok hc hN hx (gpX x0 x1) h1
      rw [show ((x.toNat : Nat) : Int) = x from by omega] at g1
      have hr := sumI_rng (a := a) (b := b) (M := M) (E := E) (hX_KS hab hM hE) (gp a b M E x) (tn (gp a b M E y))
      exact ⟨_, σ', g1, g2, by omega, by rw [sumI_shown hc]; rfl⟩
theorem clo_one {mk mem : List Int} {x : Int} (h : ∀ m ∈ mk, clo a b M E [m] mem x) : clo a b M E mk mem x := fun m hm => h m hm m List.mem_cons_self
theorem clo_el {mk mem : List Int} {x m : Int} (h : clo a b M E mk mem x) (hm : m ∈ mk) : clo a b M E [m] mem x := fun w hw => by
  rw [List.mem_singleton] at hw
  subst hw
  exact h w hm
end CLO

section CLO
variable {a b : Int} {M E : Nat}
/-- a closure's cells: makers, members, what is taken -/
def CL30 (a b : Int) (M E : Nat) (mk mem : List Int) (σ : aSt) : Prop := σ.1 30 5 = iZ mk.length ∧ mk.length ≤ 120 ∧ (∀ i m, mk[i]? = some m → σ.1 33 i = iZ m) ∧ σ.1 30 4 = iZ mem.length ∧ mem.length = 1 + cnt (fun i => decide ((i : Int) ∈ mem)) (hL a b M E).length ∧ (∀ i x, mem[i]? = some x → σ.1 31 i = iZ x) ∧ (∀ x ∈ mem, pnt a b M E x) ∧ (∀ m ∈ mk, pnt a b M E m) ∧ (∀ i : Nat, i < (hL a b M E).length → (σ.1 32 i = 0 ∧ (i : Int) ∉ mem) ∨ (σ.1 32 i = 1 ∧ (i : Int) ∈ mem))
def frC30 : Nat → Nat → Bool := fun o k => Nat.beq o 22 || Nat.beq o 31 || Nat.beq o 32 || Nat.beq o 33 || (Nat.beq o 30 && Nat.ble 4 k)
theorem fr22_C30 {σ σ' : aSt} (h : fr fr22 σ σ') : fr frC30 σ σ' := fr_mono h (fun o k q => by
  unfold frC30 at q
  rw [Bool.or_eq_false_iff, Bool.or_eq_false_iff, Bool.or_eq_false_iff, Bool.or_eq_false_iff] at q
  exact q.1.1.1.1)
theorem XC_C30 {σ σ' : aSt} (hf : fr frC30 σ σ') (h : XC a b M E σ) : XC a b M E σ' := XC_fr hf (fun _ => ⟨rfl, rfl, rfl, rfl, rfl⟩) h
theorem CL30_22 {mk mem : List Int} {σ σ' : aSt} (hf : fr fr22 σ σ') (h : CL30 a b M E mk mem σ) : CL30 a b M E mk mem σ' := by
  obtain ⟨h1, h2, h3, h4, h5, h6, h7, h8, h9⟩ := h
  exact ⟨by rw [(hf 30 5 rfl).1]; exact h1, h2, fun i m hi => by rw [(hf 33 i rfl).1]; exact h3 i m hi, by rw [(hf 30 4 rfl).1]; exact h4, h5, fun i x hi => by rw [(hf 31 i rfl).1]; exact h6 i x hi, h7, h8, fun i hi => by rw [(hf 32 i rfl).1]; exact h9 i hi⟩
theorem take30 {mk mem : List Int} {σ : aSt} (hx : XC a b M E σ) (h : CL30 a b M E mk mem σ) (h0 : 1000 ∈ mem) {v : Int} (hv : v = -6 ∨ (0 ≤ v ∧ v ≤ 1000)) : ∃ t, CL30 a b M E mk (mem ++ t) (f_Closure_take_30 (iZ v) σ) ∧ fr frC30 σ (f_Closure_take_30 (iZ v) σ) ∧ (∀ y ∈ t, y = shw a b M E v ∧ y ≠ -6) ∧ (shw a b M E v = -6 ∨ shw a b M E v ∈ mem ++ t) := by
  have hl := hL_le (a := a) (b := b) (M := M) (E := E)
  obtain ⟨h1, h2, h3, h4, h5, h6, h7, h8, h9⟩ := id h
  have hcl := cnt_le (fun i => decide ((i : Int) ∈ mem)) (hL a b M E).length
  have nil : (shw a b M E v = -6 ∨ shw a b M E v ∈ mem) → ∃ t, CL30 a b M E mk (mem ++ t) σ ∧ fr frC30 σ σ ∧ (∀ y ∈ t, y = shw a b M E v ∧ y ≠ -6) ∧ (shw a b M E v = -6 ∨ shw a b M E v ∈ mem ++ t) := fun q => ⟨[], by rw [List.append_nil]; exact h, fr_refl _ _, (fun y hy => by cases hy), by rw [List.append_nil]; exact q⟩
  unfold f_Closure_take_30 f_Sums_shown
  rw [shownZ hx]
  by_cases c1 : v < 0
  · rw [if_pos (by rw [iZ_lit, iZ_lt ⟨by omega, by omega⟩ (bd_lit _ rfl)]; exact c1)]
    refine nil (Or.inl ?_)
    unfold shw
    rw [if_neg (by omega), if_neg (by omega)]
    omega
  · rw [if_neg (by rw [iZ_lit, iZ_lt ⟨by omega, by omega⟩ (bd_lit _ rfl)]; exact c1)]
    by_cases c2 : ((hL a b M E).length : Int) ≤ v
    · rw [if_pos (by rw [iZ_le ⟨by omega, by omega⟩ ⟨by omega, by omega⟩]; exact c2)]
      refine nil ?_
      unfold shw
      by_cases c3 : v = 1000
      · rw [if_pos c3]; exact Or.inr h0
      · rw [if_neg c3, if_pos c2]; exact Or.inl rfl
    · rw [if_neg (by rw [iZ_le ⟨by omega, by omega⟩ ⟨by omega, by omega⟩]; exact c2)]
      obtain ⟨n, rfl⟩ : ∃ n : Nat, v = n := ⟨v.toNat, by omega⟩
      have hs : shw a b M E (n : Int) = n := by
        unfold shw
        rw [if_neg (by omega), if_neg c2]
      rw [pick_in (by decide) (by decide) (by omega) (by show (n : Int) < (120 : Nat); omega), Int.toNat_natCast, hs]
      rcases h9 n (by omega) with ⟨q1, q2⟩ | ⟨q1, q2⟩
      · rw [if_pos q1, lt_eq, lt_eq, store_in (row := 32) (by decide) (by decide) (by omega) (by show (n : Int) < (120 : Nat); omega), Int.toNat_natCast]
        have e4 : (s_i σ 32 n (1 : Int32)).1 30 4 = iZ mem.length := h4
        have hca : cnt (fun i => decide ((i : Int) ∈ mem ++ [(n : Int)])) (hL a b M E).length = cnt (fun i => decide ((i : Int) ∈ mem)) (hL a b M E).length + 1 := by
          refine cnt_add (v := n) (decide_eq_false q2) (decide_eq_true (List.mem_append_right _ List.mem_cons_self)) (fun i hi => ?_) _ (by omega)
          by_cases ci : (i : Int) ∈ mem
          · rw [decide_eq_true ci, decide_eq_true (List.mem_append_left _ ci)]
          · rw [decide_eq_false ci, decide_eq_false (fun q => by
              rcases List.mem_append.mp q with q | q
              · exact ci q
              · rw [List.mem_singleton] at q; omega)]
        have hca2 := cnt_le (fun i => decide ((i : Int) ∈ mem ++ [(n : Int)])) (hL a b M E).length
        rw [e4, store_in (row := 31) (by decide) (by decide) (by omega) (by show (mem.length : Int) < (121 : Nat); omega), Int.toNat_natCast]
        have e5 : (s_i (s_i σ 32 n (1 : Int32)) 31 mem.length (iZ (n : Int))).1 30 4 = iZ mem.length := h4
        rw [e5, i1]
        obtain ⟨σ1, hσ1⟩ : ∃ σ1, σ1 = s_i (s_i (s_i σ 32 n (1 : Int32)) 31 mem.length (iZ (n : Int))) 30 4 (iZ ((mem.length + 1 : Nat) : Int)) := ⟨_, rfl⟩
        rw [← hσ1]
        refine ⟨[(n : Int)], ⟨by rw [hσ1]; exact h1, h2, fun i m hi => ?_, ?_, ?_, fun i y hi => ?_, fun y hy => ?_, h8, fun i hi => ?_⟩, ?_, fun y hy => ?_, Or.inr (List.mem_append_right _ List.mem_cons_self)⟩
        · rw [hσ1, si_ne (Or.inl (by decide)), si_ne (Or.inl (by decide)), si_ne (Or.inl (by decide))]; exact h3 i m hi
        · rw [hσ1, si_eq, List.length_append]; rfl
        · rw [List.length_append, hca]; show mem.length + 1 = _; omega
        · rcases get_snoc hi with ⟨p1, p2⟩ | ⟨p1, p2⟩
          · rw [hσ1, si_ne (Or.inl (by decide)), si_ne (Or.inr (by omega)), si_ne (Or.inl (by decide))]; exact h6 i y p2
          · subst p1; subst p2
            rw [hσ1, si_ne (Or.inl (by decide)), si_eq]
        · rcases List.mem_append.mp hy with q | q
          · exact h7 y q
          · rw [List.mem_singleton] at q
            subst q
            exact Or.inr ⟨by omega, by omega⟩
        · by_cases ci : i = n
          · subst ci
            exact Or.inr ⟨by rw [hσ1, si_ne (Or.inl (by decide)), si_ne (Or.inl (by decide)), si_eq], List.mem_append_right _ List.mem_cons_self⟩
          · have e : σ1.1 32 i = σ.1 32 i := by rw [hσ1, si_ne (Or.inl (by decide)), si_ne (Or.inl (by decide)), si_ne (Or.inr ci)]
            rw [e]
            rcases h9 i hi with ⟨p1, p2⟩ | ⟨p1, p2⟩
            · refine Or.inl ⟨p1, fun q => ?_⟩
              rcases List.mem_append.mp q with q | q
              · exact p2 q
              · rw [List.mem_singleton] at q; omega
            · exact Or.inr ⟨p1, List.mem_append_left _ p2⟩
        · rw [hσ1]
          have hA : ∀ k, frC30 31 k = true := fun k => rfl
          have hB : ∀ k, frC30 32 k = true := fun k => rfl
          exact fr_trans (fr_trans (fr_si (hB _)) (fr_si (hA _))) (fr_si rfl)
        · rw [List.mem_singleton] at hy
          exact ⟨hy, by omega⟩
      · rw [if_neg (by rw [q1]; decide)]
        have := nil (by rw [hs]; exact Or.inr q2)
        rw [hs] at this
        exact this
/-- one member meets the makers from one on -/
theorem met30 (hc : CV a b M E) {N : Nat} (hN : 10000 ≤ N) (k72 : Int32 → Int32 → aSt → Option aSt) {mk : List Int} {old h : Nat} {x : Int} : ∀ (j n k : Nat) (mem : List Int) (σ : aSt), XC a b M E σ → CL30 a b M E mk mem σ → 1000 ∈ mem → mem[h]? = some x → k + j = mk.length → j + 1 ≤ n → (∀ y ∈ mem, Der a b M E mk y) → (∀ i m, i < k → mk[i]? = some m → clo a b M E [m] mem x) → ∃ t σ', f_Closure_addMaker_30_l39 N k72 n (iZ old) (iZ h) (iZ k) σ = k72 (iZ old) (iZ h) σ' ∧ CL30 a b M E mk (mem ++ t) σ' ∧ fr frC30 σ σ' ∧ (∀ y ∈ mem ++ t, Der a b M E mk y) ∧ (∀ m ∈ mk, clo a b M E [m] (mem ++ t) x) := by
  have hl := hL_le (a := a) (b := b) (M := M) (E := E)
  intro j
  induction j with
  | zero =>
    intro n k mem σ hx hcl h0 hh hk hn hs hclo
    obtain ⟨n, rfl, hn⟩ := fuel hn
    have := hcl.2.1
    rw [f_Closure_addMaker_30_l39, hcl.1, if_pos (by rw [iZ_le ⟨by omega, by omega⟩ ⟨by omega, by omega⟩]; omega)]
    refine ⟨[], σ, rfl, by rw [List.append_nil]; exact hcl, fr_refl _ _, by rw [List.append_nil]; exact hs, fun m hm => ?_⟩
    obtain ⟨i, hi⟩ := List.getElem?_of_mem hm
    rw [List.append_nil]
    exact hclo i m (by have := get_lt hi; omega) hi
  | succ j ih =>
    intro n k mem σ hx hcl h0 hh hk hn hs hclo
    obtain ⟨n, rfl, hn⟩ := fuel hn
    have hmk := hcl.2.1
    have hml : mem.length ≤ 121 := by
      have := hcl.2.2.2.2.1
      have := cnt_le (fun i => decide ((i : Int) ∈ mem)) (hL a b M E).length
      omega
    have hhl := get_lt hh
    obtain ⟨m, hm⟩ := get_some (L := mk) (i := k) (by omega)
    have hmm : m ∈ mk := List.mem_of_getElem? hm
    have pm := hcl.2.2.2.2.2.2.2.1 m hmm
    have px := hcl.2.2.2.2.2.2.1 x (List.mem_of_getElem? hh)
    have ex : ∀ {mem' : List Int} {σ' : aSt}, CL30 a b M E mk mem' σ' → mem'[h]? = some x → σ'.1 31 (iZ (h : Int)).toNatClampNeg = iZ x := fun h1 h2 => by
      rw [iZ_idx (by omega) (by omega), Int.toNat_natCast]; exact h1.2.2.2.2.2.1 h x h2
    have em : f_Closure_maker_30 (iZ (k : Int)) σ = iZ m := by
      unfold f_Closure_maker_30
      rw [pick_in (by decide) (by decide) (by omega) (by show (k : Int) < (120 : Nat); omega), Int.toNat_natCast]
      exact hcl.2.2.1 k m hm
    rw [f_Closure_addMaker_30_l39, hcl.1, if_neg (by rw [iZ_le ⟨by omega, by omega⟩ ⟨by omega, by omega⟩]; omega), if_pos (by rw [iZ_lit, iZ_lit, iZ_le (bd_lit _ rfl) ⟨by omega, by omega⟩, iZ_lt ⟨by omega, by omega⟩ (bd_lit _ rfl)]; omega), em, ex hcl hh]
    obtain ⟨v1, σ1, a1, a2, a3, a4⟩ := heldA hc hN hx px pm
    rw [a1, Option.bind_some, lt_eq]
    simp only
    obtain ⟨t1, b1, b2, b3, b4⟩ := take30 (XC_22 a2 hx) (CL30_22 a2 hcl) h0 a3
    have f1 := fr_trans (fr22_C30 a2) b2
    have hx1 := XC_C30 f1 hx
    have hh1 : (mem ++ t1)[h]? = some x := by rw [List.getElem?_append_left hhl]; exact hh
    rw [ex b1 hh1]
    obtain ⟨v2, σ2, c1, c2, c3, c4⟩ := heldS hc hN hx1 px pm
    rw [c1, Option.bind_some, lt_eq]
    simp only
    obtain ⟨t2, d1, d2, d3, d4⟩ := take30 (XC_22 c2 hx1) (CL30_22 c2 b1) (List.mem_append_left _ h0) c3
    have f2 := fr_trans f1 (fr_trans (fr22_C30 c2) d2)
    rw [i1]
    have sub1 : ∀ y ∈ mem, y ∈ mem ++ t1 ++ t2 := fun y hy => List.mem_append_left _ (List.mem_append_left _ hy)
    have hs2 : ∀ y ∈ mem ++ t1 ++ t2, Der a b M E mk y := fun y hy => by
      rcases List.mem_append.mp hy with hy | hy
      · rcases List.mem_append.mp hy with hy | hy
        · exact hs y hy
        · obtain ⟨e1, e2⟩ := b3 y hy
          rw [a4] at e1
          rw [e1] at e2 ⊢
          exact Der_a hmm (hs x (List.mem_of_getElem? hh)) e2
      · obtain ⟨e1, e2⟩ := d3 y hy
        rw [c4] at e1
        rw [e1] at e2 ⊢
        exact Der_s hmm (hs x (List.mem_of_getElem? hh)) e2
    obtain ⟨t, σ', g1, g2, g3, g4, g5⟩ := ih n (k + 1) (mem ++ t1 ++ t2) _ (XC_C30 f2 hx) d1 (sub1 _ h0) (by rw [List.append_assoc, List.getElem?_append_left hhl]; exact hh) (by omega) (by omega) hs2 (fun i m' hi hm' => by
      by_cases ci : i = k
      · subst ci
        rw [hm] at hm'
        have := Option.some.inj hm'
        subst this
        intro w hw
        rw [List.mem_singleton] at hw
        subst hw
        rw [a4] at b4
        rw [c4] at d4
        refine ⟨?_, d4⟩
        rcases b4 with q | q
        · exact Or.inl q
        · exact Or.inr (List.mem_append_left _ q)
      · exact clo_mono sub1 (hclo i m' (by omega) hm'))
    exact ⟨t1 ++ t2 ++ t, σ', g1, by rw [← List.append_assoc, ← List.append_assoc]; exact g2, fr_trans f2 g3, by rw [← List.append_assoc, ← List.append_assoc]; exact g4, by rw [← List.append_assoc, ← List.append_assoc]; exact g5⟩
/-- all members meet -/
theorem all30 (hc : CV a b M E) {N : Nat} (hN : 10000 ≤ N) {mk0 : List Int} {mk1 : Int} {old : Nat} : ∀ (j n h : Nat) (mem : List Int) (σ : aSt), XC a b M E σ → CL30 a b M E (mk0 ++ [mk1]) mem σ → 1000 ∈ mem → old ≤ mem.length → h + j = 122 → j + 1 ≤ n → (∀ y ∈ mem, Der a b M E (mk0 ++ [mk1]) y) → (∀ i y, i < h → mem[i]? = some y → clo a b M E (mk0 ++ [mk1]) mem y) → (∀ i y, i < old → mem[i]? = some y → clo a b M E mk0 mem y) → ∃ t σ', f_Closure_addMaker_30_l20 N n (iZ old) (iZ h) σ = some σ' ∧ CL30 a b M E (mk0 ++ [mk1]) (mem ++ t) σ' ∧ fr frC30 σ σ' ∧ (∀ y ∈ mem ++ t, Der a b M E (mk0 ++ [mk1]) y) ∧ (∀ y ∈ mem ++ t, clo a b M E (mk0 ++ [mk1]) (mem ++ t) y) := by
  have hl := hL_le (a := a) (b := b) (M := M) (E := E)
  intro j
  induction j with
  | zero =>
    intro n h mem σ hx hcl h0 hol hj hn hs hclo hold
    obtain ⟨n, rfl, hn⟩ := fuel hn
    have hml : mem.length ≤ 121 := by
      have := hcl.2.2.2.2.1
      have := cnt_le (fun i => decide ((i : Int) ∈ mem)) (hL a b M E).length
      omega
    rw [f_Closure_addMaker_30_l20, hcl.2.2.2.1, if_pos (by rw [iZ_le ⟨by omega, by omega⟩ ⟨by omega, by omega⟩]; omega)]
    refine ⟨[], σ, rfl, by rw [List.append_nil]; exact hcl, fr_refl _ _, by rw [List.append_nil]; exact hs, fun y hy => ?_⟩
    rw [List.append_nil] at hy ⊢
    obtain ⟨i, hi⟩ := List.getElem?_of_mem hy
    exact hclo i y (by have := get_lt hi; omega) hi
  | succ j ih =>
    intro n h mem σ hx hcl h0 hol hj hn hs hclo hold
    obtain ⟨n, rfl, hn⟩ := fuel hn
    have hml : mem.length ≤ 121 := by
      have := hcl.2.2.2.2.1
      have := cnt_le (fun i => decide ((i : Int) ∈ mem)) (hL a b M E).length
      omega
    rw [f_Closure_addMaker_30_l20, hcl.2.2.2.1]
    by_cases ch : mem.length ≤ h
    · rw [if_pos (by rw [iZ_le ⟨by omega, by omega⟩ ⟨by omega, by omega⟩]; omega)]
      refine ⟨[], σ, rfl, by rw [List.append_nil]; exact hcl, fr_refl _ _, by rw [List.append_nil]; exact hs, fun y hy => ?_⟩
      rw [List.append_nil] at hy ⊢
      obtain ⟨i, hi⟩ := List.getElem?_of_mem hy
      exact hclo i y (by have := get_lt hi; omega) hi
    · rw [if_neg (by rw [iZ_le ⟨by omega, by omega⟩ ⟨by omega, by omega⟩]; omega), if_neg (by rw [iZ_lit, iZ_le (bd_lit _ rfl) ⟨by omega, by omega⟩]; omega)]
      obtain ⟨x, hxx⟩ := get_some (L := mem) (i := h) (by omega)
      have fin : ∀ (t : List Int) (σ1 : aSt), CL30 a b M E (mk0 ++ [mk1]) (mem ++ t) σ1 → fr frC30 σ σ1 → (∀ y ∈ mem ++ t, Der a b M E (mk0 ++ [mk1]) y) → (∀ m ∈ mk0 ++ [mk1], clo a b M E [m] (mem ++ t) x) → ∃ t' σ', f_Closure_addMaker_30_l20 N n (iZ old) (iZ (h : Int) + (1 : Int32)) σ1 = some σ' ∧ CL30 a b M E (mk0 ++ [mk1]) (mem ++ t') σ' ∧ fr frC30 σ σ' ∧ (∀ y ∈ mem ++ t', Der a b M E (mk0 ++ [mk1]) y) ∧ (∀ y ∈ mem ++ t', clo a b M E (mk0 ++ [mk1]) (mem ++ t') y) := fun t σ1 q1 q2 q3 q4 => by
        have sub : ∀ y ∈ mem, y ∈ mem ++ t := fun y hy => List.mem_append_left _ hy
        rw [i1]
        obtain ⟨t', σ', g1, g2, g3, g4, g5⟩ := ih n (h + 1) (mem ++ t) σ1 (XC_C30 q2 hx) q1 (sub _ h0) (by rw [List.length_append]; omega) (by omega) (by omega) q3 (fun i y hi hy => by
          have hil : i < mem.length := by omega
          rw [List.getElem?_append_left hil] at hy
          by_cases ci : i = h
          · subst ci
            rw [hxx] at hy
            have := Option.some.inj hy
            subst this
            exact clo_one q4
          · exact clo_mono sub (hclo i y (by omega) hy)) (fun i y hi hy => by
          rcases Nat.lt_or_ge i mem.length with hil | hil
          · rw [List.getElem?_append_left hil] at hy
            exact clo_mono sub (hold i y hi hy)
          · omega)
        exact ⟨t ++ t', σ', g1, by rw [← List.append_assoc]; exact g2, fr_trans q2 g3, by rw [← List.append_assoc]; exact g4, by rw [← List.append_assoc]; exact g5⟩
      by_cases co : old ≤ h
      · rw [if_pos (by rw [iZ_le ⟨by omega, by omega⟩ ⟨by omega, by omega⟩]; omega)]
        obtain ⟨t, σ1, q1, q2, q3, q4, q5⟩ := met30 hc hN (fun (y12 : Int32) (y13 : Int32) σ14 => f_Closure_addMaker_30_l20 N n y12 (y13 + (1 : Int32)) σ14) (old := old) (h := h) _ N 0 mem σ hx hcl h0 hxx (Nat.zero_add _) (by have := hcl.2.1; omega) hs (fun i m hi => by omega)
        rw [show (0 : Int32) = iZ ((0 : Nat) : Int) from rfl, q1]
        exact fin t σ1 q2 q3 q4 q5
      · have hmk := hcl.2.1
        rw [List.length_append] at hmk
        have hmk : mk0.length + 1 ≤ 120 := hmk
        rw [if_neg (by rw [iZ_le ⟨by omega, by omega⟩ ⟨by omega, by omega⟩]; omega), hcl.1, show iZ ((mk0 ++ [mk1]).length : Int) - (1 : Int32) = iZ (mk0.length : Int) from by rw [iZ_lit, iZ_sub, List.length_append]; show iZ (((mk0.length + 1 : Nat) : Int) - 1) = _; congr 1; omega]
        obtain ⟨t, σ1, q1, q2, q3, q4, q5⟩ := met30 hc hN (fun (y15 : Int32) (y16 : Int32) σ17 => f_Closure_addMaker_30_l20 N n y15 (y16 + (1 : Int32)) σ17) (old := old) (h := h) 1 N mk0.length mem σ hx hcl h0 hxx (by rw [List.length_append]; rfl) (by omega) hs (fun i m hi hm => by
          rw [List.getElem?_append_left hi] at hm
          exact clo_el (hold h x (by omega) hxx) (List.mem_of_getElem? hm))
        rw [q1]
        exact fin t σ1 q2 q3 q4 q5
theorem add30 (hc : CV a b M E) {N : Nat} (hN : 10000 ≤ N) {mk0 mem0 : List Int} {m : Int} {σ : aSt} (hx : XC a b M E σ) (h : CL30 a b M E mk0 mem0 σ) (h0 : 1000 ∈ mem0) (hm : pnt a b M E m) (hlen : mk0.length < 120) (hs : ∀ y ∈ mem0, Der a b M E mk0 y) (hcl : ∀ y ∈ mem0, clo a b M E mk0 mem0 y) : ∃ t σ', f_Closure_addMaker_30 N (iZ m) σ = some σ' ∧ CL30 a b M E (mk0 ++ [m]) (mem0 ++ t) σ' ∧ fr frC30 σ σ' ∧ (∀ y ∈ mem0 ++ t, Der a b M E (mk0 ++ [m]) y) ∧ (∀ y ∈ mem0 ++ t, clo a b M E (mk0 ++ [m]) (mem0 ++ t) y) ∧ m ∈ mem0 ++ t := by
  have hl := hL_le (a := a) (b := b) (M := M) (E := E)
  obtain ⟨h1, h2, h3, h4, h5, h6, h7, h8, h9⟩ := id h
  unfold f_Closure_addMaker_30
  rw [lt_eq, lt_eq, h1, store_in (row := 33) (by decide) (by decide) (by omega) (by show (mk0.length : Int) < (120 : Nat); omega), Int.toNat_natCast, h4]
  have e5 : (s_i σ 33 mk0.length (iZ m)).1 30 5 = iZ mk0.length := h1
  rw [e5, i1]
  obtain ⟨σ1, hσ1⟩ : ∃ σ1, σ1 = s_i (s_i σ 33 mk0.length (iZ m)) 30 5 (iZ ((mk0.length + 1 : Nat) : Int)) := ⟨_, rfl⟩
  rw [← hσ1]
  have f1 : fr frC30 σ σ1 := by
    have hC : ∀ k, frC30 33 k = true := fun k => rfl
    rw [hσ1]; exact fr_trans (fr_si (hC _)) (fr_si rfl)
  have c1 : CL30 a b M E (mk0 ++ [m]) mem0 σ1 := by
    refine ⟨by rw [hσ1, si_eq, List.length_append]; rfl, by rw [List.length_append]; show mk0.length + 1 ≤ 120; omega, fun i w hi => ?_, by rw [hσ1]; exact h4, h5, fun i y hi => ?_, h7, fun w hw => ?_, fun i hi => ?_⟩
    · rcases get_snoc hi with ⟨p1, p2⟩ | ⟨p1, p2⟩
      · rw [hσ1, si_ne (Or.inl (by decide)), si_ne (Or.inr (by omega))]; exact h3 i w p2
      · subst p1; subst p2
        rw [hσ1, si_ne (Or.inl (by decide)), si_eq]
    · rw [hσ1, si_ne (Or.inl (by decide)), si_ne (Or.inl (by decide))]; exact h6 i y hi
    · rcases List.mem_append.mp hw with q | q
      · exact h8 w q
      · rw [List.mem_singleton] at q; subst q; exact hm
    · rw [hσ1, si_ne (Or.inl (by decide)), si_ne (Or.inl (by decide))]; exact h9 i hi
  have hv : m = -6 ∨ (0 ≤ m ∧ m ≤ 1000) := by rcases hm with q | q <;> omega
  have hsh : shw a b M E m = m := by
    unfold shw
    rcases hm with q | q
    · rw [if_pos q, q]
    · rw [if_neg (by omega), if_neg (by omega)]
  obtain ⟨t1, b1, b2, b3, b4⟩ := take30 (XC_C30 f1 hx) c1 h0 hv
  rw [hsh] at b3 b4
  have mm : m ∈ mk0 ++ [m] := List.mem_append_right _ List.mem_cons_self
  have sub0 : ∀ w ∈ mk0, w ∈ mk0 ++ [m] := fun w hw => List.mem_append_left _ hw
  have sub1 : ∀ y ∈ mem0, y ∈ mem0 ++ t1 := fun y hy => List.mem_append_left _ hy
  have hmt : m ∈ mem0 ++ t1 := by
    rcases b4 with q | q
    · exact absurd q (pnt_scd hm).2
    · exact q
  have f2 := fr_trans f1 b2
  obtain ⟨t, σ', g1, g2, g3, g4, g5⟩ := all30 hc hN (mk0 := mk0) (mk1 := m) (old := mem0.length) 122 N 0 (mem0 ++ t1) _ (XC_C30 f2 hx) b1 (sub1 _ h0) (by rw [List.length_append]; omega) (by omega) (by omega) (fun y hy => by
    rcases List.mem_append.mp hy with q | q
    · exact Der_mono sub0 (hs y q)
    · rw [(b3 y q).1]; exact Der_m mm) (fun i y hi => by omega) (fun i y hi hy => by
    rw [List.getElem?_append_left hi] at hy
    exact clo_mono sub1 (hcl y (List.mem_of_getElem? hy)))
  exact ⟨t1 ++ t, σ', g1, by rw [← List.append_assoc]; exact g2, fr_trans f2 g3, by rw [← List.append_assoc]; exact g4, by rw [← List.append_assoc]; exact g5, by rw [← List.append_assoc]; exact List.mem_append_left _ hmt⟩
/-- at first: ZERO alone -/
theorem forget30 {σ : aSt} : CL30 a b M E [] [1000] (f_Closure_forget_30 σ) ∧ fr frC30 σ (f_Closure_forget_30 σ) ∧ (f_Closure_forget_30 σ).2.2 30 6 = false := by
  have hl := hL_le (a := a) (b := b) (M := M) (E := E)
  unfold f_Closure_forget_30
  rw [lt_eq, lt_eq, show (0 : Int32) = iZ 0 from rfl, store_in (row := 31) (by decide) (by decide) (by omega) (by decide)]
  have c0 : cnt (fun i => decide ((i : Int) ∈ [(1000 : Int)])) (hL a b M E).length = 0 := by
    have : ∀ n, n ≤ 120 → cnt (fun i => decide ((i : Int) ∈ [(1000 : Int)])) n = 0 := by
      intro n
      induction n with
      | zero => intro _; rfl
      | succ n ih =>
        intro hn
        rw [cnt, ih (by omega), if_neg]
        rw [decide_eq_true_eq, List.mem_singleton]; omega
    exact this _ hl
  refine ⟨⟨rfl, Nat.zero_le _, (fun i m hi => by cases hi), rfl, (by rw [c0]; rfl), fun i x hi => ?_, fun x hx => ?_, (fun m hm => by cases hm), fun i hi => Or.inl ⟨?_, ?_⟩⟩, ?_, rfl⟩
  · match i, hi with
    | 0, hi => cases hi; rfl
    | i + 1, hi => cases hi
  · rw [List.mem_singleton] at hx; exact Or.inl hx
  · rw [si_ne (Or.inl (by decide)), si_ne (Or.inl (by decide))]
    exact fill_get (by show i < 120; omega)
  · rw [List.mem_singleton]; omega
  · have hA : ∀ k, frC30 31 k = true := fun k => rfl
    have hB : ∀ k, frC30 32 k = true := fun k => rfl
    exact fr_trans (fr_trans (fr_trans (fr_trans (fr_sb rfl) (fr_si rfl)) (fr_fill hB)) (fr_si (hA _))) (fr_si rfl)
end CLO

section CLO
variable {a b : Int} {M E : Nat}
/-- a closure's cells: makers, members, what is taken -/
def CL26 (a b : Int) (M E : Nat) (mk mem : List Int) (σ : aSt) : Prop := σ.1 26 5 = iZ mk.length ∧ mk.length ≤ 120 ∧ (∀ i m, mk[i]? = some m → σ.1 29 i = iZ m) ∧ σ.1 26 4 = iZ mem.length ∧ mem.length = 1 + cnt (fun i => decide ((i : Int) ∈ mem)) (hL a b M E).length ∧ (∀ i x, mem[i]? = some x → σ.1 27 i = iZ x) ∧ (∀ x ∈ mem, pnt a b M E x) ∧ (∀ m ∈ mk, pnt a b M E m) ∧ (∀ i : Nat, i < (hL a b M E).length → (σ.1 28 i = 0 ∧ (i : Int) ∉ mem) ∨ (σ.1 28 i = 1 ∧ (i : Int) ∈ mem))
def frC26 : Nat → Nat → Bool := fun o k => Nat.beq o 22 || Nat.beq o 27 || Nat.beq o 28 || Nat.beq o 29 || (Nat.beq o 26 && Nat.ble 4 k)
theorem fr22_C26 {σ σ' : aSt} (h : fr fr22 σ σ') : fr frC26 σ σ' := fr_mono h (fun o k q => by
  unfold frC26 at q
  rw [Bool.or_eq_false_iff, Bool.or_eq_false_iff, Bool.or_eq_false_iff, Bool.or_eq_false_iff] at q
  exact q.1.1.1.1)
theorem XC_C26 {σ σ' : aSt} (hf : fr frC26 σ σ') (h : XC a b M E σ) : XC a b M E σ' := XC_fr hf (fun _ => ⟨rfl, rfl, rfl, rfl, rfl⟩) h
theorem CL26_22 {mk mem : List Int} {σ σ' : aSt} (hf : fr fr22 σ σ') (h : CL26 a b M E mk mem σ) : CL26 a b M E mk mem σ' := by
  obtain ⟨h1, h2, h3, h4, h5, h6, h7, h8, h9⟩ := h
  exact ⟨by rw [(hf 26 5 rfl).1]; exact h1, h2, fun i m hi => by rw [(hf 29 i rfl).1]; exact h3 i m hi, by rw [(hf 26 4 rfl).1]; exact h4, h5, fun i x hi => by rw [(hf 27 i rfl).1]; exact h6 i x hi, h7, h8, fun i hi => by rw [(hf 28 i rfl).1]; exact h9 i hi⟩
theorem take26 {mk mem : List Int} {σ : aSt} (hx : XC a b M E σ) (h : CL26 a b M E mk mem σ) (h0 : 1000 ∈ mem) {v : Int} (hv : v = -6 ∨ (0 ≤ v ∧ v ≤ 1000)) : ∃ t, CL26 a b M E mk (mem ++ t) (f_Closure_take_26 (iZ v) σ) ∧ fr frC26 σ (f_Closure_take_26 (iZ v) σ) ∧ (∀ y ∈ t, y = shw a b M E v ∧ y ≠ -6) ∧ (shw a b M E v = -6 ∨ shw a b M E v ∈ mem ++ t) := by
  have hl := hL_le (a := a) (b := b) (M := M) (E := E)
  obtain ⟨h1, h2, h3, h4, h5, h6, h7, h8, h9⟩ := id h
  have hcl := cnt_le (fun i => decide ((i : Int) ∈ mem)) (hL a b M E).length
  have nil : (shw a b M E v = -6 ∨ shw a b M E v ∈ mem) → ∃ t, CL26 a b M E mk (mem ++ t) σ ∧ fr frC26 σ σ ∧ (∀ y ∈ t, y = shw a b M E v ∧ y ≠ -6) ∧ (shw a b M E v = -6 ∨ shw a b M E v ∈ mem ++ t) := fun q => ⟨[], by rw [List.append_nil]; exact h, fr_refl _ _, (fun y hy => by cases hy), by rw [List.append_nil]; exact q⟩
  unfold f_Closure_take_26 f_Sums_shown
  rw [shownZ hx]
  by_cases c1 : v < 0
  · rw [if_pos (by rw [iZ_lit, iZ_lt ⟨by omega, by omega⟩ (bd_lit _ rfl)]; exact c1)]
    refine nil (Or.inl ?_)
    unfold shw
    rw [if_neg (by omega), if_neg (by omega)]
    omega
  · rw [if_neg (by rw [iZ_lit, iZ_lt ⟨by omega, by omega⟩ (bd_lit _ rfl)]; exact c1)]
    by_cases c2 : ((hL a b M E).length : Int) ≤ v
    · rw [if_pos (by rw [iZ_le ⟨by omega, by omega⟩ ⟨by omega, by omega⟩]; exact c2)]
      refine nil ?_
      unfold shw
      by_cases c3 : v = 1000
      · rw [if_pos c3]; exact Or.inr h0
      · rw [if_neg c3, if_pos c2]; exact Or.inl rfl
    · rw [if_neg (by rw [iZ_le ⟨by omega, by omega⟩ ⟨by omega, by omega⟩]; exact c2)]
      obtain ⟨n, rfl⟩ : ∃ n : Nat, v = n := ⟨v.toNat, by omega⟩
      have hs : shw a b M E (n : Int) = n := by
        unfold shw
        rw [if_neg (by omega), if_neg c2]
      rw [pick_in (by decide) (by decide) (by omega) (by show (n : Int) < (120 : Nat); omega), Int.toNat_natCast, hs]
      rcases h9 n (by omega) with ⟨q1, q2⟩ | ⟨q1, q2⟩
      · rw [if_pos q1, lt_eq, lt_eq, store_in (row := 28) (by decide) (by decide) (by omega) (by show (n : Int) < (120 : Nat); omega), Int.toNat_natCast]
        have e4 : (s_i σ 28 n (1 : Int32)).1 26 4 = iZ mem.length := h4
        have hca : cnt (fun i => decide ((i : Int) ∈ mem ++ [(n : Int)])) (hL a b M E).length = cnt (fun i => decide ((i : Int) ∈ mem)) (hL a b M E).length + 1 := by
          refine cnt_add (v := n) (decide_eq_false q2) (decide_eq_true (List.mem_append_right _ List.mem_cons_self)) (fun i hi => ?_) _ (by omega)
          by_cases ci : (i : Int) ∈ mem
          · rw [decide_eq_true ci, decide_eq_true (List.mem_append_left _ ci)]
          · rw [decide_eq_false ci, decide_eq_false (fun q => by
              rcases List.mem_append.mp q with q | q
              · exact ci q
              · rw [List.mem_singleton] at q; omega)]
        have hca2 := cnt_le (fun i => decide ((i : Int) ∈ mem ++ [(n : Int)])) (hL a b M E).length
        rw [e4, store_in (row := 27) (by decide) (by decide) (by omega) (by show (mem.length : Int) < (121 : Nat); omega), Int.toNat_natCast]
        have e5 : (s_i (s_i σ 28 n (1 : Int32)) 27 mem.length (iZ (n : Int))).1 26 4 = iZ mem.length := h4
        rw [e5, i1]
        obtain ⟨σ1, hσ1⟩ : ∃ σ1, σ1 = s_i (s_i (s_i σ 28 n (1 : Int32)) 27 mem.length (iZ (n : Int))) 26 4 (iZ ((mem.length + 1 : Nat) : Int)) := ⟨_, rfl⟩
        rw [← hσ1]
        refine ⟨[(n : Int)], ⟨by rw [hσ1]; exact h1, h2, fun i m hi => ?_, ?_, ?_, fun i y hi => ?_, fun y hy => ?_, h8, fun i hi => ?_⟩, ?_, fun y hy => ?_, Or.inr (List.mem_append_right _ List.mem_cons_self)⟩
        · rw [hσ1, si_ne (Or.inl (by decide)), si_ne (Or.inl (by decide)), si_ne (Or.inl (by decide))]; exact h3 i m hi
        · rw [hσ1, si_eq, List.length_append]; rfl
        · rw [List.length_append, hca]; show mem.length + 1 = _; omega
        · rcases get_snoc hi with ⟨p1, p2⟩ | ⟨p1, p2⟩
          · rw [hσ1, si_ne (Or.inl (by decide)), si_ne (Or.inr (by omega)), si_ne (Or.inl (by decide))]; exact h6 i y p2
          · subst p1; subst p2
            rw [hσ1, si_ne (Or.inl (by decide)), si_eq]
        · rcases List.mem_append.mp hy with q | q
          · exact h7 y q
          · rw [List.mem_singleton] at q
            subst q
            exact Or.inr ⟨by omega, by omega⟩
        · by_cases ci : i = n
          · subst ci
            exact Or.inr ⟨by rw [hσ1, si_ne (Or.inl (by decide)), si_ne (Or.inl (by decide)), si_eq], List.mem_append_right _ List.mem_cons_self⟩
          · have e : σ1.1 28 i = σ.1 28 i := by rw [hσ1, si_ne (Or.inl (by decide)), si_ne (Or.inl (by decide)), si_ne (Or.inr ci)]
            rw [e]
            rcases h9 i hi with ⟨p1, p2⟩ | ⟨p1, p2⟩
            · refine Or.inl ⟨p1, fun q => ?_⟩
              rcases List.mem_append.mp q with q | q
              · exact p2 q
              · rw [List.mem_singleton] at q; omega
            · exact Or.inr ⟨p1, List.mem_append_left _ p2⟩
        · rw [hσ1]
          have hA : ∀ k, frC26 27 k = true := fun k => rfl
          have hB : ∀ k, frC26 28 k = true := fun k => rfl
          exact fr_trans (fr_trans (fr_si (hB _)) (fr_si (hA _))) (fr_si rfl)
        · rw [List.mem_singleton] at hy
          exact ⟨hy, by omega⟩
      · rw [if_neg (by rw [q1]; decide)]
        have := nil (by rw [hs]; exact Or.inr q2)
        rw [hs] at this
        exact this
/-- one member meets the makers from one on -/
theorem met26 (hc : CV a b M E) {N : Nat} (hN : 10000 ≤ N) (k72 : Int32 → Int32 → aSt → Option aSt) {mk : List Int} {old h : Nat} {x : Int} : ∀ (j n k : Nat) (mem : List Int) (σ : aSt), XC a b M E σ → CL26 a b M E mk mem σ → 1000 ∈ mem → mem[h]? = some x → k + j = mk.length → j + 1 ≤ n → (∀ y ∈ mem, Der a b M E mk y) → (∀ i m, i < k → mk[i]? = some m → clo a b M E [m] mem x) → ∃ t σ', f_Closure_addMaker_26_l39 N k72 n (iZ old) (iZ h) (iZ k) σ = k72 (iZ old) (iZ h) σ' ∧ CL26 a b M E mk (mem ++ t) σ' ∧ fr frC26 σ σ' ∧ (∀ y ∈ mem ++ t, Der a b M E mk y) ∧ (∀ m ∈ mk, clo a b M E [m] (mem ++ t) x) := by
  have hl := hL_le (a := a) (b := b) (M := M) (E := E)
  intro j
  induction j with
  | zero =>
    intro n k mem σ hx hcl h0 hh hk hn hs hclo
    obtain ⟨n, rfl, hn⟩ := fuel hn
    have := hcl.2.1
    rw [f_Closure_addMaker_26_l39, hcl.1, if_pos (by rw [iZ_le ⟨by omega, by omega⟩ ⟨by omega, by omega⟩]; omega)]
    refine ⟨[], σ, rfl, by rw [List.append_nil]; exact hcl, fr_refl _ _, by rw [List.append_nil]; exact hs, fun m hm => ?_⟩
    obtain ⟨i, hi⟩ := List.getElem?_of_mem hm
    rw [List.append_nil]
    exact hclo i m (by have := get_lt hi; omega) hi
  | succ j ih =>
    intro n k mem σ hx hcl h0 hh hk hn hs hclo
    obtain ⟨n, rfl, hn⟩ := fuel hn
    have hmk := hcl.2.1
    have hml : mem.length ≤ 121 := by
      have := hcl.2.2.2.2.1
      have := cnt_le (fun i => decide ((i : Int) ∈ mem)) (hL a b M E).length
      omega
    have hhl := get_lt hh
    obtain ⟨m, hm⟩ := get_some (L := mk) (i := k) (by omega)
    have hmm : m ∈ mk := List.mem_of_getElem? hm
    have pm := hcl.2.2.2.2.2.2.2.1 m hmm
    have px := hcl.2.2.2.2.2.2.1 x (List.mem_of_getElem? hh)
    have ex : ∀ {mem' : List Int} {σ' : aSt}, CL26 a b M E mk mem' σ' → mem'[h]? = some x → σ'.1 27 (iZ (h : Int)).toNatClampNeg = iZ x := fun h1 h2 => by
      rw [iZ_idx (by omega) (by omega), Int.toNat_natCast]; exact h1.2.2.2.2.2.1 h x h2
    have em : f_Closure_maker_26 (iZ (k : Int)) σ = iZ m := by
      unfold f_Closure_maker_26
      rw [pick_in (by decide) (by decide) (by omega) (by show (k : Int) < (120 : Nat); omega), Int.toNat_natCast]
      exact hcl.2.2.1 k m hm
    rw [f_Closure_addMaker_26_l39, hcl.1, if_neg (by rw [iZ_le ⟨by omega, by omega⟩ ⟨by omega, by omega⟩]; omega), if_pos (by rw [iZ_lit, iZ_lit, iZ_le (bd_lit _ rfl) ⟨by omega, by omega⟩, iZ_lt ⟨by omega, by omega⟩ (bd_lit _ rfl)]; omega), em, ex hcl hh]
    obtain ⟨v1, σ1, a1, a2, a3, a4⟩ := heldA hc hN hx px pm
    rw [a1, Option.bind_some, lt_eq]
    simp only
    obtain ⟨t1, b1, b2, b3, b4⟩ := take26 (XC_22 a2 hx) (CL26_22 a2 hcl) h0 a3
    have f1 := fr_trans (fr22_C26 a2) b2
    have hx1 := XC_C26 f1 hx
    have hh1 : (mem ++ t1)[h]? = some x := by rw [List.getElem?_append_left hhl]; exact hh
    rw [ex b1 hh1]
    obtain ⟨v2, σ2, c1, c2, c3, c4⟩ := heldS hc hN hx1 px pm
    rw [c1, Option.bind_some, lt_eq]
    simp only
    obtain ⟨t2, d1, d2, d3, d4⟩ := take26 (XC_22 c2 hx1) (CL26_22 c2 b1) (List.mem_append_left _ h0) c3
    have f2 := fr_trans f1 (fr_trans (fr22_C26 c2) d2)
    rw [i1]
    have sub1 : ∀ y ∈ mem, y ∈ mem ++ t1 ++ t2 := fun y hy => List.mem_append_left _ (List.mem_append_left _ hy)
    have hs2 : ∀ y ∈ mem ++ t1 ++ t2, Der a b M E mk y := fun y hy => by
      rcases List.mem_append.mp hy with hy | hy
      · rcases List.mem_append.mp hy with hy | hy
        · exact hs y hy
        · obtain ⟨e1, e2⟩ := b3 y hy
          rw [a4] at e1
          rw [e1] at e2 ⊢
          exact Der_a hmm (hs x (List.mem_of_getElem? hh)) e2
      · obtain ⟨e1, e2⟩ := d3 y hy
        rw [c4] at e1
        rw [e1] at e2 ⊢
        exact Der_s hmm (hs x (List.mem_of_getElem? hh)) e2
    obtain ⟨t, σ', g1, g2, g3, g4, g5⟩ := ih n (k + 1) (mem ++ t1 ++ t2) _ (XC_C26 f2 hx) d1 (sub1 _ h0) (by rw [List.append_assoc, List.getElem?_append_left hhl]; exact hh) (by omega) (by omega) hs2 (fun i m' hi hm' => by
      by_cases ci : i = k
      · subst ci
        rw [hm] at hm'
        have := Option.some.inj hm'
        subst this
        intro w hw
        rw [List.mem_singleton] at hw
        subst hw
        rw [a4] at b4
        rw [c4] at d4
        refine ⟨?_, d4⟩
        rcases b4 with q | q
        · exact Or.inl q
        · exact Or.inr (List.mem_append_left _ q)
      · exact clo_mono sub1 (hclo i m' (by omega) hm'))
    exact ⟨t1 ++ t2 ++ t, σ', g1, by rw [← List.append_assoc, ← List.append_assoc]; exact g2, fr_trans f2 g3, by rw [← List.append_assoc, ← List.append_assoc]; exact g4, by rw [← List.append_assoc, ← List.append_assoc]; exact g5⟩
/-- all members meet -/
theorem all26 (hc : CV a b M E) {N : Nat} (hN : 10000 ≤ N) {mk0 : List Int} {mk1 : Int} {old : Nat} : ∀ (j n h : Nat) (mem : List Int) (σ : aSt), XC a b M E σ → CL26 a b M E (mk0 ++ [mk1]) mem σ → 1000 ∈ mem → old ≤ mem.length → h + j = 122 → j + 1 ≤ n → (∀ y ∈ mem, Der a b M E (mk0 ++ [mk1]) y) → (∀ i y, i < h → mem[i]? = some y → clo a b M E (mk0 ++ [mk1]) mem y) → (∀ i y, i < old → mem[i]? = some y → clo a b M E mk0 mem y) → ∃ t σ', f_Closure_addMaker_26_l20 N n (iZ old) (iZ h) σ = some σ' ∧ CL26 a b M E (mk0 ++ [mk1]) (mem ++ t) σ' ∧ fr frC26 σ σ' ∧ (∀ y ∈ mem ++ t, Der a b M E (mk0 ++ [mk1]) y) ∧ (∀ y ∈ mem ++ t, clo a b M E (mk0 ++ [mk1]) (mem ++ t) y) := by
  have hl := hL_le (a := a) (b := b) (M := M) (E := E)
  intro j
  induction j with
  | zero =>
    intro n h mem σ hx hcl h0 hol hj hn hs hclo hold
    obtain ⟨n, rfl, hn⟩ := fuel hn
    have hml : mem.length ≤ 121 := by
      have := hcl.2.2.2.2.1
      have := cnt_le (fun i => decide ((i : Int) ∈ mem)) (hL a b M E).length
      omega
    rw [f_Closure_addMaker_26_l20, hcl.2.2.2.1, if_pos (by rw [iZ_le ⟨by omega, by omega⟩ ⟨by omega, by omega⟩]; omega)]
    refine ⟨[], σ, rfl, by rw [List.append_nil]; exact hcl, fr_refl _ _, by rw [List.append_nil]; exact hs, fun y hy => ?_⟩
    rw [List.append_nil] at hy ⊢
    obtain ⟨i, hi⟩ := List.getElem?_of_mem hy
    exact hclo i y (by have := get_lt hi; omega) hi
  | succ j ih =>
    intro n h mem σ hx hcl h0 hol hj hn hs hclo hold
    obtain ⟨n, rfl, hn⟩ := fuel hn
    have hml : mem.length ≤ 121 := by
      have := hcl.2.2.2.2.1
      have := cnt_le (fun i => decide ((i : Int) ∈ mem)) (hL a b M E).length
      omega
    rw [f_Closure_addMaker_26_l20, hcl.2.2.2.1]
    by_cases ch : mem.length ≤ h
    · rw [if_pos (by rw [iZ_le ⟨by omega, by omega⟩ ⟨by omega, by omega⟩]; omega)]
      refine ⟨[], σ, rfl, by rw [List.append_nil]; exact hcl, fr_refl _ _, by rw [List.append_nil]; exact hs, fun y hy => ?_⟩
      rw [List.append_nil] at hy ⊢
      obtain ⟨i, hi⟩ := List.getElem?_of_mem hy
      exact hclo i y (by have := get_lt hi; omega) hi
    · rw [if_neg (by rw [iZ_le ⟨by omega, by omega⟩ ⟨by omega, by omega⟩]; omega), if_neg (by rw [iZ_lit, iZ_le (bd_lit _ rfl) ⟨by omega, by omega⟩]; omega)]
      obtain ⟨x, hxx⟩ := get_some (L := mem) (i := h) (by omega)
      have fin : ∀ (t : List Int) (σ1 : aSt), CL26 a b M E (mk0 ++ [mk1]) (mem ++ t) σ1 → fr frC26 σ σ1 → (∀ y ∈ mem ++ t, Der a b M E (mk0 ++ [mk1]) y) → (∀ m ∈ mk0 ++ [mk1], clo a b M E [m] (mem ++ t) x) → ∃ t' σ', f_Closure_addMaker_26_l20 N n (iZ old) (iZ (h : Int) + (1 : Int32)) σ1 = some σ' ∧ CL26 a b M E (mk0 ++ [mk1]) (mem ++ t') σ' ∧ fr frC26 σ σ' ∧ (∀ y ∈ mem ++ t', Der a b M E (mk0 ++ [mk1]) y) ∧ (∀ y ∈ mem ++ t', clo a b M E (mk0 ++ [mk1]) (mem ++ t') y) := fun t σ1 q1 q2 q3 q4 => by
        have sub : ∀ y ∈ mem, y ∈ mem ++ t := fun y hy => List.mem_append_left _ hy
        rw [i1]
        obtain ⟨t', σ', g1, g2, g3, g4, g5⟩ := ih n (h + 1) (mem ++ t) σ1 (XC_C26 q2 hx) q1 (sub _ h0) (by rw [List.length_append]; omega) (by omega) (by omega) q3 (fun i y hi hy => by
          have hil : i < mem.length := by omega
          rw [List.getElem?_append_left hil] at hy
          by_cases ci : i = h
          · subst ci
            rw [hxx] at hy
            have := Option.some.inj hy
            subst this
            exact clo_one q4
          · exact clo_mono sub (hclo i y (by omega) hy)) (fun i y hi hy => by
          rcases Nat.lt_or_ge i mem.length with hil | hil
          · rw [List.getElem?_append_left hil] at hy
            exact clo_mono sub (hold i y hi hy)
          · omega)
        exact ⟨t ++ t', σ', g1, by rw [← List.append_assoc]; exact g2, fr_trans q2 g3, by rw [← List.append_assoc]; exact g4, by rw [← List.append_assoc]; exact g5⟩
      by_cases co : old ≤ h
      · rw [if_pos (by rw [iZ_le ⟨by omega, by omega⟩ ⟨by omega, by omega⟩]; omega)]
        obtain ⟨t, σ1, q1, q2, q3, q4, q5⟩ := met26 hc hN (fun (y12 : Int32) (y13 : Int32) σ14 => f_Closure_addMaker_26_l20 N n y12 (y13 + (1 : Int32)) σ14) (old := old) (h := h) _ N 0 mem σ hx hcl h0 hxx (Nat.zero_add _) (by have := hcl.2.1; omega) hs (fun i m hi => by omega)
        rw [show (0 : Int32) = iZ ((0 : Nat) : Int) from rfl, q1]
        exact fin t σ1 q2 q3 q4 q5
      · have hmk := hcl.2.1
        rw [List.length_append] at hmk
        have hmk : mk0.length + 1 ≤ 120 := hmk
        rw [if_neg (by rw [iZ_le ⟨by omega, by omega⟩ ⟨by omega, by omega⟩]; omega), hcl.1, show iZ ((mk0 ++ [mk1]).length : Int) - (1 : Int32) = iZ (mk0.length : Int) from by rw [iZ_lit, iZ_sub, List.length_append]; show iZ (((mk0.length + 1 : Nat) : Int) - 1) = _; congr 1; omega]
        obtain ⟨t, σ1, q1, q2, q3, q4, q5⟩ := met26 hc hN (fun (y15 : Int32) (y16 : Int32) σ17 => f_Closure_addMaker_26_l20 N n y15 (y16 + (1 : Int32)) σ17) (old := old) (h := h) 1 N mk0.length mem σ hx hcl h0 hxx (by rw [List.length_append]; rfl) (by omega) hs (fun i m hi hm => by
          rw [List.getElem?_append_left hi] at hm
          exact clo_el (hold h x (by omega) hxx) (List.mem_of_getElem? hm))
        rw [q1]
        exact fin t σ1 q2 q3 q4 q5
theorem add26 (hc : CV a b M E) {N : Nat} (hN : 10000 ≤ N) {mk0 mem0 : List Int} {m : Int} {σ : aSt} (hx : XC a b M E σ) (h : CL26 a b M E mk0 mem0 σ) (h0 : 1000 ∈ mem0) (hm : pnt a b M E m) (hlen : mk0.length < 120) (hs : ∀ y ∈ mem0, Der a b M E mk0 y) (hcl : ∀ y ∈ mem0, clo a b M E mk0 mem0 y) : ∃ t σ', f_Closure_addMaker_26 N (iZ m) σ = some σ' ∧ CL26 a b M E (mk0 ++ [m]) (mem0 ++ t) σ' ∧ fr frC26 σ σ' ∧ (∀ y ∈ mem0 ++ t, Der a b M E (mk0 ++ [m]) y) ∧ (∀ y ∈ mem0 ++ t, clo a b M E (mk0 ++ [m]) (mem0 ++ t) y) ∧ m ∈ mem0 ++ t := by
  have hl := hL_le (a := a) (b := b) (M := M) (E := E)
  obtain ⟨h1, h2, h3, h4, h5, h6, h7, h8, h9⟩ := id h
  unfold f_Closure_addMaker_26
  rw [lt_eq, lt_eq, h1, store_in (row := 29) (by decide) (by decide) (by omega) (by show (mk0.length : Int) < (120 : Nat); omega), Int.toNat_natCast, h4]
  have e5 : (s_i σ 29 mk0.length (iZ m)).1 26 5 = iZ mk0.length := h1
  rw [e5, i1]
  obtain ⟨σ1, hσ1⟩ : ∃ σ1, σ1 = s_i (s_i σ 29 mk0.length (iZ m)) 26 5 (iZ ((mk0.length + 1 : Nat) : Int)) := ⟨_, rfl⟩
  rw [← hσ1]
  have f1 : fr frC26 σ σ1 := by
    have hC : ∀ k, frC26 29 k = true := fun k => rfl
    rw [hσ1]; exact fr_trans (fr_si (hC _)) (fr_si rfl)
  have c1 : CL26 a b M E (mk0 ++ [m]) mem0 σ1 := by
    refine ⟨by rw [hσ1, si_eq, List.length_append]; rfl, by rw [List.length_append]; show mk0.length + 1 ≤ 120; omega, fun i w hi => ?_, by rw [hσ1]; exact h4, h5, fun i y hi => ?_, h7, fun w hw => ?_, fun i hi => ?_⟩
    · rcases get_snoc hi with ⟨p1, p2⟩ | ⟨p1, p2⟩
      · rw [hσ1, si_ne (Or.inl (by decide)), si_ne (Or.inr (by omega))]; exact h3 i w p2
      · subst p1; subst p2
        rw [hσ1, si_ne (Or.inl (by decide)), si_eq]
    · rw [hσ1, si_ne (Or.inl (by decide)), si_ne (Or.inl (by decide))]; exact h6 i y hi
    · rcases List.mem_append.mp hw with q | q
      · exact h8 w q
      · rw [List.mem_singleton] at q; subst q; exact hm
    · rw [hσ1, si_ne (Or.inl (by decide)), si_ne (Or.inl (by decide))]; exact h9 i hi
  have hv : m = -6 ∨ (0 ≤ m ∧ m ≤ 1000) := by rcases hm with q | q <;> omega
  have hsh : shw a b M E m = m := by
    unfold shw
    rcases hm with q | q
    · rw [if_pos q, q]
    · rw [if_neg (by omega), if_neg (by omega)]
  obtain ⟨t1, b1, b2, b3, b4⟩ := take26 (XC_C26 f1 hx) c1 h0 hv
  rw [hsh] at b3 b4
  have mm : m ∈ mk0 ++ [m] := List.mem_append_right _ List.mem_cons_self
  have sub0 : ∀ w ∈ mk0, w ∈ mk0 ++ [m] := fun w hw => List.mem_append_left _ hw
  have sub1 : ∀ y ∈ mem0, y ∈ mem0 ++ t1 := fun y hy => List.mem_append_left _ hy
  have hmt : m ∈ mem0 ++ t1 := by
    rcases b4 with q | q
    · exact absurd q (pnt_scd hm).2
    · exact q
  have f2 := fr_trans f1 b2
  obtain ⟨t, σ', g1, g2, g3, g4, g5⟩ := all26 hc hN (mk0 := mk0) (mk1 := m) (old := mem0.length) 122 N 0 (mem0 ++ t1) _ (XC_C26 f2 hx) b1 (sub1 _ h0) (by rw [List.length_append]; omega) (by omega) (by omega) (fun y hy => by
    rcases List.mem_append.mp hy with q | q
    · exact Der_mono sub0 (hs y q)
    · rw [(b3 y q).1]; exact Der_m mm) (fun i y hi => by omega) (fun i y hi hy => by
    rw [List.getElem?_append_left hi] at hy
    exact clo_mono sub1 (hcl y (List.mem_of_getElem? hy)))
  exact ⟨t1 ++ t, σ', g1, by rw [← List.append_assoc]; exact g2, fr_trans f2 g3, by rw [← List.append_assoc]; exact g4, by rw [← List.append_assoc]; exact g5, by rw [← List.append_assoc]; exact List.mem_append_left _ hmt⟩
/-- at first: ZERO alone -/
theorem forget26 {σ : aSt} : CL26 a b M E [] [1000] (f_Closure_forget_26 σ) ∧ fr frC26 σ (f_Closure_forget_26 σ) ∧ (f_Closure_forget_26 σ).2.2 26 6 = false := by
  have hl := hL_le (a := a) (b := b) (M := M) (E := E)
  unfold f_Closure_forget_26
  rw [lt_eq, lt_eq, show (0 : Int32) = iZ 0 from rfl, store_in (row := 27) (by decide) (by decide) (by omega) (by decide)]
  have c0 : cnt (fun i => decide ((i : Int) ∈ [(1000 : Int)])) (hL a b M E).length = 0 := by
    have : ∀ n, n ≤ 120 → cnt (fun i => decide ((i : Int) ∈ [(1000 : Int)])) n = 0 := by
      intro n
      induction n with
      | zero => intro _; rfl
      | succ n ih =>
        intro hn
        rw [cnt, ih (by omega), if_neg]
        rw [decide_eq_true_eq, List.mem_singleton]; omega
    exact this _ hl
  refine ⟨⟨rfl, Nat.zero_le _, (fun i m hi => by cases hi), rfl, (by rw [c0]; rfl), fun i x hi => ?_, fun x hx => ?_, (fun m hm => by cases hm), fun i hi => Or.inl ⟨?_, ?_⟩⟩, ?_, rfl⟩
  · match i, hi with
    | 0, hi => cases hi; rfl
    | i + 1, hi => cases hi
  · rw [List.mem_singleton] at hx; exact Or.inl hx
  · rw [si_ne (Or.inl (by decide)), si_ne (Or.inl (by decide))]
    exact fill_get (by show i < 120; omega)
  · rw [List.mem_singleton]; omega
  · have hA : ∀ k, frC26 27 k = true := fun k => rfl
    have hB : ∀ k, frC26 28 k = true := fun k => rfl
    exact fr_trans (fr_trans (fr_trans (fr_trans (fr_sb rfl) (fr_si rfl)) (fr_fill hB)) (fr_si (hA _))) (fr_si rfl)
end CLO
