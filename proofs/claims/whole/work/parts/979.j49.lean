/-! CLASSES: the class's table 49 is judged (printed by g978.py) -/
theorem val_49 {A B d : Int} (hA : bd 120 A) {σ : aSt} (h8 : σ.1 49 8 = iZ A) (x y : Int) : f_ClassTable_valueAt_49 (jZ d) (jZ (B.tdiv d)) (jZ (x * x)) (jZ (y * y)) σ = jZ (wth A B d x y) := by
  have := hA.1; have := hA.2
  unfold f_ClassTable_valueAt_49 wth
  rw [h8, i2j ⟨by omega, by omega⟩]
  simp only [jZ_mul, jZ_add]
  congr 1
  generalize B.tdiv d = c
  grind
section JT
variable {A B d : Int}
theorem mb56_49 {N : Nat} (hA : bd 120 A) (hB : bd 4400 B) (hd : bd 4400 d) {k : Nat} (hk : k < 6) {σ : aSt} (h8 : σ.1 49 8 = iZ A) (hM : CM σ) : ∀ (j t n : Nat), mdQ.getD k 0 ≤ t + j → t ≤ 100 → j + 1 ≤ n → ((∃ t', t ≤ t' ∧ t' * mdP.getD k 0 < mdQ.getD k 0 ∧ sqQ (mdQ.getD k 0) (wth A B d ((t' * mdP.getD k 0 : Nat) : Int) 1 % (mdQ.getD k 0 : Int)).toNat = true) ∧ f_ClassTable_mayBeBy_49_l56 N σ n (iZ d) (iZ (B.tdiv d)) (iZ k) (iZ (mdQ.getD k 0 : Nat)) (mdS.getD k 0) (iZ ((t * mdP.getD k 0 : Nat) : Int)) = some true) ∨ ((∀ t', t ≤ t' → t' * mdP.getD k 0 < mdQ.getD k 0 → ¬ sqQ (mdQ.getD k 0) (wth A B d ((t' * mdP.getD k 0 : Nat) : Int) 1 % (mdQ.getD k 0 : Int)).toNat = true) ∧ f_ClassTable_mayBeBy_49_l56 N σ n (iZ d) (iZ (B.tdiv d)) (iZ k) (iZ (mdQ.getD k 0 : Nat)) (mdS.getD k 0) (iZ ((t * mdP.getD k 0 : Nat) : Int)) = some false) := by
  obtain ⟨o1, o2, o3, o4, o5⟩ := md_ok k hk
  have p49 : mdP.getD k 0 ≤ 49 := Nat.le_trans (Nat.le_of_dvd (by omega) o4) o2
  have bit := fun r => md_bit (k := k) (r := r) hk
  have h89 := (hM k hk).2.1
  have := hd.1; have := hd.2
  have tb := bd_tdiv d hB
  have := tb.1; have := tb.2
  revert bit h89 o1 o2 o3 p49
  generalize mdQ.getD k 0 = q
  generalize mdP.getD k 0 = pr
  generalize mdS.getD k 0 = s
  intro o1 o2 o3 p49 bit h89 j
  induction j with
  | zero =>
    intro t n ht ht2 hn
    obtain ⟨n, rfl, _⟩ := fuel hn
    have tp : t * 1 ≤ t * pr := Nat.mul_le_mul (Nat.le_refl _) (by omega)
    have tp2 : t * pr ≤ 100 * 49 := Nat.mul_le_mul ht2 p49
    rw [f_ClassTable_mayBeBy_49_l56, if_pos (by rw [iZ_le ⟨by omega, by omega⟩ ⟨by omega, by omega⟩]; omega)]
    refine Or.inr ⟨fun t' h1 h2 => ?_, rfl⟩
    have : t * pr ≤ t' * pr := Nat.mul_le_mul h1 (Nat.le_refl _)
    omega
  | succ j ih =>
    intro t n ht ht2 hn
    obtain ⟨n, rfl, hn'⟩ := fuel hn
    have tp : t * 1 ≤ t * pr := Nat.mul_le_mul (Nat.le_refl _) (by omega)
    have tp2 : t * pr ≤ 100 * 49 := Nat.mul_le_mul ht2 p49
    by_cases c : q ≤ t * pr
    · rw [f_ClassTable_mayBeBy_49_l56, if_pos (by rw [iZ_le ⟨by omega, by omega⟩ ⟨by omega, by omega⟩]; omega)]
      refine Or.inr ⟨fun t' h1 h2 => ?_, rfl⟩
      have : t * pr ≤ t' * pr := Nat.mul_le_mul h1 (Nat.le_refl _)
      omega
    · have wb := wth_bd hA hB hd (m := ((t * pr : Nat) : Int)) (e := 1) ⟨by omega, by omega⟩ ⟨by omega, by omega⟩
      have eb := em_bd (wth A B d ((t * pr : Nat) : Int) 1) (p := q) (by omega)
      have hv : f_ClassTable_valueAt_49 (jZ d) (jZ (B.tdiv d)) (jZ ((t * pr : Nat) : Int) * jZ ((t * pr : Nat) : Int)) (1 : Int64) σ = jZ (wth A B d ((t * pr : Nat) : Int) 1) := by
        rw [jZ_mul]; exact val_49 hA h8 ((t * pr : Nat) : Int) 1
      have hr : wth A B d ((t * pr : Nat) : Int) 1 % (q : Int) = (((wth A B d ((t * pr : Nat) : Int) 1 % (q : Int)).toNat : Nat) : Int) := by omega
      have hb := bit (wth A B d ((t * pr : Nat) : Int) 1 % (q : Int)).toNat (by omega)
      rw [← hr] at hb
      have ci : 0 ≤ iZ (k : Int) ∧ iZ (k : Int) < (6 : Int32) := by rw [show (0 : Int32) = iZ 0 from rfl, show (6 : Int32) = iZ 6 from rfl, iZ_le (bd_lit _ rfl) ⟨by omega, by omega⟩, iZ_lt ⟨by omega, by omega⟩ (bd_lit _ rfl)]; omega
      rw [f_ClassTable_mayBeBy_49_l56, if_neg (by rw [iZ_le ⟨by omega, by omega⟩ ⟨by omega, by omega⟩]; omega), i2j ⟨by omega, by omega⟩, i2j ⟨by omega, by omega⟩, i2j (z := ((t * pr : Nat) : Int)) ⟨by omega, by omega⟩, hv, residue_ok (bd_mono wb (by decide)) (by omega) (by omega), Option.bind_some, if_pos ci, iZ_idx (by omega) (by omega), Int.toNat_natCast, h89, iZ_add]
      simp only [hb]
      have e1 : ((t * pr : Nat) : Int) + (pr : Int) = (((t + 1) * pr : Nat) : Int) := by rw [Nat.succ_mul]; omega
      rw [e1]
      by_cases dd : sqQ q (wth A B d ((t * pr : Nat) : Int) 1 % (q : Int)).toNat = true
      · rw [if_neg (fun z => z dd)]
        exact Or.inl ⟨⟨t, Nat.le_refl _, by omega, dd⟩, rfl⟩
      · rw [if_pos dd]
        rcases ih (t + 1) n (by omega) (by omega) hn' with ⟨⟨t', a1, a2, a3⟩, g⟩ | ⟨a1, g⟩
        · exact Or.inl ⟨⟨t', by omega, a2, a3⟩, g⟩
        · refine Or.inr ⟨fun t' h1 h2 => ?_, g⟩
          by_cases z : t' = t
          · subst z; exact dd
          · exact a1 t' (by omega) h2
theorem mb24_49 {N : Nat} (hN : 10000 ≤ N) (hA : bd 120 A) (hB : bd 4400 B) (hd : bd 4400 d) {k : Nat} (hk : k < 6) {σ : aSt} (h8 : σ.1 49 8 = iZ A) (hM : CM σ) : ∀ (j e n : Nat), e + j = mdQ.getD k 0 → j + 1 ≤ n → (∀ f, f < e → ¬ sqQ (mdQ.getD k 0) (wth A B d 1 (f : Int) % (mdQ.getD k 0 : Int)).toNat = true) → f_ClassTable_mayBeBy_49_l24 N σ n (iZ d) (iZ (B.tdiv d)) (iZ k) (iZ (mdQ.getD k 0 : Nat)) (mdS.getD k 0) (iZ (e : Int)) = some (rmB A B d (mdQ.getD k 0) (mdP.getD k 0)) := by
  have ok := md_ok k hk
  have iff := rmX_iff (A := A) (B := B) (d := d) ok
  obtain ⟨o1, o2, o3, o4, o5⟩ := ok
  have bit := fun r => md_bit (k := k) (r := r) hk
  have := hd.1; have := hd.2
  have tb := bd_tdiv d hB
  have := tb.1; have := tb.2
  intro j
  induction j with
  | zero =>
    intro e n he hn hno
    obtain ⟨n, rfl, _⟩ := fuel hn
    rw [f_ClassTable_mayBeBy_49_l24, if_pos (by rw [iZ_le ⟨by omega, by omega⟩ ⟨by omega, by omega⟩]; omega)]
    have z0 : (0 : Int32) = iZ ((0 * mdP.getD k 0 : Nat) : Int) := by rw [Nat.zero_mul]; rfl
    rw [z0]
    rcases mb56_49 (N := N) hA hB hd hk h8 hM 49 0 N (by omega) (by omega) (by omega) with ⟨⟨t', a1, a2, a3⟩, g⟩ | ⟨a1, g⟩
    · rw [g, iff.mp (Or.inr ⟨t' * mdP.getD k 0, a2, Nat.mul_mod_left _ _, a3⟩)]
    · rw [g]
      cases hr : rmB A B d (mdQ.getD k 0) (mdP.getD k 0) with
      | false => rfl
      | true =>
        exfalso
        rcases iff.mpr hr with ⟨f, f1, f2⟩ | ⟨m, m1, m2, m3⟩
        · exact hno f (by omega) f2
        · obtain ⟨t, ht⟩ := Nat.dvd_of_mod_eq_zero m2
          have e1 : m = t * mdP.getD k 0 := by rw [ht, Nat.mul_comm]
          subst e1
          exact a1 t (Nat.zero_le _) m1 m3
  | succ j ih =>
    intro e n he hn hno
    obtain ⟨n, rfl, hn'⟩ := fuel hn
    have wb := wth_bd hA hB hd (m := 1) (e := (e : Int)) ⟨by omega, by omega⟩ ⟨by omega, by omega⟩
    have eb := em_bd (wth A B d 1 (e : Int)) (p := mdQ.getD k 0) (by omega)
    have hv : f_ClassTable_valueAt_49 (jZ d) (jZ (B.tdiv d)) (1 : Int64) (jZ (e : Int) * jZ (e : Int)) σ = jZ (wth A B d 1 (e : Int)) := by
      rw [jZ_mul]; exact val_49 hA h8 1 (e : Int)
    have hr : wth A B d 1 (e : Int) % (mdQ.getD k 0 : Int) = (((wth A B d 1 (e : Int) % (mdQ.getD k 0 : Int)).toNat : Nat) : Int) := by omega
    have hb := bit (wth A B d 1 (e : Int) % (mdQ.getD k 0 : Int)).toNat (by omega)
    rw [← hr] at hb
    rw [f_ClassTable_mayBeBy_49_l24, if_neg (by rw [iZ_le ⟨by omega, by omega⟩ ⟨by omega, by omega⟩]; omega), i2j ⟨by omega, by omega⟩, i2j ⟨by omega, by omega⟩, i2j (z := (e : Int)) ⟨by omega, by omega⟩, hv, residue_ok (bd_mono wb (by decide)) (by omega) (by omega), Option.bind_some, i1]
    simp only [hb]
    by_cases dd : sqQ (mdQ.getD k 0) (wth A B d 1 (e : Int) % (mdQ.getD k 0 : Int)).toNat = true
    · rw [if_neg (fun z => z dd), iff.mp (Or.inl ⟨e, by omega, dd⟩)]
    · rw [if_pos dd]
      refine ih (e + 1) n (by omega) hn' (fun f hf => ?_)
      by_cases z : f = e
      · subst z; exact dd
      · exact hno f (by omega)
theorem mby_49 {N : Nat} (hN : 10000 ≤ N) (hA : bd 120 A) (hB : bd 4400 B) (hd : bd 4400 d) {k : Nat} (hk : k < 6) {σ : aSt} (h8 : σ.1 49 8 = iZ A) (hM : CM σ) : f_ClassTable_mayBeBy_49 N (iZ d) (iZ (B.tdiv d)) (iZ (k : Int)) σ = some (rmB A B d (mdQ.getD k 0) (mdP.getD k 0)) := by
  have o2 := (md_ok k hk).2.1
  have ci : 0 ≤ iZ (k : Int) ∧ iZ (k : Int) < (6 : Int32) := by rw [show (0 : Int32) = iZ 0 from rfl, show (6 : Int32) = iZ 6 from rfl, iZ_le (bd_lit _ rfl) ⟨by omega, by omega⟩, iZ_lt ⟨by omega, by omega⟩ (bd_lit _ rfl)]; omega
  have cn : ¬ (6 : Int32) ≤ iZ (k : Int) := Int32.not_le.mpr ci.2
  unfold f_ClassTable_mayBeBy_49
  rw [if_neg cn, if_neg cn, if_pos ci.2, if_pos ci, iZ_idx (by omega) (by omega), Int.toNat_natCast, (hM k hk).1, (hM k hk).2.2]
  exact mb24_49 hN hA hB hd hk h8 hM (mdQ.getD k 0) 0 N (by omega) (by omega) (fun f hf => by omega)
theorem mab_49 {N : Nat} (hN : 10000 ≤ N) (hA : bd 120 A) (hB : bd 4400 B) (hd : bd 4400 d) {σ : aSt} (h8 : σ.1 49 8 = iZ A) (hM : CM σ) : f_ClassTable_mayBe_49_b28 N (iZ d) (iZ (B.tdiv d)) σ = some (rmA A B d) := by
  unfold f_ClassTable_mayBe_49_b28
  have step : ∀ (n k : Nat), k < 6 → f_ClassTable_mayBe_49_l30 N σ (n + 1) (iZ d) (iZ (B.tdiv d)) (iZ (k : Int)) = if rmB A B d (mdQ.getD k 0) (mdP.getD k 0) = true then f_ClassTable_mayBe_49_l30 N σ n (iZ d) (iZ (B.tdiv d)) (iZ ((k + 1 : Nat) : Int)) else some false := fun n k hk => by
    rw [f_ClassTable_mayBe_49_l30, if_neg (by rw [show (6 : Int32) = iZ 6 from rfl, iZ_le (bd_lit _ rfl) ⟨by omega, by omega⟩]; omega), mby_49 hN hA hB hd hk h8 hM, Option.bind_some, i1]
  obtain ⟨n, rfl⟩ : ∃ n, N = n + 7 := ⟨N - 7, by omega⟩
  show f_ClassTable_mayBe_49_l30 (n + 7) σ (n + 7) (iZ d) (iZ (B.tdiv d)) (iZ ((0 : Nat) : Int)) = _
  unfold rmA
  rw [step (n + 6) 0 (by omega)]
  show (if rmB A B d 16 2 = true then _ else _) = _
  cases rmB A B d 16 2
  · rfl
  rw [if_pos rfl, step (n + 5) 1 (by omega)]
  show (if rmB A B d 9 3 = true then _ else _) = _
  cases rmB A B d 9 3
  · rfl
  rw [if_pos rfl, step (n + 4) 2 (by omega)]
  show (if rmB A B d 25 5 = true then _ else _) = _
  cases rmB A B d 25 5
  · rfl
  rw [if_pos rfl, step (n + 3) 3 (by omega)]
  show (if rmB A B d 49 7 = true then _ else _) = _
  cases rmB A B d 49 7
  · rfl
  rw [if_pos rfl, step (n + 2) 4 (by omega)]
  show (if rmB A B d 11 11 = true then _ else _) = _
  cases rmB A B d 11 11
  · rfl
  rw [if_pos rfl, step (n + 1) 5 (by omega)]
  show (if rmB A B d 13 13 = true then _ else _) = _
  cases rmB A B d 13 13
  · rfl
  rw [if_pos rfl, f_ClassTable_mayBe_49_l30, if_pos (by decide)]
  rfl
theorem may_49 {N : Nat} (hN : 10000 ≤ N) (hA : bd 120 A) (hB : bd 4400 B) (hd : bd 4400 d) (hd0 : d ≠ 0) (hc0 : B.tdiv d ≠ 0) {σ : aSt} (h8 : σ.1 49 8 = iZ A) (h9 : σ.1 49 9 = iZ B) (hM : CM σ) : f_ClassTable_mayBe_49 N (iZ d) σ = some (psB A B d) := by
  have := hd.1; have := hd.2; have := hB.1; have := hB.2; have := hA.1; have := hA.2
  have tb := bd_tdiv d hB
  have := tb.1; have := tb.2
  have ab := bd_mul hA hA
  have := ab.1; have := ab.2
  have eq : (f_Whole_quotient (σ.1 49 9).toInt64 (iZ d).toInt64).toInt32 = iZ (B.tdiv d) := by
    rw [h9, i2j ⟨by omega, by omega⟩, i2j ⟨by omega, by omega⟩, quot_Z ⟨by omega, by omega⟩ ⟨by omega, by omega⟩, j2i]
  unfold f_ClassTable_mayBe_49
  rw [eq, mab_49 hN hA hB hd h8 hM, h8, h9, show (4 : Int32) = iZ 4 from rfl, show (0 : Int32) = iZ 0 from rfl, iZ_mul, iZ_mul, iZ_sub]
  have c1 : (iZ 0 ≤ iZ d) = (0 ≤ d) := iZ_le (bd_lit _ rfl) ⟨by omega, by omega⟩
  have c2 : (iZ 0 ≤ iZ (B.tdiv d)) = (0 ≤ B.tdiv d) := iZ_le (bd_lit _ rfl) ⟨by omega, by omega⟩
  have c3 : (iZ A ≤ iZ 0) = (A ≤ 0) := iZ_le ⟨by omega, by omega⟩ (bd_lit _ rfl)
  have c4 : (iZ 0 < iZ (A * A - 4 * B)) = (0 < A * A - 4 * B) := iZ_lt (bd_lit _ rfl) ⟨by omega, by omega⟩
  simp only [c1, c2, c3, c4]
  unfold psB sgB
  by_cases d1 : 0 ≤ d
  · rw [if_pos d1, decide_eq_true (Or.inl (by omega)), Bool.true_and]
  · rw [if_neg d1]
    by_cases d2 : 0 ≤ B.tdiv d
    · rw [if_pos d2, decide_eq_true (Or.inr (Or.inl (by omega))), Bool.true_and]
    · rw [if_neg d2]
      by_cases d3 : A ≤ 0
      · rw [if_pos d3, decide_eq_false (by omega), Bool.false_and]
      · rw [if_neg d3]
        by_cases d4 : 0 < A * A - 4 * B
        · rw [if_pos d4, decide_eq_true (by omega), Bool.true_and]
        · rw [if_neg d4, decide_eq_false (by omega), Bool.false_and]
theorem sr19_49 {N : Nat} (hN : 10000 ≤ N) (hA : bd 120 A) (hB : bd 4400 B) (hd : bd 4400 d) {k e : Nat} (hk : k < 64) (he : e ≤ 20) {K : Int32 → Int32 → Int32 → Int32 → aSt → Option aSt} {σ : aSt} (h8 : σ.1 49 8 = iZ A) : ∀ (j m n : Nat), m + j = 21 → j + 1 ≤ n → f_ClassTable_search_49_l19 N K n (iZ k) (iZ d) (iZ (B.tdiv d)) (iZ e) (iZ ((e : Int) * e)) (iZ (m : Int)) σ = (match sqM A B d e j m with
    | none => K (iZ k) (iZ d) (iZ (B.tdiv d)) (iZ e) σ
    | some m' => some (s_i (s_i σ 53 k (iZ m')) 54 k (iZ e))) := by
  have := hd.1; have := hd.2
  have tb := bd_tdiv d hB
  have := tb.1; have := tb.2
  intro j
  induction j with
  | zero =>
    intro m n hm hn
    obtain ⟨n, rfl, _⟩ := fuel hn
    rw [f_ClassTable_search_49_l19, if_pos (by rw [show (20 : Int32) = iZ 20 from rfl, iZ_lt (bd_lit _ rfl) ⟨by omega, by omega⟩]; omega)]
    rfl
  | succ j ih =>
    intro m n hm hn
    obtain ⟨n, rfl, hn'⟩ := fuel hn
    have wb := wth_bd hA hB hd (m := (m : Int)) (e := (e : Int)) ⟨by omega, by omega⟩ ⟨by omega, by omega⟩
    have w1 := wb.1; have w2 := wb.2
    have hgc : (Int.gcd (m : Int) (e : Int) : Int) ≤ 40 := by
      have : Int.gcd (m : Int) (e : Int) ≤ m + e := by
        have e1 : Int.gcd (m : Int) (e : Int) = Nat.gcd m e := rfl
        rw [e1]
        rcases Nat.eq_zero_or_pos m with z | z
        · subst z; rw [Nat.gcd_zero_left]; omega
        · have := Nat.le_of_dvd z (Nat.gcd_dvd_left m e); omega
      omega
    have hv : f_ClassTable_valueAt_49 (iZ d).toInt64 (iZ (B.tdiv d)).toInt64 (iZ (m : Int) * iZ (m : Int)).toInt64 (iZ ((e : Int) * e)).toInt64 σ = jZ (wth A B d (m : Int) (e : Int)) := by
      rw [iZ_mul, i2j ⟨by omega, by omega⟩, i2j ⟨by omega, by omega⟩, i2j (mm20 (by omega)), i2j (mm20 (by omega))]
      exact val_49 hA h8 (m : Int) (e : Int)
    have sF : ∀ (τ : aSt) (v : Int32), f_store τ 53 (iZ (k : Int)) v = s_i τ 53 k v := fun τ v => stN (n := 64) (by decide) rfl (by omega) hk
    have sE : ∀ (τ : aSt) (v : Int32), f_store τ 54 (iZ (k : Int)) v = s_i τ 54 k v := fun τ v => stN (n := 64) (by decide) rfl (by omega) hk
    rw [f_ClassTable_search_49_l19, if_neg (by rw [show (20 : Int32) = iZ 20 from rfl, iZ_lt (bd_lit _ rfl) ⟨by omega, by omega⟩]; omega), hv, rootOf_Z hN (bd_mono wb (by decide)), Option.bind_some, i2j (z := (m : Int)) ⟨by omega, by omega⟩, i2j (z := (e : Int)) ⟨by omega, by omega⟩, gcd_Z hN ⟨by omega, by omega⟩ ⟨by omega, by omega⟩, Option.bind_some, i1, ih (m + 1) n (by omega) hn', sqM_s]
    simp only [lt_eq]
    rw [sF, sE]
    have rb : rtA (wth A B d (m : Int) (e : Int)) ≤ 3037000499 ∧ -1 ≤ rtA (wth A B d (m : Int) (e : Int)) := by
      unfold rtA
      split
      · have := rt_lt (v := (wth A B d (m : Int) (e : Int)).toNat) (by omega)
        omega
      · omega
    have c1 : (jZ (wth A B d (m : Int) (e : Int)) < (0 : Int64)) = (wth A B d (m : Int) (e : Int) < 0) := by rw [show (0 : Int64) = jZ 0 from rfl]; exact jZ_lt (bd_mono wb (by decide)) (bd_lit _ rfl)
    have c2 : (jZ (rtA (wth A B d (m : Int) (e : Int))) < (0 : Int64)) = (rtA (wth A B d (m : Int) (e : Int)) < 0) := by rw [show (0 : Int64) = jZ 0 from rfl]; exact jZ_lt ⟨by omega, by omega⟩ (bd_lit _ rfl)
    have c3 : (jZ (Int.gcd (m : Int) (e : Int) : Int) = (1 : Int64)) = (Int.gcd (m : Int) (e : Int) = 1) := by
      rw [show (1 : Int64) = jZ 1 from rfl, jZ_eq ⟨by omega, by omega⟩ (bd_lit _ rfl)]; apply propext; omega
    simp only [c1, c2, c3]
    by_cases d2 : isq (wth A B d (m : Int) (e : Int)) = true
    · rw [if_neg (show ¬ wth A B d (m : Int) (e : Int) < 0 by have := isq_nn d2; omega), if_neg (fun z => rtA_neg.mp z d2)]
      by_cases d1 : Int.gcd (m : Int) (e : Int) = 1
      · rw [if_pos d1, if_pos (c := Int.gcd (m : Int) (e : Int) = 1 ∧ isq (wth A B d (m : Int) (e : Int)) = true) ⟨d1, d2⟩]
      · rw [if_neg d1, if_neg (c := Int.gcd (m : Int) (e : Int) = 1 ∧ isq (wth A B d (m : Int) (e : Int)) = true) (fun z => d1 z.1)]
    · rw [if_neg (c := Int.gcd (m : Int) (e : Int) = 1 ∧ isq (wth A B d (m : Int) (e : Int)) = true) (fun z => d2 z.2), if_pos (rtA_neg.mpr d2)]
      split <;> rfl
theorem sr10_49 {N : Nat} (hN : 10000 ≤ N) (hA : bd 120 A) (hB : bd 4400 B) (hd : bd 4400 d) {k : Nat} (hk : k < 64) {σ : aSt} (h8 : σ.1 49 8 = iZ A) : ∀ (j e n : Nat), e + j = 21 → j + 1 ≤ n → f_ClassTable_search_49_l10 N n (iZ k) (iZ d) (iZ (B.tdiv d)) (iZ (e : Int)) σ = (match sqE A B d j e with
    | none => some σ
    | some (m, f) => some (s_i (s_i σ 53 k (iZ m)) 54 k (iZ f))) := by
  intro j
  induction j with
  | zero =>
    intro e n he hn
    obtain ⟨n, rfl, _⟩ := fuel hn
    rw [f_ClassTable_search_49_l10, if_pos (by rw [show (20 : Int32) = iZ 20 from rfl, iZ_lt (bd_lit _ rfl) ⟨by omega, by omega⟩]; omega)]
    rfl
  | succ j ih =>
    intro e n he hn
    obtain ⟨n, rfl, hn'⟩ := fuel hn
    rw [f_ClassTable_search_49_l10, if_neg (by rw [show (20 : Int32) = iZ 20 from rfl, iZ_lt (bd_lit _ rfl) ⟨by omega, by omega⟩]; omega), iZ_mul]
    have e7 := sr19_49 (N := N) hN hA hB hd hk (e := e) (by omega) (K := fun (y10 : Int32) (y11 : Int32) (y12 : Int32) (y13 : Int32) σ14 => f_ClassTable_search_49_l10 N n y10 y11 y12 (y13 + (1 : Int32)) σ14) h8 21 0 N (by omega) (by omega)
    refine Eq.trans e7 ?_
    rw [sqE_s]
    cases hr : sqM A B d e 21 0 with
    | none =>
      show f_ClassTable_search_49_l10 N n (iZ k) (iZ d) (iZ (B.tdiv d)) (iZ (e : Int) + (1 : Int32)) σ = _
      rw [i1, ih (e + 1) n (by omega) hn']
    | some m => rfl
theorem sr_49 {N : Nat} (hN : 10000 ≤ N) (hA : bd 120 A) (hB : bd 4400 B) (hd : bd 4400 d) {k : Nat} (hk : k < 64) {σ : aSt} (h8 : σ.1 49 8 = iZ A) (h9 : σ.1 49 9 = iZ B) : f_ClassTable_search_49 N (iZ k) (iZ d) σ = (match sqF A B d with
    | none => some σ
    | some (m, f) => some (s_i (s_i σ 53 k (iZ m)) 54 k (iZ f))) := by
  have := hd.1; have := hd.2; have := hB.1; have := hB.2
  unfold f_ClassTable_search_49
  rw [h9, i2j ⟨by omega, by omega⟩, i2j ⟨by omega, by omega⟩, quot_Z ⟨by omega, by omega⟩ ⟨by omega, by omega⟩, j2i]
  exact sr10_49 hN hA hB hd hk h8 21 0 N (by omega) (by omega)
end JT
def MS_49 (S : Nat → Bool) (σ : aSt) : Prop := ∀ m, m < 64 → σ.1 55 m = iZ (if S m = true then 1 else 0)
theorem MS_49_pk {S : Nat → Bool} {σ : aSt} (h : MS_49 S σ) {m : Nat} (hm : m < 64) : (f_pick σ 55 (iZ (m : Int)) = 0) = ¬ (S m = true) := by
  rw [pkN (n := 64) (by decide) rfl (by omega) hm, h m hm]
  by_cases c : S m = true
  · rw [if_pos c]; simp [c]; decide
  · rw [if_neg c]; simp [c]; decide
def frM_49 : Nat → Nat → Bool := fun o _ => Nat.beq o 55
theorem mp8_49 {N : Nat} {S : Nat → Bool} {m : Nat} (hm : m < 64) : ∀ (i j n : Nat) (σ : aSt), j + i = 64 → i + 1 ≤ n → MS_49 (CjS S m j) σ → ∃ σ', f_ClassTable_makeProducts_49_l8 N n (iZ (m : Int)) (iZ (j : Int)) σ = some σ' ∧ MS_49 (mkS S m) σ' ∧ fr frM_49 σ σ' := by
  intro i
  induction i with
  | zero =>
    intro j n σ hj hn hS
    obtain ⟨n, rfl, _⟩ := fuel hn
    rw [f_ClassTable_makeProducts_49_l8, if_pos (by rw [show (64 : Int32) = iZ 64 from rfl, iZ_le (bd_lit _ rfl) ⟨by omega, by omega⟩]; omega)]
    refine ⟨σ, rfl, fun k hk => ?_, fr_refl _ _⟩
    rw [hS k hk]
    have : CjS S m j k = mkS S m k := by
      unfold CjS mkS
      have l := x64 hk hm
      have b : Nat.blt (k ^^^ m) j = true := by rw [Nat.blt_eq]; omega
      rw [b, Bool.and_true]
    rw [this]
  | succ i ih =>
    intro j n σ hj hn hS
    obtain ⟨n, rfl, hn'⟩ := fuel hn
    have hj64 : j < 64 := by omega
    have lx := x64 hj64 hm
    rw [f_ClassTable_makeProducts_49_l8, if_neg (by rw [show (64 : Int32) = iZ 64 from rfl, iZ_le (bd_lit _ rfl) ⟨by omega, by omega⟩]; omega), ixor j hj64 m hm, i1]
    simp only [lt_eq, MS_49_pk hS hj64]
    have bs : ∀ x, x ≠ j → Nat.blt x (j + 1) = Nat.blt x j := fun x hx => by
      by_cases q : x < j
      · rw [(Nat.blt_eq).mpr q, (Nat.blt_eq).mpr (show x < j + 1 by omega)]
      · have a1 : Nat.blt x j = false := ft_tt (fun z => q (Nat.blt_eq.mp z))
        have a2 : Nat.blt x (j + 1) = false := ft_tt (fun z => by have := Nat.blt_eq.mp z; omega)
        rw [a1, a2]
    by_cases c : CjS S m j j = true
    · rw [if_neg (fun z => z c), stN (row := 55) (n := 64) (by decide) rfl (by omega) lx]
      have f1 : fr frM_49 σ (s_i σ 55 (j ^^^ m) (1 : Int32)) := fr_si rfl
      obtain ⟨σ', g1, g2, g3⟩ := ih (j + 1) n (s_i σ 55 (j ^^^ m) (1 : Int32)) (by omega) hn' (fun k hk => by
        by_cases e : k = j ^^^ m
        · subst e
          rw [si_eq]
          have : CjS S m (j + 1) (j ^^^ m) = true := by
            unfold CjS at c ⊢
            rw [xx]
            have b1 : Nat.blt j (j + 1) = true := by rw [Nat.blt_eq]; omega
            rw [b1, Bool.and_true]
            rw [Bool.or_eq_true] at c ⊢
            rcases c with c | c
            · exact Or.inr c
            · rw [Bool.and_eq_true] at c; exact Or.inl c.1
          rw [this, if_pos rfl]; rfl
        · rw [si_ne (Or.inr e), hS k hk]
          have : CjS S m j k = CjS S m (j + 1) k := by
            unfold CjS
            rw [bs (k ^^^ m) (fun z => e (by rw [← z, xx]))]
          rw [this])
      exact ⟨σ', g1, g2, fr_trans f1 g3⟩
    · rw [if_pos c]
      refine ih (j + 1) n σ (by omega) hn' (fun k hk => ?_)
      rw [hS k hk]
      have : CjS S m j k = CjS S m (j + 1) k := by
        unfold CjS
        by_cases e : k ^^^ m = j
        · rw [e]
          have sj : S j = false := ft_tt (fun z => c (by unfold CjS; rw [z]; rfl))
          rw [sj]; rfl
        · rw [bs (k ^^^ m) e]
      rw [this]
theorem mp_49 {N : Nat} (hN : 10000 ≤ N) {S : Nat → Bool} {m : Nat} (hm : m < 64) {σ : aSt} (hS : MS_49 S σ) : ∃ σ', f_ClassTable_makeProducts_49 N (iZ (m : Int)) σ = some σ' ∧ MS_49 (if S m = true then S else mkS S m) σ' ∧ fr frM_49 σ σ' := by
  unfold f_ClassTable_makeProducts_49
  simp only [MS_49_pk hS hm]
  by_cases c : S m = true
  · rw [if_neg (fun z => z c), if_pos c]
    exact ⟨σ, rfl, hS, fr_refl _ _⟩
  · rw [if_pos c, if_neg c]
    exact mp8_49 hm 64 0 N σ (by omega) (by omega) (fun k hk => by
      rw [hS k hk]
      have : CjS S m 0 k = S k := by
        unfold CjS
        have b : Nat.blt (k ^^^ m) 0 = false := ft_tt (fun z => by have := Nat.blt_eq.mp z; omega)
        rw [b, Bool.and_false, Bool.or_false]
      rw [this])
theorem dv_49 {L : List (Nat × Nat)} {σ : aSt} (hX : XA_49 L σ) (hl : L.length ≤ 32) {k : Nat} (hk : k < 2 * L.length) : f_ClassTable_divisor_49 (iZ (k : Int)) σ = iZ (dvK (L.map Prod.fst) k) := by
  have h := (hX (k / 2) (by omega)).1
  unfold f_ClassTable_divisor_49 dvK
  rw [show (2 : Int32) = iZ ((2 : Nat) : Int) from rfl, iZ_rem ⟨by omega, by omega⟩ (bd_lit _ rfl), iZ_div ⟨by omega, by omega⟩ (bd_lit _ rfl), nat_rem, nat_div, pkD_49 (by omega), h, gD_map (by omega), iZ_neg]
  have c : (iZ ((k % 2 : Nat) : Int) ≠ 0) = ¬ (k % 2 = 0) := by rw [ne_eq, show (0 : Int32) = iZ 0 from rfl, iZ_eq ⟨by omega, by omega⟩ (bd_lit _ rfl)]; apply propext; omega
  simp only [c]
  by_cases d : k % 2 = 0
  · rw [if_neg (fun z => z d), if_pos d]
  · rw [if_pos d, if_neg d]
theorem mk_49 {L : List (Nat × Nat)} {σ : aSt} (hX : XA_49 L σ) (hl : L.length ≤ 32) {k : Nat} (hk : k < 2 * L.length) : f_ClassTable_mask_49 (iZ (k : Int)) σ = iZ ((mskK L k : Nat) : Int) := by
  have h := (hX (k / 2) (by omega)).2
  unfold f_ClassTable_mask_49 mskK
  rw [show (2 : Int32) = iZ ((2 : Nat) : Int) from rfl, iZ_rem ⟨by omega, by omega⟩ (bd_lit _ rfl), iZ_div ⟨by omega, by omega⟩ (bd_lit _ rfl), nat_rem, nat_div, pkK_49 (by omega), h, show (32 : Int32) = iZ 32 from rfl, iZ_add, show iZ ((L.getD (k / 2) (0, 0)).2 : Int) + (0 : Int32) = iZ (((L.getD (k / 2) (0, 0)).2 : Int) + 0) from iZ_add _ 0]
  have c : (iZ ((k % 2 : Nat) : Int) ≠ 0) = ¬ (k % 2 = 0) := by rw [ne_eq, show (0 : Int32) = iZ 0 from rfl, iZ_eq ⟨by omega, by omega⟩ (bd_lit _ rfl)]; apply propext; omega
  simp only [c]
  by_cases d : k % 2 = 0
  · rw [if_neg (fun z => z d), if_pos d]; rfl
  · rw [if_pos d, if_neg d]; rfl
