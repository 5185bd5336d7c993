/-! CLASSES: what the reference seeks -/
def wth (A B d m e : Int) : Int := d * m * m * m * m + A * m * m * e * e + B.tdiv d * e * e * e * e
theorem wth_bd {A B d m e : Int} (hA : bd 120 A) (hB : bd 4400 B) (hd : bd 4400 d) (hm : bd 49 m) (he : bd 49 e) : bd 400000000000 (wth A B d m e) := by
  have h := bd_add (bd_add (bd_mul (bd_mul (bd_mul (bd_mul hd hm) hm) hm) hm) (bd_mul (bd_mul (bd_mul (bd_mul hA hm) hm) he) he)) (bd_mul (bd_mul (bd_mul (bd_mul (bd_tdiv d hB) he) he) he) he)
  exact bd_mono h (by decide)
def SD (A B : Int) (τ : aSt) : Prop := τ.2.1 66 38 = jZ A ∧ τ.2.1 66 39 = jZ B
def sqM (A B d : Int) (e : Nat) : Nat → Nat → Option Nat
  | 0, _ => none
  | j + 1, m => if Int.gcd (m : Int) (e : Int) = 1 ∧ isq (wth A B d m e) = true then some m else sqM A B d e j (m + 1)
def sqE (A B d : Int) : Nat → Nat → Option (Nat × Nat)
  | 0, _ => none
  | j + 1, e => match sqM A B d e 21 0 with
    | some m => some (m, e)
    | none => sqE A B d j (e + 1)
def sqF (A B d : Int) : Option (Nat × Nat) := sqE A B d 21 0
theorem sqM_s (A B d : Int) (e j m : Nat) : sqM A B d e (j + 1) m = if Int.gcd (m : Int) (e : Int) = 1 ∧ isq (wth A B d m e) = true then some m else sqM A B d e j (m + 1) := rfl
theorem sqE_s (A B d : Int) (j e : Nat) : sqE A B d (j + 1) e = match sqM A B d e 21 0 with
    | some m => some (m, e)
    | none => sqE A B d j (e + 1) := rfl
theorem sqM_in {A B d : Int} {e : Nat} : ∀ j m r, sqM A B d e j m = some r → m ≤ r ∧ r < m + j ∧ Int.gcd (r : Int) (e : Int) = 1 ∧ isq (wth A B d r e) = true := by
  intro j
  induction j with
  | zero => intro m r h; cases h
  | succ j ih =>
    intro m r h
    rw [sqM_s] at h
    by_cases c : Int.gcd (m : Int) (e : Int) = 1 ∧ isq (wth A B d m e) = true
    · rw [if_pos c] at h
      have := Option.some.inj h
      subst this
      exact ⟨Nat.le_refl _, by omega, c.1, c.2⟩
    · rw [if_neg c] at h
      have := ih (m + 1) r h
      exact ⟨by omega, by omega, this.2.2.1, this.2.2.2⟩
theorem sqE_in {A B d : Int} : ∀ j e m f, sqE A B d j e = some (m, f) → m ≤ 20 ∧ f < e + j ∧ Int.gcd (m : Int) (f : Int) = 1 ∧ isq (wth A B d m f) = true := by
  intro j
  induction j with
  | zero => intro e m f h; cases h
  | succ j ih =>
    intro e m f h
    rw [sqE_s] at h
    cases hr : sqM A B d e 21 0 with
    | none =>
      rw [hr] at h
      have := ih (e + 1) m f h
      exact ⟨this.1, by omega, this.2.2⟩
    | some r =>
      rw [hr] at h
      have h' := Option.some.inj h
      have e1 : r = m := congrArg Prod.fst h'
      have e2 : e = f := congrArg Prod.snd h'
      subst e1; subst e2
      have := sqM_in 21 0 r hr
      exact ⟨by omega, by omega, this.2.2⟩
theorem sqF_in {A B d : Int} {m f : Nat} (h : sqF A B d = some (m, f)) : m ≤ 20 ∧ f ≤ 20 ∧ Int.gcd (m : Int) (f : Int) = 1 ∧ isq (wth A B d m f) = true := by
  have := sqE_in 21 0 m f h
  exact ⟨this.1, by omega, this.2.2⟩
section SID
variable {A B d : Int}
theorem worthM {N : Nat} (hA : bd 120 A) (hB : bd 4400 B) (hd : bd 4400 d) (hd0 : d ≠ 0) {τ : aSt} (h : SD A B τ) (m e : Int) : f_M_worthOf N (jZ d) (jZ m) (jZ e) τ = some (jZ (wth A B d m e)) := by
  have := hB.1; have := hB.2; have := hd.1; have := hd.2
  unfold f_M_worthOf wth
  rw [if_pos (by rw [show (0 : Int64) = jZ 0 from rfl, jZ_eq ⟨by omega, by omega⟩ (bd_lit _ rfl)]; exact hd0), h.1, h.2, jZ_div ⟨by omega, by omega⟩ ⟨by omega, by omega⟩]
  simp only [jZ_mul, jZ_add]
theorem seeks7 {N : Nat} (hN : 10000 ≤ N) (hA : bd 120 A) (hB : bd 4400 B) (hd : bd 4400 d) (hd0 : d ≠ 0) {k e : Nat} (hk : k < 64) (he : e ≤ 20) {K : Int32 → Int32 → aSt → Option (Bool × aSt)} {τ : aSt} (h : SD A B τ) (h73 : τ.1 73 k = iZ d) : ∀ (j m n : Nat), m + j = 21 → j + 1 ≤ n → f_M_seeks_l7 N K n (iZ k) (iZ e) (iZ (m : Int)) τ = (match sqM A B d e j m with
    | none => K (iZ k) (iZ e) τ
    | some m' => some (true, s_i (s_i τ 75 k (iZ m')) 76 k (iZ e))) := by
  have := hd.1; have := hd.2
  intro j
  induction j with
  | zero =>
    intro m n hm hn
    obtain ⟨n, rfl, _⟩ := fuel hn
    rw [f_M_seeks_l7, if_pos (by rw [show (20 : Int32) = iZ 20 from rfl, iZ_lt (bd_lit _ rfl) ⟨by omega, by omega⟩]; omega)]
    rfl
  | succ j ih =>
    intro m n hm hn
    obtain ⟨n, rfl, hn'⟩ := fuel hn
    have wb := wth_bd hA hB hd (m := (m : Int)) (e := (e : Int)) ⟨by omega, by omega⟩ ⟨by omega, by omega⟩
    have hgc : (Int.gcd (m : Int) (e : Int) : Int) ≤ 40 := by
      have : Int.gcd (m : Int) (e : Int) ≤ m + e := by
        have e1 : Int.gcd (m : Int) (e : Int) = Nat.gcd m e := rfl
        rw [e1]
        rcases Nat.eq_zero_or_pos m with z | z
        · subst z; rw [Nat.gcd_zero_left]; omega
        · have := Nat.le_of_dvd z (Nat.gcd_dvd_left m e); omega
      omega
    rw [f_M_seeks_l7, if_neg (by rw [show (20 : Int32) = iZ 20 from rfl, iZ_lt (bd_lit _ rfl) ⟨by omega, by omega⟩]; omega), i2j ⟨by omega, by omega⟩, i2j ⟨by omega, by omega⟩, common_Z hN ⟨by omega, by omega⟩ ⟨by omega, by omega⟩, Option.bind_some, i1, if_pos (c := 0 ≤ iZ (k : Int) ∧ iZ (k : Int) < (64 : Int32)) (by rw [show (0 : Int32) = iZ 0 from rfl, show (64 : Int32) = iZ 64 from rfl, iZ_le (bd_lit _ rfl) ⟨by omega, by omega⟩, iZ_lt ⟨by omega, by omega⟩ (bd_lit _ rfl)]; omega), iZ_idx (by omega) (by omega), Int.toNat_natCast, h73, i2j ⟨by omega, by omega⟩, worthM hA hB hd hd0 h, Option.bind_some, isSquare_Z hN (bd_mono wb (by decide)), Option.bind_some, ih (m + 1) n (by omega) hn', sqM_s]
    have c1 : (jZ (Int.gcd (m : Int) (e : Int) : Int) ≠ (1 : Int64)) = ¬ (Int.gcd (m : Int) (e : Int) = 1) := by
      rw [ne_eq, show (1 : Int64) = jZ 1 from rfl, jZ_eq ⟨by omega, by omega⟩ (bd_lit _ rfl)]; apply propext; omega
    simp only [c1]
    by_cases d1 : Int.gcd (m : Int) (e : Int) = 1
    · rw [if_neg (c := ¬ Int.gcd (m : Int) (e : Int) = 1) (fun z => z d1)]
      by_cases d2 : isq (wth A B d m e) = true
      · rw [if_pos d2, if_pos (c := Int.gcd (m : Int) (e : Int) = 1 ∧ isq (wth A B d m e) = true) ⟨d1, d2⟩]
      · rw [if_neg d2, if_neg (c := Int.gcd (m : Int) (e : Int) = 1 ∧ isq (wth A B d m e) = true) (fun z => d2 z.2)]
    · rw [if_pos d1, if_neg (c := Int.gcd (m : Int) (e : Int) = 1 ∧ isq (wth A B d m e) = true) (fun z => d1 z.1)]
theorem seeks2 {N : Nat} (hN : 10000 ≤ N) (hA : bd 120 A) (hB : bd 4400 B) (hd : bd 4400 d) (hd0 : d ≠ 0) {k : Nat} (hk : k < 64) {τ : aSt} (h : SD A B τ) (h73 : τ.1 73 k = iZ d) : ∀ (j e n : Nat), e + j = 21 → j + 1 ≤ n → f_M_seeks_l2 N n (iZ k) (iZ (e : Int)) τ = (match sqE A B d j e with
    | none => some (false, τ)
    | some (m, f) => some (true, s_i (s_i τ 75 k (iZ m)) 76 k (iZ f))) := by
  intro j
  induction j with
  | zero =>
    intro e n he hn
    obtain ⟨n, rfl, _⟩ := fuel hn
    rw [f_M_seeks_l2, if_pos (by rw [show (20 : Int32) = iZ 20 from rfl, iZ_lt (bd_lit _ rfl) ⟨by omega, by omega⟩]; omega)]
    rfl
  | succ j ih =>
    intro e n he hn
    obtain ⟨n, rfl, hn'⟩ := fuel hn
    rw [f_M_seeks_l2, if_neg (by rw [show (20 : Int32) = iZ 20 from rfl, iZ_lt (bd_lit _ rfl) ⟨by omega, by omega⟩]; omega)]
    have e7 := seeks7 (N := N) hN hA hB hd hd0 hk (e := e) (by omega) (K := fun (y9 : Int32) (y10 : Int32) σ11 => f_M_seeks_l2 N n y9 (y10 + (1 : Int32)) σ11) h h73 21 0 N (by omega) (by omega)
    refine Eq.trans e7 ?_
    rw [sqE_s]
    cases hr : sqM A B d e 21 0 with
    | none =>
      show f_M_seeks_l2 N n (iZ k) (iZ (e : Int) + (1 : Int32)) τ = _
      rw [i1, ih (e + 1) n (by omega) hn']
    | some m => rfl
theorem seeks_ok {N : Nat} (hN : 10000 ≤ N) (hA : bd 120 A) (hB : bd 4400 B) (hd : bd 4400 d) (hd0 : d ≠ 0) {k : Nat} (hk : k < 64) {τ : aSt} (h : SD A B τ) (h73 : τ.1 73 k = iZ d) : f_M_seeks N (iZ k) τ = (match sqF A B d with
    | none => some (false, τ)
    | some (m, f) => some (true, s_i (s_i τ 75 k (iZ m)) 76 k (iZ f))) := seeks2 hN hA hB hd hd0 hk h h73 21 0 N (by omega) (by omega)
def sgB (A B d : Int) : Bool := decide (0 < d ∨ 0 < B.tdiv d ∨ (0 < A ∧ 0 < A * A - 4 * B))
theorem signs_ok {N : Nat} (hA : bd 120 A) (hB : bd 4400 B) (hd : bd 4400 d) (hd0 : d ≠ 0) {τ : aSt} (h : SD A B τ) : f_M_bySigns N (jZ d) τ = some (sgB A B d) := by
  have := hB.1; have := hB.2; have := hd.1; have := hd.2; have := hA.1; have := hA.2
  have tb := bd_tdiv d hB
  have := tb.1; have := tb.2
  have ab := bd_mul hA hA
  have := ab.1; have := ab.2
  unfold f_M_bySigns sgB
  rw [h.1, h.2, if_pos (c := ¬ jZ d = 0) (by rw [show (0 : Int64) = jZ 0 from rfl, jZ_eq ⟨by omega, by omega⟩ (bd_lit _ rfl)]; exact hd0), jZ_div ⟨by omega, by omega⟩ ⟨by omega, by omega⟩, show (4 : Int64) = jZ 4 from rfl, show (0 : Int64) = jZ 0 from rfl, jZ_mul, jZ_mul, jZ_sub]
  have c1 : (jZ 0 < jZ d) = (0 < d) := jZ_lt (bd_lit _ rfl) ⟨by omega, by omega⟩
  have c2 : (jZ 0 < jZ (B.tdiv d)) = (0 < B.tdiv d) := jZ_lt (bd_lit _ rfl) ⟨by omega, by omega⟩
  have c3 : (jZ A ≤ jZ 0) = (A ≤ 0) := jZ_le ⟨by omega, by omega⟩ (bd_lit _ rfl)
  have c4 : (jZ (A * A - 4 * B) ≤ jZ 0) = (A * A - 4 * B ≤ 0) := jZ_le ⟨by omega, by omega⟩ (bd_lit _ rfl)
  simp only [c1, c2, c3, c4]
  by_cases d1 : 0 < d
  · rw [if_pos d1, decide_eq_true (Or.inl d1)]
  · rw [if_neg d1]
    by_cases d2 : 0 < B.tdiv d
    · rw [if_pos d2, decide_eq_true (Or.inr (Or.inl d2))]
    · rw [if_neg d2]
      by_cases d3 : A ≤ 0
      · rw [if_pos d3, decide_eq_false (by omega)]
      · rw [if_neg d3]
        by_cases d4 : A * A - 4 * B ≤ 0
        · rw [if_pos d4, decide_eq_false (by omega)]
        · rw [if_neg d4, decide_eq_true (by omega)]
def sqQ (q r : Nat) : Bool := decide (∃ k, k < q ∧ k * k % q = r)
/-- one modulus -/
def cdQ (A B d : Int) (q pr m e : Nat) : Prop := ¬ (m % pr = 0 ∧ e % pr = 0) ∧ sqQ q (wth A B d m e % (q : Int)).toNat = true
def rmB (A B d : Int) (q pr : Nat) : Bool := decide (∃ m, m < q ∧ ∃ e, e < q ∧ (¬ (m % pr = 0 ∧ e % pr = 0) ∧ sqQ q (wth A B d m e % (q : Int)).toNat = true))
theorem one35 {N : Nat} (hA : bd 120 A) (hB : bd 4400 B) (hd : bd 4400 d) (hd0 : d ≠ 0) {q pr m : Nat} (hq : 2 ≤ q) (hq2 : q ≤ 49) (hpr : 2 ≤ pr) (hpr2 : pr ≤ 49) (hm : m < q) {K : Int64 → Int32 → Int32 → Int32 → aSt → Option (Bool × aSt)} {τ : aSt} (h : SD A B τ) (h79 : ∀ r, r < q → τ.2.2 79 r = sqQ q r) : ∀ (j e n : Nat), e + j = q → j + 1 ≤ n → ((∃ f, f < q ∧ e ≤ f ∧ cdQ A B d q pr m f) ∧ f_M_byOne_l35 N K n (jZ d) (iZ q) (iZ pr) (iZ m) (iZ (e : Int)) τ = some (true, τ)) ∨ ((∀ f, f < q → e ≤ f → ¬ cdQ A B d q pr m f) ∧ f_M_byOne_l35 N K n (jZ d) (iZ q) (iZ pr) (iZ m) (iZ (e : Int)) τ = K (jZ d) (iZ q) (iZ pr) (iZ m) τ) := by
  intro j
  induction j with
  | zero =>
    intro e n he hn
    obtain ⟨n, rfl, _⟩ := fuel hn
    rw [f_M_byOne_l35, if_pos (by rw [iZ_le ⟨by omega, by omega⟩ ⟨by omega, by omega⟩]; omega)]
    exact Or.inr ⟨fun f h1 h2 => by omega, rfl⟩
  | succ j ih =>
    intro e n he hn
    obtain ⟨n, rfl, hn'⟩ := fuel hn
    have wb := wth_bd hA hB hd (m := (m : Int)) (e := (e : Int)) ⟨by omega, by omega⟩ ⟨by omega, by omega⟩
    have eb := em_bd (wth A B d m e) (p := q) (by omega)
    have l1 : m % pr < pr := Nat.mod_lt _ (by omega)
    have l2 : e % pr < pr := Nat.mod_lt _ (by omega)
    have em : (m : Int) % (pr : Int) = ((m % pr : Nat) : Int) := (Int.natCast_emod m pr).symm
    have ee : (e : Int) % (pr : Int) = ((e % pr : Nat) : Int) := (Int.natCast_emod e pr).symm
    rw [f_M_byOne_l35, if_neg (by rw [iZ_le ⟨by omega, by omega⟩ ⟨by omega, by omega⟩]; omega), if_pos (by rw [show (0 : Int32) = iZ 0 from rfl, iZ_eq ⟨by omega, by omega⟩ (bd_lit _ rfl)]; omega), irem_nn (x := (m : Int)) (by omega) (by omega) (by omega) (by omega), irem_nn (x := (e : Int)) (by omega) (by omega) (by omega) (by omega), i2j (z := (m : Int)) ⟨by omega, by omega⟩, i2j (z := (e : Int)) ⟨by omega, by omega⟩, worthM hA hB hd hd0 h, Option.bind_some, mod_ok (bd_mono wb (by decide)) (by omega) (by omega), Option.bind_some, if_pos (c := 0 ≤ iZ (wth A B d m e % (q : Int)) ∧ iZ (wth A B d m e % (q : Int)) < (49 : Int32)) (by rw [show (0 : Int32) = iZ 0 from rfl, show (49 : Int32) = iZ 49 from rfl, iZ_le (bd_lit _ rfl) ⟨by omega, by omega⟩, iZ_lt ⟨by omega, by omega⟩ (bd_lit _ rfl)]; omega), iZ_idx (by omega) (by omega), h79 _ (by omega), i1, em, ee]
    have c1 : (iZ ((m % pr : Nat) : Int) ≠ 0) = ¬ (m % pr = 0) := by rw [ne_eq, show (0 : Int32) = iZ 0 from rfl, iZ_eq ⟨by omega, by omega⟩ (bd_lit _ rfl)]; apply propext; omega
    have c2 : (iZ ((e % pr : Nat) : Int) = 0) = (e % pr = 0) := by rw [show (0 : Int32) = iZ 0 from rfl, iZ_eq ⟨by omega, by omega⟩ (bd_lit _ rfl)]; apply propext; omega
    simp only [c1, c2]
    have step : ∀ (nc : ¬ cdQ A B d q pr m e), ((∃ f, f < q ∧ e ≤ f ∧ cdQ A B d q pr m f) ∧ f_M_byOne_l35 N K n (jZ d) (iZ q) (iZ pr) (iZ m) (iZ ((e + 1 : Nat) : Int)) τ = some (true, τ)) ∨ ((∀ f, f < q → e ≤ f → ¬ cdQ A B d q pr m f) ∧ f_M_byOne_l35 N K n (jZ d) (iZ q) (iZ pr) (iZ m) (iZ ((e + 1 : Nat) : Int)) τ = K (jZ d) (iZ q) (iZ pr) (iZ m) τ) := fun nc => by
      rcases ih (e + 1) n (by omega) hn' with ⟨⟨f, f1, f2, f3⟩, g⟩ | ⟨f1, g⟩
      · exact Or.inl ⟨⟨f, f1, by omega, f3⟩, g⟩
      · refine Or.inr ⟨fun f h1 h2 => ?_, g⟩
        by_cases z : f = e
        · subst z; exact nc
        · exact f1 f h1 (by omega)
    by_cases d1 : m % pr = 0
    · rw [if_neg (fun z => z d1)]
      by_cases d2 : e % pr = 0
      · rw [if_pos d2]; exact step (fun z => z.1 ⟨d1, d2⟩)
      · rw [if_neg d2]
        by_cases d3 : sqQ q (wth A B d m e % (q : Int)).toNat = true
        · rw [if_pos d3]; exact Or.inl ⟨⟨e, by omega, Nat.le_refl _, ⟨fun z => d2 z.2, d3⟩⟩, rfl⟩
        · rw [if_neg d3]; exact step (fun z => d3 z.2)
    · rw [if_pos d1]
      by_cases d3 : sqQ q (wth A B d m e % (q : Int)).toNat = true
      · rw [if_pos d3]; exact Or.inl ⟨⟨e, by omega, Nat.le_refl _, ⟨fun z => d1 z.1, d3⟩⟩, rfl⟩
      · rw [if_neg d3]; exact step (fun z => d3 z.2)
theorem one30 {N : Nat} (hN : 10000 ≤ N) (hA : bd 120 A) (hB : bd 4400 B) (hd : bd 4400 d) (hd0 : d ≠ 0) {q pr : Nat} (hq : 2 ≤ q) (hq2 : q ≤ 49) (hpr : 2 ≤ pr) (hpr2 : pr ≤ 49) {τ : aSt} (h : SD A B τ) (h79 : ∀ r, r < q → τ.2.2 79 r = sqQ q r) : ∀ (j m n : Nat), m + j = q → j + 1 ≤ n → ((∃ m', m' < q ∧ m ≤ m' ∧ ∃ f, f < q ∧ cdQ A B d q pr m' f) ∧ f_M_byOne_l30 N n (jZ d) (iZ q) (iZ pr) (iZ (m : Int)) τ = some (true, τ)) ∨ ((∀ m', m' < q → m ≤ m' → ∀ f, f < q → ¬ cdQ A B d q pr m' f) ∧ f_M_byOne_l30 N n (jZ d) (iZ q) (iZ pr) (iZ (m : Int)) τ = some (false, τ)) := by
  intro j
  induction j with
  | zero =>
    intro m n hm hn
    obtain ⟨n, rfl, _⟩ := fuel hn
    rw [f_M_byOne_l30, if_pos (by rw [iZ_le ⟨by omega, by omega⟩ ⟨by omega, by omega⟩]; omega)]
    exact Or.inr ⟨fun m' h1 h2 => by omega, rfl⟩
  | succ j ih =>
    intro m n hm hn
    obtain ⟨n, rfl, hn'⟩ := fuel hn
    rw [f_M_byOne_l30, if_neg (by rw [iZ_le ⟨by omega, by omega⟩ ⟨by omega, by omega⟩]; omega)]
    rcases one35 (N := N) hA hB hd hd0 hq hq2 hpr hpr2 (m := m) (by omega) (K := fun (y16 : Int64) (y17 : Int32) (y18 : Int32) (y19 : Int32) σ20 => f_M_byOne_l30 N n y16 y17 y18 (y19 + (1 : Int32)) σ20) h h79 q 0 N (by omega) (by omega) with ⟨⟨f, f1, f2, f3⟩, g⟩ | ⟨f1, g⟩
    · exact Or.inl ⟨⟨m, by omega, Nat.le_refl _, f, f1, f3⟩, g⟩
    · have g' : f_M_byOne_l35 N (fun (y16 : Int64) (y17 : Int32) (y18 : Int32) (y19 : Int32) σ20 => f_M_byOne_l30 N n y16 y17 y18 (y19 + (1 : Int32)) σ20) N (jZ d) (iZ q) (iZ pr) (iZ m) (0 : Int32) τ = f_M_byOne_l30 N n (jZ d) (iZ q) (iZ pr) (iZ ((m + 1 : Nat) : Int)) τ := by
        refine Eq.trans g ?_
        show f_M_byOne_l30 N n (jZ d) (iZ q) (iZ pr) (iZ (m : Int) + (1 : Int32)) τ = _
        rw [i1]
      rcases ih (m + 1) n (by omega) hn' with ⟨⟨m', k1, k2, k3⟩, k4⟩ | ⟨k1, k4⟩
      · exact Or.inl ⟨⟨m', k1, by omega, k3⟩, g'.trans k4⟩
      · refine Or.inr ⟨fun m' h1 h2 f h3 => ?_, g'.trans k4⟩
        by_cases z : m' = m
        · subst z; exact f1 f h3 (Nat.zero_le _)
        · exact k1 m' h1 (by omega) f h3
def fr79 : Nat → Nat → Bool := fun o _ => Nat.beq o 79
theorem one14 {N : Nat} (hN : 10000 ≤ N) (hA : bd 120 A) (hB : bd 4400 B) (hd : bd 4400 d) (hd0 : d ≠ 0) {q pr : Nat} (hq : 2 ≤ q) (hq2 : q ≤ 49) (hpr : 2 ≤ pr) (hpr2 : pr ≤ 49) : ∀ (j k n : Nat) (τ : aSt), k + j = q → j + 1 ≤ n → SD A B τ → (∀ r, r < q → τ.2.2 79 r = decide (∃ i, i < k ∧ i * i % q = r)) → ∃ τ', f_M_byOne_l14 N n (jZ d) (iZ q) (iZ pr) (iZ (k : Int)) τ = some (rmB A B d q pr, τ') ∧ fr fr79 τ τ' := by
  intro j
  induction j with
  | zero =>
    intro k n τ hk hn h h79
    obtain ⟨n, rfl, _⟩ := fuel hn
    rw [f_M_byOne_l14, if_pos (by rw [iZ_le ⟨by omega, by omega⟩ ⟨by omega, by omega⟩]; omega)]
    have hk' : k = q := by omega
    subst hk'
    refine ⟨τ, ?_, fr_refl _ _⟩
    rcases one30 (N := N) hN hA hB hd hd0 hq hq2 hpr hpr2 h h79 k 0 N (by omega) (by omega) with ⟨⟨m', k1, k2, f, k3, k4⟩, g⟩ | ⟨k1, g⟩
    · refine Eq.trans g ?_
      unfold rmB
      rw [decide_eq_true ⟨m', k1, f, k3, k4⟩]
    · refine Eq.trans g ?_
      unfold rmB
      rw [decide_eq_false (fun ⟨m', z1, f, z2, z3⟩ => k1 m' z1 (Nat.zero_le _) f z2 z3)]
  | succ j ih =>
    intro k n τ hk hn h h79
    obtain ⟨n, rfl, hn'⟩ := fuel hn
    have sq := sq97 (show k ≤ 97 by omega) (Nat.le_refl 97)
    have em : (k : Int) * k % (q : Int) = ((k * k % q : Nat) : Int) := by rw [← Int.natCast_mul, ← Int.natCast_emod]
    have lt : k * k % q < q := Nat.mod_lt _ (by omega)
    rw [f_M_byOne_l14, if_neg (by rw [iZ_le ⟨by omega, by omega⟩ ⟨by omega, by omega⟩]; omega), if_pos (c := ¬ iZ (q : Int) = 0) (by rw [show (0 : Int32) = iZ 0 from rfl, iZ_eq ⟨by omega, by omega⟩ (bd_lit _ rfl)]; omega), iZ_mul, irem_nn (by omega) (by omega) (by omega) (by omega), em, if_pos (by rw [show (0 : Int32) = iZ 0 from rfl, show (49 : Int32) = iZ 49 from rfl, iZ_le (bd_lit _ rfl) ⟨by omega, by omega⟩, iZ_lt ⟨by omega, by omega⟩ (bd_lit _ rfl)]; omega), iZ_idx (by omega) (by omega), Int.toNat_natCast, i1]
    have f1 : fr fr79 τ (s_b τ 79 (k * k % q) true) := fr_sb rfl
    obtain ⟨τ', g1, g2⟩ := ih (k + 1) n (s_b τ 79 (k * k % q) true) (by omega) hn' ⟨h.1, h.2⟩ (fun r hr => by
      by_cases z : r = k * k % q
      · rw [z, sb_eq, decide_eq_true ⟨k, by omega, rfl⟩]
      · rw [sb_ne (Or.inr z), h79 r hr]
        by_cases w : ∃ i, i < k ∧ i * i % q = r
        · rw [decide_eq_true w]
          obtain ⟨i, w1, w2⟩ := w
          rw [decide_eq_true ⟨i, by omega, w2⟩]
        · rw [decide_eq_false w, decide_eq_false (fun ⟨i, w1, w2⟩ => by
            by_cases e : i = k
            · subst e; exact z w2.symm
            · exact w ⟨i, by omega, w2⟩)])
    exact ⟨τ', g1, fr_trans f1 g2⟩
theorem one2 {N : Nat} (hN : 10000 ≤ N) (hA : bd 120 A) (hB : bd 4400 B) (hd : bd 4400 d) (hd0 : d ≠ 0) {q pr : Nat} (hq : 2 ≤ q) (hq2 : q ≤ 49) (hpr : 2 ≤ pr) (hpr2 : pr ≤ 49) : ∀ (j k n : Nat) (τ : aSt), k + j = q → j + 1 ≤ n → SD A B τ → (∀ r, r < k → τ.2.2 79 r = false) → ∃ τ', f_M_byOne_l2 N n (jZ d) (iZ q) (iZ pr) (iZ (k : Int)) τ = some (rmB A B d q pr, τ') ∧ fr fr79 τ τ' := by
  intro j
  induction j with
  | zero =>
    intro k n τ hk hn h h79
    obtain ⟨n, rfl, _⟩ := fuel hn
    rw [f_M_byOne_l2, if_pos (by rw [iZ_le ⟨by omega, by omega⟩ ⟨by omega, by omega⟩]; omega)]
    exact one14 hN hA hB hd hd0 hq hq2 hpr hpr2 q 0 N τ (by omega) (by omega) h (fun r hr => by
      rw [h79 r (by omega), decide_eq_false (fun ⟨i, w1, w2⟩ => by omega)])
  | succ j ih =>
    intro k n τ hk hn h h79
    obtain ⟨n, rfl, hn'⟩ := fuel hn
    rw [f_M_byOne_l2, if_neg (by rw [iZ_le ⟨by omega, by omega⟩ ⟨by omega, by omega⟩]; omega), if_pos (by rw [show (0 : Int32) = iZ 0 from rfl, show (49 : Int32) = iZ 49 from rfl, iZ_le (bd_lit _ rfl) ⟨by omega, by omega⟩, iZ_lt ⟨by omega, by omega⟩ (bd_lit _ rfl)]; omega), iZ_idx (by omega) (by omega), Int.toNat_natCast, i1]
    have f1 : fr fr79 τ (s_b τ 79 k false) := fr_sb rfl
    obtain ⟨τ', g1, g2⟩ := ih (k + 1) n (s_b τ 79 k false) (by omega) hn' ⟨h.1, h.2⟩ (fun r hr => by
      by_cases z : r = k
      · rw [z, sb_eq]
      · rw [sb_ne (Or.inr z)]; exact h79 r (by omega))
    exact ⟨τ', g1, fr_trans f1 g2⟩
def rmA (A B d : Int) : Bool := rmB A B d 16 2 && (rmB A B d 9 3 && (rmB A B d 25 5 && (rmB A B d 49 7 && (rmB A B d 11 11 && rmB A B d 13 13))))
theorem SD_79 {τ τ' : aSt} (hf : fr fr79 τ τ') (h : SD A B τ) : SD A B τ' := ⟨by rw [(hf 66 38 rfl).2.1]; exact h.1, by rw [(hf 66 39 rfl).2.1]; exact h.2⟩
theorem rem_ok {N : Nat} (hN : 10000 ≤ N) (hA : bd 120 A) (hB : bd 4400 B) (hd : bd 4400 d) (hd0 : d ≠ 0) {τ : aSt} (h : SD A B τ) : ∃ τ', f_M_byRemainders N (jZ d) τ = some (rmA A B d, τ') ∧ fr fr79 τ τ' := by
  have one : ∀ (q pr : Nat) (τ : aSt), 2 ≤ q → q ≤ 49 → 2 ≤ pr → pr ≤ 49 → SD A B τ → ∃ τ', f_M_byOne N (jZ d) (iZ q) (iZ pr) τ = some (rmB A B d q pr, τ') ∧ fr fr79 τ τ' := fun q pr τ h1 h2 h3 h4 hs => one2 hN hA hB hd hd0 h1 h2 h3 h4 q 0 N τ (by omega) (by omega) hs (fun r hr => by omega)
  obtain ⟨τ1, a1, f1⟩ := one 16 2 τ (by omega) (by omega) (by omega) (by omega) h
  obtain ⟨τ2, a2, f2⟩ := one 9 3 τ1 (by omega) (by omega) (by omega) (by omega) (SD_79 f1 h)
  have f12 := fr_trans f1 f2
  obtain ⟨τ3, a3, f3⟩ := one 25 5 τ2 (by omega) (by omega) (by omega) (by omega) (SD_79 f12 h)
  have f13 := fr_trans f12 f3
  obtain ⟨τ4, a4, f4⟩ := one 49 7 τ3 (by omega) (by omega) (by omega) (by omega) (SD_79 f13 h)
  have f14 := fr_trans f13 f4
  obtain ⟨τ5, a5, f5⟩ := one 11 11 τ4 (by omega) (by omega) (by omega) (by omega) (SD_79 f14 h)
  have f15 := fr_trans f14 f5
  obtain ⟨τ6, a6, f6⟩ := one 13 13 τ5 (by omega) (by omega) (by omega) (by omega) (SD_79 f15 h)
  have f16 := fr_trans f15 f6
  unfold f_M_byRemainders rmA
  rw [show f_M_byOne N (jZ d) (16 : Int32) (2 : Int32) τ = some (rmB A B d 16 2, τ1) from a1, Option.bind_some]
  cases rmB A B d 16 2
  · exact ⟨τ1, rfl, f1⟩
  rw [if_pos (c := (true, τ1).1 = true) rfl, show f_M_byOne N (jZ d) (9 : Int32) (3 : Int32) (true, τ1).2 = some (rmB A B d 9 3, τ2) from a2, Option.bind_some]
  cases rmB A B d 9 3
  · exact ⟨τ2, rfl, f12⟩
  rw [if_pos (c := (true, τ2).1 = true) rfl, show f_M_byOne N (jZ d) (25 : Int32) (5 : Int32) (true, τ2).2 = some (rmB A B d 25 5, τ3) from a3, Option.bind_some]
  cases rmB A B d 25 5
  · exact ⟨τ3, rfl, f13⟩
  rw [if_pos (c := (true, τ3).1 = true) rfl, show f_M_byOne N (jZ d) (49 : Int32) (7 : Int32) (true, τ3).2 = some (rmB A B d 49 7, τ4) from a4, Option.bind_some]
  cases rmB A B d 49 7
  · exact ⟨τ4, rfl, f14⟩
  rw [if_pos (c := (true, τ4).1 = true) rfl, show f_M_byOne N (jZ d) (11 : Int32) (11 : Int32) (true, τ4).2 = some (rmB A B d 11 11, τ5) from a5, Option.bind_some]
  cases rmB A B d 11 11
  · exact ⟨τ5, rfl, f15⟩
  rw [if_pos (c := (true, τ5).1 = true) rfl, show f_M_byOne N (jZ d) (13 : Int32) (13 : Int32) (true, τ5).2 = some (rmB A B d 13 13, τ6) from a6, Option.bind_some]
  cases rmB A B d 13 13
  · exact ⟨τ6, rfl, f16⟩
  · exact ⟨τ6, rfl, f16⟩
end SID
