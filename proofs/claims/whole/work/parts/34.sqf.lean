/-! NUMBERS WITHOUT SQUARES, as the two programs find them; the sieve's reason -/
def sg (s : Bool) (n : Nat) : Int := if s = true then -(n : Int) else n
theorem sg_tmod (s : Bool) (n m : Nat) : (sg s n).tmod (m : Int) = sg s (n % m) := by
  cases s
  · exact nat_rem
  · show (-(n : Int)).tmod m = -((n % m : Nat) : Int)
    rw [Int.neg_tmod, nat_rem]
theorem sg_tdiv (s : Bool) (n m : Nat) : (sg s n).tdiv (m : Int) = sg s (n / m) := by
  cases s
  · exact nat_div
  · show (-(n : Int)).tdiv m = -((n / m : Nat) : Int)
    rw [Int.neg_tdiv, nat_div]
theorem sg_abs (s : Bool) (n : Nat) : (sg s n).natAbs = n := by
  cases s
  · rfl
  · show (-(n : Int)).natAbs = n
    omega
theorem sg_bd (s : Bool) {n A : Nat} (h : n ≤ A) : bd (A : Int) (sg s n) := by
  rw [bd_nat, sg_abs]; exact h
theorem sg_bd31 (s : Bool) {n : Nat} (h : n < 2147483648) : bd 2147483647 (sg s n) := sg_bd s (A := 2147483647) (by omega)
theorem sg_bd63 (s : Bool) {n : Nat} (h : n < 9223372036854775808) : bd 9223372036854775807 (sg s n) := sg_bd s (A := 9223372036854775807) (by omega)
theorem sg_of (z : Int) : z = sg (decide (z < 0)) z.natAbs := by
  unfold sg
  by_cases h : z < 0
  · rw [if_pos (decide_eq_true h)]; omega
  · rw [if_neg (by rw [decide_eq_true_eq]; exact h)]; omega
theorem sg_0 (s : Bool) (n : Nat) : sg s n = 0 ↔ n = 0 := by
  unfold sg; cases s <;> simp
theorem wsL15 (N : Nat) (k32 : Int32 → Int32 → Option Int32) (s : Bool) (f : Nat) (hf : 2 ≤ f) (hf2 : f < 103) : ∀ (j n c left : Nat), c + j = 32 → left < 10000 → j + 1 ≤ n → f_Whole_withoutSquares_l15 N k32 n (iZ (sg s left)) (iZ f) (iZ c) = k32 (iZ (sg s (wsqI f j left))) (iZ f) := by
  intro j
  have hff : f * f ≤ 102 * 102 := Nat.mul_le_mul (by omega) (by omega)
  have hff2 : 2 * 2 ≤ f * f := Nat.mul_le_mul hf hf
  induction j with
  | zero =>
    intro n c left hc hl hn
    obtain ⟨n, rfl, hn⟩ := fuel hn
    rw [f_Whole_withoutSquares_l15, if_pos (by rw [iZ_lit, iZ_le (bd_lit _ rfl) ⟨by omega, by omega⟩]; omega)]
    rfl
  | succ j ih =>
    intro n c left hc hl hn
    obtain ⟨n, rfl, hn⟩ := fuel hn
    rw [f_Whole_withoutSquares_l15, if_neg (by rw [iZ_lit, iZ_le (bd_lit _ rfl) ⟨by omega, by omega⟩]; omega), iZ_mul, ← Int.natCast_mul, if_pos (by rw [iZ_lit, iZ_eq ⟨by omega, by omega⟩ (bd_lit 0 rfl)]; omega), iZ_rem (sg_bd31 s (by omega)) ⟨by omega, by omega⟩, sg_tmod, wsqI]
    have hm : left % (f * f) ≤ left := Nat.mod_le _ _
    by_cases c0 : left % (f * f) = 0
    · rw [if_neg (by rw [c0]; exact fun h => h (by cases s <;> rfl)), if_pos c0, iZ_div (sg_bd31 s (by omega)) ⟨by omega, by omega⟩, sg_tdiv, i1]
      exact ih n (c + 1) _ (by omega) (Nat.lt_of_le_of_lt (Nat.div_le_self _ _) hl) (by omega)
    · rw [if_pos (by rw [ne_eq, iZ_lit, iZ_eq (sg_bd31 s (by omega)) (bd_lit 0 rfl), sg_0]; exact c0), if_neg c0]
theorem wsqI_le (f : Nat) : ∀ n left, wsqI f n left ≤ left
  | 0, left => Nat.le_refl _
  | n + 1, left => by
    rw [wsqI]
    by_cases c : left % (f * f) = 0
    · rw [if_pos c]; exact Nat.le_trans (wsqI_le f n _) (Nat.div_le_self _ _)
    · rw [if_neg c]; exact Nat.le_refl _
theorem wsL4 {N : Nat} (hN : 10000 ≤ N) (s : Bool) : ∀ (k n f left : Nat), k + f = 102 → 2 ≤ f → left < 10000 → k + 1 ≤ n → f_Whole_withoutSquares_l4 N n (iZ (sg s left)) (iZ f) = some (iZ (sg s (wsqO k f left))) := by
  intro k
  induction k with
  | zero =>
    intro n f left hk hf hl hn
    obtain ⟨n, rfl, hn⟩ := fuel hn
    have : f = 102 := by omega
    subst this
    rw [f_Whole_withoutSquares_l4, iabs_Z (sg_bd31 s (by omega)), sg_abs, if_pos (by rw [iZ_mul, iZ_lt ⟨by omega, by omega⟩ ⟨by omega, by omega⟩]; omega)]
    rfl
  | succ k ih =>
    intro n f left hk hf hl hn
    obtain ⟨n, rfl, hn⟩ := fuel hn
    have hff : f * f ≤ 102 * 102 := Nat.mul_le_mul (by omega) (by omega)
    rw [f_Whole_withoutSquares_l4, iabs_Z (sg_bd31 s (by omega)), sg_abs, wsqO, iZ_mul, ← Int.natCast_mul]
    by_cases c : f * f ≤ left
    · have hf99 : f < 100 := by
        rcases Nat.lt_or_ge f 100 with q | q
        · exact q
        · have := Nat.mul_le_mul q q
          omega
      rw [if_neg (by rw [iZ_lt ⟨by omega, by omega⟩ ⟨by omega, by omega⟩]; omega), if_neg (by rw [iZ_lit, iZ_le (bd_lit _ rfl) ⟨by omega, by omega⟩]; omega), if_pos c]
      have key := wsL15 N (fun (y6 : Int32) (y7 : Int32) => f_Whole_withoutSquares_l4 N n y6 (y7 + (1 : Int32))) s f hf (by omega) 32 N 0 left rfl hl (by omega)
      rw [show (iZ ((0 : Nat) : Int)) = (0 : Int32) from rfl] at key
      rw [key, i1]
      exact ih n (f + 1) _ (by omega) (by omega) (Nat.lt_of_le_of_lt (wsqI_le _ _ _) hl) (by omega)
    · rw [if_pos (by rw [iZ_lt ⟨by omega, by omega⟩ ⟨by omega, by omega⟩]; omega), if_neg c]
theorem withoutSquares_Z {N : Nat} (hN : 10000 ≤ N) (s : Bool) {v : Nat} (hv : v < 10000) : f_Whole_withoutSquares N (iZ (sg s v)) = some (iZ (sg s (sfp v))) := by
  unfold f_Whole_withoutSquares
  exact wsL4 hN s 100 N 2 v rfl (by omega) hv (by omega)
theorem foL11 (N : Nat) (k26 : Int64 → Int64 → Int64 → Option Int64) (v0 : Int64) (f : Nat) (hf : 2 ≤ f) (hf2 : f < 103) : ∀ (j n left : Nat), 0 < left → left < 2 ^ j → left < 10000 → j + 1 ≤ n → f_M_freeOf_l11 N k26 n v0 (jZ left) (jZ f) = k26 v0 (jZ (wsqI f j left)) (jZ f) := by
  intro j
  have hff : f * f ≤ 102 * 102 := Nat.mul_le_mul (by omega) (by omega)
  have hff2 : 2 * 2 ≤ f * f := Nat.mul_le_mul hf hf
  induction j with
  | zero => intro n left h0 h1; omega
  | succ j ih =>
    intro n left h0 h1 hl hn
    obtain ⟨n, rfl, hn⟩ := fuel hn
    have h2 : 2 ^ (j + 1) = 2 ^ j * 2 := Nat.pow_succ ..
    rw [f_M_freeOf_l11, jZ_mul, ← Int.natCast_mul, if_pos (by rw [jN0 (by omega)]; omega), jrem_N (by omega) (by omega), wsqI]
    have hm : left % (f * f) ≤ left := Nat.mod_le _ _
    by_cases c0 : left % (f * f) = 0
    · have hd : left / (f * f) * (f * f) = left := Nat.div_mul_cancel (Nat.dvd_of_mod_eq_zero c0)
      have h4 : left / (f * f) * 4 ≤ left / (f * f) * (f * f) := Nat.mul_le_mul_left _ hff2
      have hpos : 0 < left / (f * f) := by
        rcases Nat.eq_zero_or_pos (left / (f * f)) with q | q
        · rw [q] at hd; omega
        · exact q
      rw [if_neg (by rw [ne_eq, jN0 (by omega)]; omega), if_pos c0, jdiv_N (by omega) (by omega)]
      exact ih n _ hpos (by omega) (by omega) (by omega)
    · rw [if_pos (by rw [ne_eq, jN0 (by omega)]; exact c0), if_neg c0]
theorem foL5 {N : Nat} (hN : 10000 ≤ N) (s : Bool) (v : Nat) (hv : v < 10000) (hv0 : 0 < v) : ∀ (k n f left : Nat), k + f = 102 → 2 ≤ f → 0 < left → left < 10000 → k + 1 ≤ n → f_M_freeOf_l5 N n (jZ (sg s v)) (jZ left) (jZ f) = some (jZ (sg s (wsqO k f left))) := by
  intro k
  have he : ∀ left : Nat, (if (0 : Int64) ≤ jZ (sg s v) then some (jZ (left : Int)) else some (-jZ (left : Int))) = some (jZ (sg s left)) := fun left => by
    cases s
    · rw [if_pos (by rw [jZ_lit, jZ_le (bd_lit 0 rfl) (sg_bd63 _ (by omega))]; show (0 : Int) ≤ (v : Int); omega)]; rfl
    · rw [if_neg (by rw [jZ_lit, jZ_le (bd_lit 0 rfl) (sg_bd63 _ (by omega))]; show ¬ (0 : Int) ≤ -(v : Int); omega), jZ_neg]; rfl
  induction k with
  | zero =>
    intro n f left hk hf h0 hl hn
    obtain ⟨n, rfl, hn⟩ := fuel hn
    have : f = 102 := by omega
    subst this
    rw [f_M_freeOf_l5, if_pos (by rw [jZ_mul, jZ_lt ⟨by omega, by omega⟩ ⟨by omega, by omega⟩]; omega), he]
    rfl
  | succ k ih =>
    intro n f left hk hf h0 hl hn
    obtain ⟨n, rfl, hn⟩ := fuel hn
    have hff : f * f ≤ 102 * 102 := Nat.mul_le_mul (by omega) (by omega)
    rw [f_M_freeOf_l5, wsqO, jZ_mul, ← Int.natCast_mul]
    by_cases c : f * f ≤ left
    · rw [if_neg (by rw [jZ_lt ⟨by omega, by omega⟩ ⟨by omega, by omega⟩]; omega), if_pos c]
      rw [foL11 N _ (jZ (sg s v)) f hf (by omega) 32 N left h0 (by omega) hl (by omega)]
      show f_M_freeOf_l5 N n (jZ (sg s v)) (jZ (wsqI f 32 left)) (jZ f + 1) = _
      rw [jZ_lit, jZ_add]
      have hw := wsqI_ok hf 32 left h0 (by omega)
      exact ih n (f + 1) _ (by omega) (by omega) hw.1 (by omega) (by omega)
    · rw [if_pos (by rw [jZ_lt ⟨by omega, by omega⟩ ⟨by omega, by omega⟩]; omega), if_neg c, he]
theorem freeOf_Z {N : Nat} (hN : 10000 ≤ N) (s : Bool) {v : Nat} (hv : v < 10000) (hv0 : 0 < v) : f_M_freeOf N (jZ (sg s v)) = some (jZ (sg s (sfp v))) := by
  unfold f_M_freeOf
  rw [labs_Z (sg_bd63 s (by omega)), sg_abs]
  exact foL5 hN s v hv hv0 100 N 2 v rfl (by omega) hv0 hv (by omega)
def freeB (d : Nat) : Bool := decide (sfp d = d)
theorem freeB_iff {d : Nat} (h0 : 0 < d) (h1 : d < 10000) : freeB d = true ↔ sqf d := by
  unfold freeB
  rw [decide_eq_true_eq]
  exact sfp_iff h0 h1
theorem ifL (N : Nat) {d : Nat} (h0 : 0 < d) (h1 : d < 10000) : ∀ (k n f : Nat), k + f = 102 → 2 ≤ f → k + 1 ≤ n → (∀ j, 2 ≤ j → j < f → ¬ j * j ∣ d) → f_M_isFree_l2 N n (jZ d) (jZ f) = some (freeB d) := by
  intro k
  have he : ∀ f : Nat, d < f * f → (∀ j, 2 ≤ j → j < f → ¬ j * j ∣ d) → true = freeB d := fun f hf h => by
    refine ((freeB_iff h0 h1).mpr (fun j hj hd => ?_)).symm
    rcases Nat.lt_or_ge j f with q | q
    · exact h j hj q hd
    · have := Nat.le_of_dvd h0 hd
      have := Nat.mul_le_mul q q
      omega
  induction k with
  | zero =>
    intro n f hk hf hn h
    obtain ⟨n, rfl, hn⟩ := fuel hn
    have : f = 102 := by omega
    subst this
    rw [f_M_isFree_l2, if_pos (by rw [jZ_mul, jZ_lt ⟨by omega, by omega⟩ ⟨by omega, by omega⟩]; omega), ← he 102 (by omega) h]
  | succ k ih =>
    intro n f hk hf hn h
    obtain ⟨n, rfl, hn⟩ := fuel hn
    have hff : f * f ≤ 102 * 102 := Nat.mul_le_mul (by omega) (by omega)
    have hff2 : 2 * 2 ≤ f * f := Nat.mul_le_mul hf hf
    rw [f_M_isFree_l2, jZ_mul, ← Int.natCast_mul]
    by_cases c : d < f * f
    · rw [if_pos (by rw [jZ_lt ⟨by omega, by omega⟩ ⟨by omega, by omega⟩]; omega), ← he f c h]
    · rw [if_neg (by rw [jZ_lt ⟨by omega, by omega⟩ ⟨by omega, by omega⟩]; omega), if_pos (by rw [jN0 (by omega)]; omega), jrem_N (by omega) (by omega)]
      have hm : d % (f * f) ≤ d := Nat.mod_le _ _
      by_cases c0 : d % (f * f) = 0
      · rw [if_neg (by rw [ne_eq, jN0 (by omega)]; omega)]
        have : freeB d = false := by
          cases q : freeB d with
          | false => rfl
          | true => exact absurd (Nat.dvd_of_mod_eq_zero c0) ((freeB_iff h0 h1).mp q f hf)
        rw [this]
      · rw [if_pos (by rw [ne_eq, jN0 (by omega)]; exact c0), jZ_lit, jZ_add]
        exact ih n (f + 1) (by omega) (by omega) (by omega) (fun j hj hj2 hd => by
          rcases Nat.lt_or_ge j f with q | q
          · exact h j hj q hd
          · have : j = f := by omega
            subst this
            exact c0 (Nat.mod_eq_zero_of_dvd hd))
theorem isFree_Z {N : Nat} (hN : 10000 ≤ N) {d : Nat} (h0 : 0 < d) (h1 : d < 10000) : f_M_isFree N (jZ d) = some (freeB d) := by
  unfold f_M_isFree
  exact ifL N h0 h1 100 N 2 rfl (by omega) (by omega) (fun j _ _ => by omega)
/-! the sieve's reason -/
theorem sqf_dvd {d h : Nat} (hs : sqf d) (hd : h ∣ d) : sqf h := fun k hk q => hs k hk (Nat.dvd_trans q hd)
theorem sqf_one {d c : Nat} (hs : sqf d) (h0 : 0 < d) (h : c * c ∣ d) : c = 1 := by
  rcases Nat.lt_or_ge c 2 with q | q
  · rcases Nat.eq_zero_or_pos c with z | z
    · subst z
      have := Nat.eq_zero_of_zero_dvd h
      omega
    · omega
  · exact absurd h (hs c q)
theorem sqf_sq {h x : Nat} (hs : sqf h) (h0 : 0 < h) (hd : h ∣ x * x) : h ∣ x := by
  obtain ⟨c, hc⟩ : ∃ c, c = Nat.gcd h x := ⟨_, rfl⟩
  have hcp : 0 < c := by rw [hc]; exact Nat.gcd_pos_of_pos_left _ h0
  obtain ⟨h', e1⟩ : c ∣ h := hc ▸ Nat.gcd_dvd_left h x
  obtain ⟨x', e2⟩ : c ∣ x := hc ▸ Nat.gcd_dvd_right h x
  have cop : Nat.Coprime h' x' := by
    have := Nat.coprime_div_gcd_div_gcd (m := h) (n := x) (by rw [← hc]; exact hcp)
    rw [← hc, e1, e2, Nat.mul_div_cancel_left _ hcp, Nat.mul_div_cancel_left _ hcp] at this
    exact this
  have h1 : h' ∣ c * (x' * x') := by
    have : c * h' ∣ c * (c * (x' * x')) := by
      rw [← e1, show c * (c * (x' * x')) = x * x from by rw [e2]; grind]
      exact hd
    exact Nat.dvd_of_mul_dvd_mul_left hcp this
  have h2 : h' ∣ c := (Nat.Coprime.mul_right cop cop).dvd_of_dvd_mul_right h1
  have h3 : h' = 1 := sqf_one hs h0 (by rw [e1]; exact Nat.mul_dvd_mul h2 (Nat.dvd_refl h'))
  rw [e1, h3, Nat.mul_one]
  exact ⟨x', e2⟩
theorem sieve_nat {d r w n b e : Nat} (hd0 : 0 < d) (hr0 : 0 < r) (hs : sqf d) (hn : n * n = d * (r * r) * w) (cope : Nat.Coprime d e) (hw : ∀ c, c ∣ d → c ∣ w → c ∣ b * (e * e * (e * e))) : d ∣ b := by
  have hrn : r ∣ n := by
    have : r ^ 2 ∣ n ^ 2 := ⟨d * w, by rw [Nat.pow_two, Nat.pow_two, hn]; grind⟩
    exact (Nat.pow_dvd_pow_iff (by decide)).mp this
  obtain ⟨n', rfl⟩ := hrn
  have hn' : n' * n' = d * w := by
    have h1 : r * r * (n' * n') = r * r * (d * w) := by
      rw [show r * r * (n' * n') = r * n' * (r * n') from by grind, hn]; grind
    exact Nat.eq_of_mul_eq_mul_left (Nat.mul_pos hr0 hr0) h1
  obtain ⟨g, hg⟩ : ∃ g, g = Nat.gcd d b := ⟨_, rfl⟩
  obtain ⟨h, e1⟩ : g ∣ d := hg ▸ Nat.gcd_dvd_left d b
  have hh0 : 0 < h := Nat.pos_of_ne_zero (fun q => by rw [e1, q] at hd0; omega)
  have hhd : h ∣ d := ⟨g, by rw [e1, Nat.mul_comm]⟩
  have cb : Nat.Coprime h b := by
    obtain ⟨c, hc⟩ : ∃ c, c = Nat.gcd h b := ⟨_, rfl⟩
    have c1 : c ∣ h := hc ▸ Nat.gcd_dvd_left h b
    have c2 : c ∣ b := hc ▸ Nat.gcd_dvd_right h b
    have c3 : c ∣ g := hg ▸ Nat.dvd_gcd (Nat.dvd_trans c1 hhd) c2
    have : c = 1 := sqf_one hs hd0 (by rw [e1]; exact Nat.mul_dvd_mul c3 c1)
    show Nat.gcd h b = 1
    rw [← hc]; exact this
  have ce : Nat.Coprime h e := Nat.Coprime.coprime_dvd_left hhd cope
  have cw : Nat.Coprime h w := by
    obtain ⟨c, hc⟩ : ∃ c, c = Nat.gcd h w := ⟨_, rfl⟩
    have c1 : c ∣ h := hc ▸ Nat.gcd_dvd_left h w
    have c2 : c ∣ w := hc ▸ Nat.gcd_dvd_right h w
    have c3 := hw c (Nat.dvd_trans c1 hhd) c2
    have ceb : Nat.Coprime c (b * (e * e * (e * e))) := by
      have q1 := Nat.Coprime.coprime_dvd_left c1 cb
      have q2 := Nat.Coprime.coprime_dvd_left c1 ce
      exact Nat.Coprime.mul_right q1 (Nat.Coprime.mul_right (Nat.Coprime.mul_right q2 q2) (Nat.Coprime.mul_right q2 q2))
    show Nat.gcd h w = 1
    rw [← hc]; exact Nat.Coprime.eq_one_of_dvd ceb c3
  have hdn : h ∣ n' := sqf_sq (sqf_dvd hs hhd) hh0 (Nat.dvd_trans hhd ⟨w, hn'⟩)
  obtain ⟨t, rfl⟩ := hdn
  have h4 : h ∣ g * w := by
    have : h * (h * (t * t)) = h * (g * w) := by
      rw [show h * (h * (t * t)) = h * t * (h * t) from by grind, hn', e1]; grind
    exact ⟨t * t, (Nat.eq_of_mul_eq_mul_left hh0 this).symm⟩
  have h5 : h ∣ g := cw.dvd_of_dvd_mul_right h4
  have h6 : h = 1 := sqf_one hs hd0 (by rw [e1]; exact Nat.mul_dvd_mul h5 (Nat.dvd_refl h))
  rw [e1, h6, Nat.mul_one]
  exact hg ▸ Nat.gcd_dvd_right d b
