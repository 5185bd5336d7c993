/-! BY A PRIME: many -/
theorem fvP_lt {p : Nat} (hp : 0 < p) (a b : Int) (x : Nat) : fvP p a b x < p := by
  have := em_bd ((x : Int) * x * x + a * x * x + b * x) hp
  unfold fvP
  omega
theorem fvP_int {p : Nat} (hp : 0 < p) (a b : Int) (x : Nat) : ((fvP p a b x : Nat) : Int) = ((x : Int) * x * x + a * x * x + b * x) % p := by
  have := em_bd ((x : Int) * x * x + a * x * x + b * x) hp
  unfold fvP
  omega
theorem ys_len {p : Nat} (hp : p ∈ opr) {r : Nat} (hr : r < p) : ((ysF p r p 0).length : Int) = if rtP p r < 0 then 0 else if rtP p r = 0 then 1 else 2 := by
  rw [ysK p hp r hr]
  split
  · rfl
  · split <;> rfl
theorem mnS_s (p : Nat) (a b : Int) (j x : Nat) (c : Int) : mnS p a b (j + 1) x c = mnS p a b j (x + 1) (c + ((ysF p (fvP p a b x) p 0).length : Int)) := rfl
theorem mnS_bd {p : Nat} (hp : p ∈ opr) (a b : Int) : ∀ (j x : Nat) (c : Int), c ≤ mnS p a b j x c ∧ mnS p a b j x c ≤ c + 2 * j := by
  have hb := opr_bd p hp
  intro j
  induction j with
  | zero => intro x c; show c ≤ c ∧ c ≤ c + 2 * 0; omega
  | succ j ih =>
    intro x c
    rw [mnS_s]
    have h1 := ih (x + 1) (c + ((ysF p (fvP p a b x) p 0).length : Int))
    have h2 := ys_len hp (fvP_lt (show 0 < p by omega) a b x)
    split at h2
    · omega
    · split at h2 <;> omega
theorem many_bd {p : Nat} (hp : p ∈ opr) (a b : Int) : 1 ≤ manyN p a b ∧ manyN p a b ≤ 195 := by
  have hb := opr_bd p hp
  have := mnS_bd hp a b p 0 1
  unfold manyN
  omega
section BYP
variable {a b : Int}
theorem rootAt_ok {N : Nat} {p : Nat} (hp : p ∈ opr) {σ : aSt} (h : TKN p a b σ) {x : Nat} (hx : x < p) : f_PrimeGroup_rootAt N (iZ x) σ = some (iZ (rtP p (fvP p a b x))) := by
  have hb := opr_bd p hp
  obtain ⟨h1, h2, h3, h4, h5⟩ := h
  have ea := em_bd a (p := p) (by omega)
  have eb := em_bd b (p := p) (by omega)
  have m1 := mul_bd (x := (x : Int)) (y := (x : Int) + a % p) (A := 97) (B := 194) ⟨by omega, by omega⟩ ⟨by omega, by omega⟩
  have er := em_bd ((x : Int) * ((x : Int) + a % p) + b % p) (p := p) (by omega)
  have m2 := mul_bd (x := (x : Int)) (y := ((x : Int) * ((x : Int) + a % p) + b % p) % p) (A := 97) (B := 97) ⟨by omega, by omega⟩ ⟨by omega, by omega⟩
  unfold f_PrimeGroup_rootAt
  rw [h2, h3, iZ_add, i2j ⟨by omega, by omega⟩, i2j ⟨by omega, by omega⟩, i2j ⟨by omega, by omega⟩, jZ_mul, jZ_add, pg_res (p := p) ⟨by omega, by omega⟩ (by omega) (by omega) h1, Option.bind_some, i2j ⟨by omega, by omega⟩, jZ_mul, pg_res (p := p) ⟨by omega, by omega⟩ (by omega) (by omega) h1, Option.bind_some]
  have e : ((x : Int) * (((x : Int) * ((x : Int) + a % p) + b % p) % p)) % p = ((x : Int) * x * x + a * x * x + b * x) % p := by
    refine em_of (d_eq (y := (x : Int) * ((((x : Int) * ((x : Int) + a % p) + b % p)) % p - ((x : Int) * ((x : Int) + a % p) + b % p)) + ((x : Int) * x) * (a % p - a) + (x : Int) * (b % p - b)) (by grind) (Int.dvd_add (Int.dvd_add (d_mul (d_em _ _)) (d_mul (d_em _ _))) (d_mul (d_em _ _))))
  have ef := em_bd ((x : Int) * x * x + a * x * x + b * x) (p := p) (by omega)
  rw [e, pick_in (by decide) (by decide) ef.1 (by show _ < ((97 : Nat) : Int); omega)]
  rw [show (((x : Int) * x * x + a * x * x + b * x) % p).toNat = fvP p a b x from rfl, h4 _ (fvP_lt (by omega) a b x)]
theorem manyX {N : Nat} {p : Nat} (hp : p ∈ opr) {σ : aSt} (h : TKN p a b σ) : ∀ (j x n : Nat) (c : Int), x + j = p → j + 1 ≤ n → f_PrimeGroup_manyBy_l16 N n (iZ p) (iZ c) (iZ x) σ = some (iZ (mnS p a b j x c), s_i σ 40 p (iZ (mnS p a b j x c))) := by
  have hb := opr_bd p hp
  intro j
  induction j with
  | zero =>
    intro x n c hx hn
    obtain ⟨n, rfl, _⟩ := fuel hn
    rw [f_PrimeGroup_manyBy_l16, h.1, if_pos (by rw [iZ_le ⟨by omega, by omega⟩ ⟨by omega, by omega⟩]; omega), lt_eq, store_in (by decide) (by decide) (by omega) (by show (p : Int) < ((98 : Nat) : Int); omega), Int.toNat_natCast]
    rfl
  | succ j ih =>
    intro x n c hx hn
    obtain ⟨n, rfl, hn'⟩ := fuel hn
    have hr := ys_len hp (fvP_lt (show 0 < p by omega) a b x)
    have rb := rtP_bd p (fvP p a b x)
    rw [f_PrimeGroup_manyBy_l16, h.1, if_neg (by rw [iZ_le ⟨by omega, by omega⟩ ⟨by omega, by omega⟩]; omega), rootAt_ok hp h (by omega), Option.bind_some, i1, mnS_s, hr]
    have c1 : (iZ (rtP p (fvP p a b x)) < 0) = (rtP p (fvP p a b x) < 0) := by rw [show (0 : Int32) = iZ 0 from rfl, iZ_lt ⟨by omega, by omega⟩ (bd_lit _ rfl)]
    have c2 : (iZ (rtP p (fvP p a b x)) ≠ 0) = (rtP p (fvP p a b x) ≠ 0) := by rw [ne_eq, show (0 : Int32) = iZ 0 from rfl, iZ_eq ⟨by omega, by omega⟩ (bd_lit _ rfl)]
    simp only [c1, c2]
    by_cases d1 : rtP p (fvP p a b x) < 0
    · rw [if_pos d1, if_pos d1, ih (x + 1) n c (by omega) hn', Int.add_zero]
    · rw [if_neg d1, if_neg d1]
      by_cases d2 : rtP p (fvP p a b x) = 0
      · rw [if_neg (fun z => z d2), if_pos d2, show (1 : Int32) = iZ 1 from rfl, iZ_add, ih (x + 1) n (c + 1) (by omega) hn']
      · rw [if_pos d2, if_neg d2, show (2 : Int32) = iZ 2 from rfl, iZ_add, ih (x + 1) n (c + 2) (by omega) hn']
theorem manyBy_ok {N : Nat} (hN : 10000 ≤ N) (ha : bd 60 a) (hb' : bd 200 b) {p : Nat} (hg : gP a b p = true) {σ : aSt} (h : GI a b σ) : ∃ σ', f_PrimeGroup_manyBy N (iZ p) σ = some (iZ (manyN p a b), σ') ∧ GI a b σ' ∧ fr frG σ σ' := by
  obtain ⟨q, e, hp, _, _⟩ := gP_ex hg
  have e' : p = q := by omega
  subst e'
  have hb := opr_bd p hp
  unfold f_PrimeGroup_manyBy
  rw [pick_in (by decide) (by decide) (by omega) (by show (p : Int) < ((98 : Nat) : Int); omega), Int.toNat_natCast]
  by_cases c : σ.1 40 p = 0
  · rw [if_pos c]
    obtain ⟨σ1, g1, g2, g3, g4, g5⟩ := take_ok hN ha hb' hg h
    rw [g1, Option.bind_some]
    have e1 := manyX (N := N) hp g3 p 0 N 1 (by omega) (by omega)
    rw [show (1 : Int32) = iZ 1 from rfl, show (0 : Int32) = iZ ((0 : Nat) : Int) from rfl, e1]
    refine ⟨_, rfl, ⟨g2.1, g2.2.1, fun q hq => ?_, ?_⟩, fr_trans g5 (fr_si rfl)⟩
    · by_cases z : q = p
      · subst z
        right; exact ⟨hg, si_eq _ _ _ _⟩
      · rw [si_ne (Or.inr z)]; exact g2.2.2.1 q hq
    · exact Or.inr ⟨p, hg, TKN_fr (S := fun o _ => Nat.beq o 40) (fr_si rfl) ⟨rfl, rfl, rfl⟩ (fun _ => rfl) (fun _ => rfl) g3, g4⟩
  · rw [if_neg c]
    rcases h.2.2.1 p (by omega) with z | z
    · exact absurd z c
    · rw [z.2]
      exact ⟨σ, rfl, h, fr_refl _ _⟩
theorem manyM1 {N : Nat} {p : Nat} (hp : p ∈ opr) {r : Nat} (hr : r < p) {τ : aSt} {K : Int32 → Int32 → Int32 → Option Int32} (x : Int32) : ∀ (j y n : Nat) (c : Int), y + j = p → j + 1 ≤ n → f_M_manyOf_l37 N τ K n (iZ p) (iZ c) x (iZ r) (iZ y) = K (iZ p) (iZ (c + ((ysF p r j y).length : Int))) x := by
  have hb := opr_bd p hp
  intro j
  induction j with
  | zero =>
    intro y n c hy hn
    obtain ⟨n, rfl, _⟩ := fuel hn
    rw [f_M_manyOf_l37, if_pos (by rw [iZ_le ⟨by omega, by omega⟩ ⟨by omega, by omega⟩]; omega)]
    show _ = K (iZ p) (iZ (c + 0)) x
    rw [Int.add_zero]
  | succ j ih =>
    intro y n c hy hn
    obtain ⟨n, rfl, hn'⟩ := fuel hn
    have sq := sq97 (show y ≤ p by omega) hb.2
    have em : (y : Int) * y % p = ((y * y % p : Nat) : Int) := by rw [← Int.natCast_mul, ← Int.natCast_emod]
    have lt : y * y % p < p := Nat.mod_lt _ (by omega)
    rw [f_M_manyOf_l37, if_neg (by rw [iZ_le ⟨by omega, by omega⟩ ⟨by omega, by omega⟩]; omega), if_pos (by rw [show (0 : Int32) = iZ 0 from rfl, iZ_eq ⟨by omega, by omega⟩ (bd_lit _ rfl)]; omega), iZ_mul, irem_nn (by omega) (by omega) (by omega) (by omega), i1, em, ysF_s, show (0 : Int32) = iZ 0 from rfl, show (1 : Int32) = iZ 1 from rfl, iZ_add, iZ_add]
    have c1 : (iZ ((y * y % p : Nat) : Int) ≠ iZ (r : Int)) = ¬ (y * y % p = r) := by
      rw [ne_eq, iZ_eq ⟨by omega, by omega⟩ ⟨by omega, by omega⟩]; apply propext; omega
    simp only [c1]
    by_cases d : y * y % p = r
    · rw [if_neg (fun z => z d), if_pos d, ih (y + 1) n (c + 1) (by omega) hn', List.length_cons]
      congr 2; omega
    · rw [if_pos d, if_neg d, ih (y + 1) n (c + 0) (by omega) hn']
      congr 2; omega
theorem fv_big {x : Nat} (hx : x < 97) (ha : bd 60 a) (hb : bd 200 b) : bd 9223372036854775807 ((x : Int) * x * x + a * x * x + b * x) := by
  have h1 : bd 97 (x : Int) := ⟨by omega, by omega⟩
  have := bd_add (bd_add (bd_mul (bd_mul h1 h1) h1) (bd_mul (bd_mul ha h1) h1)) (bd_mul hb h1)
  exact bd_mono this (by decide)
theorem manyM {N : Nat} (hN : 10000 ≤ N) (ha : bd 60 a) (hb' : bd 200 b) {p : Nat} (hp : p ∈ opr) {τ : aSt} (h2 : τ.1 66 2 = iZ a) (h3 : τ.1 66 3 = iZ b) : ∀ (j x n : Nat) (c : Int), x + j = p → j + 1 ≤ n → f_M_manyOf_l4 N τ n (iZ p) (iZ c) (iZ x) = some (iZ (mnS p a b j x c)) := by
  have hb := opr_bd p hp
  have := ha.1; have := ha.2; have := hb'.1; have := hb'.2
  intro j
  induction j with
  | zero =>
    intro x n c hx hn
    obtain ⟨n, rfl, _⟩ := fuel hn
    rw [f_M_manyOf_l4, if_pos (by rw [iZ_le ⟨by omega, by omega⟩ ⟨by omega, by omega⟩]; omega)]; rfl
  | succ j ih =>
    intro x n c hx hn
    obtain ⟨n, rfl, hn'⟩ := fuel hn
    have fb := fv_big (x := x) (by omega) ha hb'
    rw [f_M_manyOf_l4, if_neg (by rw [iZ_le ⟨by omega, by omega⟩ ⟨by omega, by omega⟩]; omega), h2, h3, i2j ⟨by omega, by omega⟩, i2j ⟨by omega, by omega⟩, i2j ⟨by omega, by omega⟩, jZ_mul, jZ_mul, jZ_mul, jZ_mul, jZ_add, jZ_mul, jZ_add, mod_ok fb (by omega) (by omega), Option.bind_some, ← fvP_int (by omega)]
    have e := manyM1 (N := N) hp (fvP_lt (show 0 < p by omega) a b x) (τ := τ) (K := fun (y6 : Int32) (y7 : Int32) (y8 : Int32) => f_M_manyOf_l4 N τ n y6 y7 (y8 + (1 : Int32))) (iZ x) p 0 N c (by omega) (by omega)
    rw [show (0 : Int32) = iZ ((0 : Nat) : Int) from rfl, e, i1, ih (x + 1) n _ (by omega) hn', mnS_s]
theorem manyOf_ok {N : Nat} (hN : 10000 ≤ N) (ha : bd 60 a) (hb' : bd 200 b) {p : Nat} (hp : p ∈ opr) {τ : aSt} (h2 : τ.1 66 2 = iZ a) (h3 : τ.1 66 3 = iZ b) : f_M_manyOf N (iZ p) τ = some (iZ (manyN p a b)) := by
  have hb := opr_bd p hp
  exact manyM hN ha hb' hp h2 h3 p 0 N 1 (by omega) (by omega)
end BYP
section BYC
variable {a b : Int} {M E : Nat}
theorem many_eq {N : Nat} (hc : CVc a b M E) (hN : 10000 ≤ N) {σ τ : aSt} (hx : RX a b M E σ) (hm : RM a b M E τ) (hp : CP σ) (hg : GI a b σ) (p : Int32) : ∃ r σ', f_X_many N p σ = some (r, σ') ∧ f_M_many N p τ = some r ∧ GI a b σ' ∧ fr frG σ σ' := by
  obtain ⟨b1, b2, _, _⟩ := cvc_bd hc
  unfold f_X_many f_M_many
  rw [byX hc hN hx hp, byM hc hN hm, Option.bind_some, Option.bind_some]
  by_cases c : gP a b p.toInt = true
  · rw [if_pos c, if_pos c]
    obtain ⟨q, e, hq, _, _⟩ := gP_ex c
    rw [e] at c
    obtain ⟨σ', g1, g2, g3⟩ := manyBy_ok hN b1 b2 c hg
    rw [lit32 e, g1, manyOf_ok hN b1 b2 hq hm.2.2.1 hm.2.2.2.1, Option.bind_some, Option.bind_some]
    exact ⟨_, σ', rfl, rfl, g2, g3⟩
  · rw [if_neg c, if_neg c]
    exact ⟨_, σ, rfl, rfl, hg, fr_refl _ _⟩
theorem trace_eq {N : Nat} (hc : CVc a b M E) (hN : 10000 ≤ N) {σ τ : aSt} (hx : RX a b M E σ) (hm : RM a b M E τ) (hp : CP σ) (hg : GI a b σ) (p : Int32) : ∃ r σ', f_X_trace N p σ = some (r, σ') ∧ f_M_trace N p τ = some r ∧ GI a b σ' ∧ fr frG σ σ' := by
  obtain ⟨b1, b2, _, _⟩ := cvc_bd hc
  unfold f_X_trace f_M_trace
  rw [byX hc hN hx hp, byM hc hN hm, Option.bind_some, Option.bind_some]
  by_cases c : gP a b p.toInt = true
  · rw [if_pos c, if_pos c]
    obtain ⟨q, e, hq, _, _⟩ := gP_ex c
    have hb := opr_bd q hq
    have mb := many_bd hq a b
    rw [e] at c
    obtain ⟨σ', g1, g2, g3⟩ := manyBy_ok hN b1 b2 c hg
    rw [lit32 e, g1, manyOf_ok hN b1 b2 hq hm.2.2.1 hm.2.2.2.1, Option.bind_some, Option.bind_some]
    refine ⟨_, σ', rfl, ?_, g2, g3⟩
    show some _ = some ((iZ (q : Int) + (1 : Int32)) - iZ (manyN q a b)).toInt64
    rw [show (1 : Int32) = iZ 1 from rfl, iZ_add, iZ_sub, i2j ⟨by omega, by omega⟩, i2j ⟨by omega, by omega⟩, i2j ⟨by omega, by omega⟩, show (1 : Int64) = jZ 1 from rfl, jZ_add, jZ_sub]
  · rw [if_neg c, if_neg c]
    exact ⟨_, σ, rfl, rfl, hg, fr_refl _ _⟩
end BYC
