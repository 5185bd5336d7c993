/-! over, back, beside, same -/
def ovR (n w : Int) : Int := n.tdiv (Int.gcd n w : Int)
def ovD (n w : Int) : Nat := (w.tdiv (Int.gcd n w : Int)).natAbs
theorem gsq (n w : Int) : Int.gcd (n * n) (w * w) = Int.gcd n w * Int.gcd n w := by
  unfold Int.gcd
  rw [Int.natAbs_mul, Int.natAbs_mul, ← Nat.pow_two, ← Nat.pow_two, Nat.pow_gcd_pow, Nat.pow_two]
theorem ov_lw {n w : Int} (hw : w ≠ 0) : lwU (n * n) (w * w) = ovR n w * ovR n w ∧ lwV (n * n) (w * w) = (ovD n w : Int) * (ovD n w : Int) ∧ 1 ≤ ovD n w := by
  have hg : 0 < Int.gcd n w := Int.gcd_pos_of_ne_zero_right n hw
  have en : n = (Int.gcd n w : Int) * ovR n w := (Int.mul_tdiv_cancel' (Int.gcd_dvd_left n w)).symm
  have ew : w = (Int.gcd n w : Int) * w.tdiv (Int.gcd n w : Int) := (Int.mul_tdiv_cancel' (Int.gcd_dvd_right n w)).symm
  obtain ⟨g, hgg⟩ : ∃ g, g = (Int.gcd n w : Int) := ⟨_, rfl⟩
  obtain ⟨r, hr⟩ : ∃ r, r = ovR n w := ⟨_, rfl⟩
  obtain ⟨v, hv⟩ : ∃ v, v = w.tdiv (Int.gcd n w : Int) := ⟨_, rfl⟩
  have hgp : g * g ≠ 0 := by
    have : 0 < g := by omega
    exact fun q => by have := Int.mul_pos this this; omega
  have egg : (Int.gcd (n * n) (w * w) : Int) = g * g := by rw [gsq, Int.natCast_mul, ← hgg]
  rw [← hgg, ← hr] at en
  rw [← hv, ← hgg] at ew
  have hd : (ovD n w : Int) * (ovD n w : Int) = v * v := by
    unfold ovD
    rw [← hv]
    exact Int.natAbs_mul_self' v
  refine ⟨?_, ?_, ?_⟩
  · unfold lwU
    rw [egg, ← hr, show n * n = g * g * (r * r) from by rw [en]; grind]
    exact Int.mul_tdiv_cancel_left _ hgp
  · unfold lwV
    rw [egg, hd]
    have : w * w = g * g * (v * v) := by
      have e2 : w * w = (g * v) * (g * v) := by rw [← ew]
      rw [e2]; grind
    rw [this]
    exact Int.mul_tdiv_cancel_left _ hgp
  · rcases Nat.eq_zero_or_pos (ovD n w) with z | z
    · unfold ovD at z
      rw [← hv] at z
      have : v = 0 := by omega
      rw [this, Int.mul_zero] at ew
      exact absurd ew hw
    · exact z
/-- n of where it goes -/
def ovN (B s : Int) (p : Pt) (d : Int) : Int := (p.2.1 * (B * p.2.2 * p.2.2 * p.2.2 * p.2.2 - p.1 * p.1) * d * d * d).tdiv (s * s * s * p.2.2 * p.2.2 * p.2.2 * p.1 * p.1)
def ovI (B s : Int) (E : Nat) (L : List Pt) (p : Pt) : Int := if ovD p.2.1 (s * p.1 * p.2.2) ≤ E then fnd L (ovR p.2.1 (s * p.1 * p.2.2) * ovR p.2.1 (s * p.1 * p.2.2), ovN B s p (ovD p.2.1 (s * p.1 * p.2.2)), (ovD p.2.1 (s * p.1 * p.2.2) : Int)) else -6
section OVER
variable {a b : Int} {M E : Nat}
theorem ov_w {p : Pt} (hp : isPt a b M E p) (hm0 : p.1 ≠ 0) {s : Int} (hs : s ≠ 0) : s * p.1 * p.2.2 ≠ 0 := Int.mul_ne_zero (Int.mul_ne_zero hs hm0) (by have := hp.2.1; omega)
theorem ov_bd (hab : inB a b) (hM : M ≤ 1000) (hE : E ≤ 6) {p : Pt} (hp : isPt a b M E p) {B : Int} (hB : bd 4400 B) {s : Int} (hs : bd 2 s) {d : Int} (hd : bd 6 d) : bd 9223372036854775807 (p.2.1 * (B * p.2.2 * p.2.2 * p.2.2 * p.2.2 - p.1 * p.1) * d * d * d) ∧ bd 9223372036854775807 (s * s * s * p.2.2 * p.2.2 * p.2.2 * p.1 * p.1) ∧ bd 12000 (s * p.1 * p.2.2) := by
  have m := isPt_m hM hp
  have n := isPt_n hab hM hE hp
  have e := isPt_e hE hp
  refine ⟨bd_mono (bd_mul (bd_mul (bd_mul (bd_mul n (bd_sub (bd_mul (bd_mul (bd_mul (bd_mul hB e) e) e) e) (bd_mul m m))) hd) hd) hd) (by decide), bd_mono (bd_mul (bd_mul (bd_mul (bd_mul (bd_mul (bd_mul (bd_mul hs hs) hs) e) e) e) m) m) (by decide), bd_mono (bd_mul (bd_mul hs m) e) (by decide)⟩
theorem ovRD_bd (hab : inB a b) (hM : M ≤ 1000) (hE : E ≤ 6) {p : Pt} (hp : isPt a b M E p) {w : Int} (hw : bd 12000 w) : bd 141421 (ovR p.2.1 w) ∧ ovD p.2.1 w ≤ 12000 := by
  have n := isPt_n hab hM hE hp
  have h1 := bd_tdiv (Int.gcd p.2.1 w : Int) hw
  have := h1.1; have := h1.2
  exact ⟨bd_tdiv _ n, by unfold ovD; omega⟩
theorem shown_of {a' b' : Int} (hab : inB a' b') (hM : M ≤ 1000) (hE : E ≤ 6) (t : Pt) : (if iZ ((hL a' b' M E).length : Int) ≤ iZ (fnd (hX a' b' M E) t) then some (iZ (-6)) else some (iZ (fnd (hX a' b' M E) t))) = some (iZ (fnd (hL a' b' M E) t)) := by
  have hl := hL_le (a := a') (b := b') (M := M) (E := E)
  have hlen := hL_len a' b' M E
  have hr := fnd_rng _ t (hX_KS hab hM hE)
  have hxl := hX_len a' b' M E
  rw [fnd_shown hab hM hE]
  by_cases c : ((hL a' b' M E).length : Int) ≤ fnd (hX a' b' M E) t
  · rw [if_pos (by rw [iZ_le ⟨by omega, by omega⟩ ⟨by omega, by omega⟩]; exact c), if_neg (by omega)]
  · rw [if_neg (by rw [iZ_le ⟨by omega, by omega⟩ ⟨by omega, by omega⟩]; exact c), if_pos (by omega)]
end OVER

section OVER
variable {a b : Int} {M E : Nat}
theorem go11 {N : Nat} (hN : 10000 ≤ N) {a' b' : Int} (hab : inB a b) (hab' : inB a' b') (hM : M ≤ 1000) (hE : E ≤ 6) {σ : aSt} (hx : XL 11 (hX a b M E) σ) (h7 : σ.1 11 7 = iZ b) (hy : XL 16 (hX a' b' M E) σ) (h8 : σ.1 16 8 = iZ M) (h9 : σ.1 16 9 = iZ E) (hsh : f_PointList_shown_16 σ = iZ ((hL a' b' M E).length : Int)) {i : Nat} {p : Pt} (hi : (hX a b M E)[i]? = some p) {s : Int} (hs : bd 2 s) (hs0 : s ≠ 0) : f_X_goOver_11_16 N (iZ i) (iZ s) σ = some (iZ (if p.1 = 0 then 1000 else ovI b s E (hL a' b' M E) p)) := by
  have hp := hX_pt (List.mem_of_getElem? hi)
  have hil := get_lt hi
  have hxl := hX_len a b M E
  have m := isPt_m hM hp
  have n := isPt_n hab hM hE hp
  have e := isPt_e hE hp
  unfold f_X_goOver_11_16
  rw [if_neg (by rw [iZ_lit, iZ_eq ⟨by omega, by omega⟩ (bd_lit _ rfl)]; omega), m11 hx hi, n11 hx hi, e11 hx hi]
  by_cases c0 : p.1 = 0
  · rw [if_neg (by rw [c0]; exact fun h => h rfl), if_pos c0]; rfl
  · rw [if_pos (by rw [ne_eq, iZ_lit, iZ_eq (bd_mono m (by decide)) (bd_lit _ rfl)]; exact c0), if_neg c0]
    have eb : (f_PointList_b_11 σ).toInt64 = jZ b := by
      have : f_PointList_b_11 σ = iZ b := h7
      rw [this, i2j (bd_mono hab.2 (by decide))]
    have ed : (f_PointList_deepest_16 σ).toInt64 = jZ E := by
      have : f_PointList_deepest_16 σ = iZ E := h9
      rw [this, i2j ⟨by omega, by omega⟩]
    rw [i2j (bd_mono m (by decide)), i2j (bd_mono n (by decide)), i2j (bd_mono e (by decide)), i2j (bd_mono hs (by decide)), eb, ed, hsh]
    simp only [jZ_mul, jZ_sub]
    have hwb : bd 12000 (s * p.1 * p.2.2) := (ov_bd hab hM hE hp hab.2 hs (d := 1) (bd_lit _ rfl)).2.2
    obtain ⟨w, hw⟩ : ∃ w, w = s * p.1 * p.2.2 := ⟨_, rfl⟩
    have hw0 : w ≠ 0 := by rw [hw]; exact ov_w hp c0 hs0
    unfold ovI
    rw [← hw] at hwb ⊢
    have w1 := hwb.1; have w2 := hwb.2
    have hgl := Int.gcd_le_natAbs_right p.2.1 hw0
    have hgb : bd 9223372036854775807 (Int.gcd p.2.1 w : Int) := ⟨by omega, by omega⟩
    obtain ⟨rb, db⟩ := ovRD_bd hab hM hE hp hwb
    rw [gcd_Z hN (bd_mono n (by decide)) (bd_mono hwb (by decide)), Option.bind_some, quot_Z (bd_mono n (by decide)) hgb, quot_Z (bd_mono hwb (by decide)) hgb, labs_Z (bd_mono (bd_tdiv _ hwb) (by decide))]
    rw [show ((w.tdiv (Int.gcd p.2.1 w : Int)).natAbs : Int) = (ovD p.2.1 w : Int) from rfl, show p.2.1.tdiv (Int.gcd p.2.1 w : Int) = ovR p.2.1 w from rfl]
    by_cases cd : ovD p.2.1 w ≤ E
    · rw [if_pos (by rw [jZ_le ⟨by omega, by omega⟩ ⟨by omega, by omega⟩]; omega), if_pos cd]
      obtain ⟨b1, b2, -⟩ := ov_bd hab hM hE hp hab.2 hs (d := (ovD p.2.1 w : Int)) ⟨by omega, by omega⟩
      simp only [jZ_mul]
      rw [quot_Z b1 b2, find16 hN hab' hM hE hy h8 h9 (bd_mono (bd_mul rb rb) (by decide)) (bd_tdiv _ b1) ⟨by omega, by omega⟩, Option.bind_some, min_6]
      exact shown_of hab' hM hE _
    · rw [if_neg (by rw [jZ_le ⟨by omega, by omega⟩ ⟨by omega, by omega⟩]; omega), if_neg cd, min_6]
end OVER

section OVER
variable {a b : Int} {M E : Nat}
theorem go16 {N : Nat} (hN : 10000 ≤ N) {a' b' : Int} (hab : inB a b) (hab' : inB a' b') (hM : M ≤ 1000) (hE : E ≤ 6) {σ : aSt} (hx : XL 16 (hX a b M E) σ) (h7 : σ.1 16 7 = iZ b) (hy : XL 11 (hX a' b' M E) σ) (h8 : σ.1 11 8 = iZ M) (h9 : σ.1 11 9 = iZ E) (hsh : f_PointList_shown_11 σ = iZ ((hL a' b' M E).length : Int)) {i : Nat} {p : Pt} (hi : (hX a b M E)[i]? = some p) {s : Int} (hs : bd 2 s) (hs0 : s ≠ 0) : f_X_goOver_16_11 N (iZ i) (iZ s) σ = some (iZ (if p.1 = 0 then 1000 else ovI b s E (hL a' b' M E) p)) := by
  have hp := hX_pt (List.mem_of_getElem? hi)
  have hil := get_lt hi
  have hxl := hX_len a b M E
  have m := isPt_m hM hp
  have n := isPt_n hab hM hE hp
  have e := isPt_e hE hp
  unfold f_X_goOver_16_11
  rw [if_neg (by rw [iZ_lit, iZ_eq ⟨by omega, by omega⟩ (bd_lit _ rfl)]; omega), m16 hx hi, n16 hx hi, e16 hx hi]
  by_cases c0 : p.1 = 0
  · rw [if_neg (by rw [c0]; exact fun h => h rfl), if_pos c0]; rfl
  · rw [if_pos (by rw [ne_eq, iZ_lit, iZ_eq (bd_mono m (by decide)) (bd_lit _ rfl)]; exact c0), if_neg c0]
    have eb : (f_PointList_b_16 σ).toInt64 = jZ b := by
      have : f_PointList_b_16 σ = iZ b := h7
      rw [this, i2j (bd_mono hab.2 (by decide))]
    have ed : (f_PointList_deepest_11 σ).toInt64 = jZ E := by
      have : f_PointList_deepest_11 σ = iZ E := h9
      rw [this, i2j ⟨by omega, by omega⟩]
    rw [i2j (bd_mono m (by decide)), i2j (bd_mono n (by decide)), i2j (bd_mono e (by decide)), i2j (bd_mono hs (by decide)), eb, ed, hsh]
    simp only [jZ_mul, jZ_sub]
    have hwb : bd 12000 (s * p.1 * p.2.2) := (ov_bd hab hM hE hp hab.2 hs (d := 1) (bd_lit _ rfl)).2.2
    obtain ⟨w, hw⟩ : ∃ w, w = s * p.1 * p.2.2 := ⟨_, rfl⟩
    have hw0 : w ≠ 0 := by rw [hw]; exact ov_w hp c0 hs0
    unfold ovI
    rw [← hw] at hwb ⊢
    have w1 := hwb.1; have w2 := hwb.2
    have hgl := Int.gcd_le_natAbs_right p.2.1 hw0
    have hgb : bd 9223372036854775807 (Int.gcd p.2.1 w : Int) := ⟨by omega, by omega⟩
    obtain ⟨rb, db⟩ := ovRD_bd hab hM hE hp hwb
    rw [gcd_Z hN (bd_mono n (by decide)) (bd_mono hwb (by decide)), Option.bind_some, quot_Z (bd_mono n (by decide)) hgb, quot_Z (bd_mono hwb (by decide)) hgb, labs_Z (bd_mono (bd_tdiv _ hwb) (by decide))]
    rw [show ((w.tdiv (Int.gcd p.2.1 w : Int)).natAbs : Int) = (ovD p.2.1 w : Int) from rfl, show p.2.1.tdiv (Int.gcd p.2.1 w : Int) = ovR p.2.1 w from rfl]
    by_cases cd : ovD p.2.1 w ≤ E
    · rw [if_pos (by rw [jZ_le ⟨by omega, by omega⟩ ⟨by omega, by omega⟩]; omega), if_pos cd]
      obtain ⟨b1, b2, -⟩ := ov_bd hab hM hE hp hab.2 hs (d := (ovD p.2.1 w : Int)) ⟨by omega, by omega⟩
      simp only [jZ_mul]
      rw [quot_Z b1 b2, find11 hN hab' hM hE hy h8 h9 (bd_mono (bd_mul rb rb) (by decide)) (bd_tdiv _ b1) ⟨by omega, by omega⟩, Option.bind_some, min_6]
      exact shown_of hab' hM hE _
    · rw [if_neg (by rw [jZ_le ⟨by omega, by omega⟩ ⟨by omega, by omega⟩]; omega), if_neg cd, min_6]
end OVER

section OVER
variable {a b : Int} {M E : Nat}
/-- the reference: lowered and looked at -/
theorem eW_ok (hab : inB a b) (hM : M ≤ 1000) (hE : E ≤ 6) {N : Nat} (hN : 10000 ≤ N) {τ : aSt} (h4 : τ.1 66 4 = iZ M) (h5 : τ.1 66 5 = iZ E) {p : Pt} (hp : isPt a b M E p) {w : Int} (hw0 : w ≠ 0) (hwb : bd 12000 w) {V : Int} (hV : V = w * w) : ∃ τ', f_M_eWithin N (jZ (p.2.1 * p.2.1)) (jZ V) τ = some (jZ (if ovD p.2.1 w ≤ E ∧ ovR p.2.1 w * ovR p.2.1 w ≤ M then (ovD p.2.1 w : Int) else 0), τ') ∧ fr fr23 τ τ' ∧ τ'.2.1 66 23 = jZ (ovR p.2.1 w * ovR p.2.1 w) := by
  have n := isPt_n hab hM hE hp
  obtain ⟨rb, db⟩ := ovRD_bd hab hM hE hp hwb
  obtain ⟨l1, l2, l3⟩ := ov_lw (n := p.2.1) hw0
  have hpos : 0 < w * w := sq_pos hw0
  have rrb := bd_mul rb rb
  have r1 := rrb.1; have r2 := rrb.2
  have rpos : 0 ≤ ovR p.2.1 w * ovR p.2.1 w := by
    rcases Classical.em (ovR p.2.1 w = 0) with q | q
    · rw [q]; decide
    · have := sq_pos q; omega
  have ddb : ovD p.2.1 w * ovD p.2.1 w ≤ 12000 * 12000 := Nat.mul_le_mul db db
  subst hV
  unfold f_M_eWithin
  rw [lowers_pos hN (bd_mono (bd_mul n n) (by decide)) (bd_mono (bd_mul hwb hwb) (by decide)) hpos, Option.bind_some, l1, l2]
  obtain ⟨τ1, hτ1⟩ : ∃ τ1, τ1 = s_l (s_l τ 66 23 (jZ (ovR p.2.1 w * ovR p.2.1 w))) 66 24 (jZ ((ovD p.2.1 w : Int) * (ovD p.2.1 w : Int))) := ⟨_, rfl⟩
  rw [← hτ1]
  have f1 : fr fr23 τ τ1 := by rw [hτ1]; exact fr_trans (fr_sl rfl) (fr_sl rfl)
  have k23 : τ1.2.1 66 23 = jZ (ovR p.2.1 w * ovR p.2.1 w) := by rw [hτ1]; rfl
  have k24 : τ1.2.1 66 24 = jZ ((ovD p.2.1 w * ovD p.2.1 w : Nat) : Int) := by rw [hτ1, Int.natCast_mul]; rfl
  have k4 : τ1.1 66 4 = iZ M := by rw [hτ1]; exact h4
  have k5 : τ1.1 66 5 = iZ E := by rw [hτ1]; exact h5
  rw [k24, root_Z hN (by omega), rtN_sq, Option.bind_some, jZ_mul, ← Int.natCast_mul, if_neg (fun h => h rfl), k4, k5, k23, i2j ⟨by omega, by omega⟩, i2j ⟨by omega, by omega⟩, labs_Z ⟨by omega, by omega⟩]
  by_cases c1 : ovD p.2.1 w ≤ E
  · rw [if_neg (by rw [jZ_lt ⟨by omega, by omega⟩ ⟨by omega, by omega⟩]; omega)]
    by_cases c2 : ovR p.2.1 w * ovR p.2.1 w ≤ M
    · rw [if_neg (by rw [jZ_lt ⟨by omega, by omega⟩ ⟨by omega, by omega⟩]; omega), if_pos ⟨c1, c2⟩]
      exact ⟨τ1, rfl, f1, k23⟩
    · rw [if_pos (by rw [jZ_lt ⟨by omega, by omega⟩ ⟨by omega, by omega⟩]; omega), if_neg (fun h => c2 h.2)]
      exact ⟨τ1, rfl, f1, k23⟩
  · rw [if_pos (by rw [jZ_lt ⟨by omega, by omega⟩ ⟨by omega, by omega⟩]; omega), if_neg (fun h => c1 h.1)]
    exact ⟨τ1, rfl, f1, k23⟩
/-- out of bounds: it is in no list -/
theorem ovI_far {B s : Int} {a' b' : Int} {p : Pt} (h : ¬ (ovD p.2.1 (s * p.1 * p.2.2) ≤ E ∧ ovR p.2.1 (s * p.1 * p.2.2) * ovR p.2.1 (s * p.1 * p.2.2) ≤ M)) : ovI B s E (hL a' b' M E) p = -6 := by
  unfold ovI
  by_cases c : ovD p.2.1 (s * p.1 * p.2.2) ≤ E
  · rw [if_pos c]
    refine fnd_out (fun q => h ⟨c, ?_⟩)
    obtain ⟨i, hi⟩ := List.getElem?_of_mem q
    exact (hL_pt hi).1.2
  · rw [if_neg c]
theorem over_eq {N : Nat} (hc : CVc a b M E) (hN : 10000 ≤ N) {σ τ : aSt} (hx : RX a b M E σ) (hb : BS a b M E σ) (hz : Z9 σ) (hm : RM a b M E τ) (p : Int32) : ∃ r σ' τ', f_X_over N p σ = some (r, σ') ∧ f_M_over N p τ = some (r, τ') ∧ (fr frB σ σ' ∧ BS a b M E σ' ∧ Z9 σ') ∧ fr frO τ τ' := by
  obtain ⟨hab', hb0', hM1, hM, hE1, hE⟩ := CVc_B hc
  obtain ⟨hab, hb0, -⟩ := CVc_CV hc
  have hl := hL_le (a := a) (b := b) (M := M) (E := E)
  unfold f_X_over f_M_over
  simp only [xPoint hx, mPoint hm, ite_dec]
  by_cases c : p.toInt = 1000 ∨ (0 ≤ p.toInt ∧ p.toInt < ((hL a b M E).length : Int))
  · rw [if_pos c, if_pos c]
    obtain ⟨σ', g1, g2, g3, g4, g5⟩ := readyB hc hN hx.2 hb hz
    have hx' := XC_B g2 hx.2
    have fin : (fr frB σ σ' ∧ BS a b M E σ' ∧ Z9 σ') := ⟨g2, fun _ => g4, g5⟩
    rw [g1, Option.bind_some]
    by_cases cz : p = (1000 : Int32)
    · rw [if_pos cz]
      unfold f_X_goOver_11_16
      rw [if_pos cz, Option.bind_some]
      exact ⟨_, σ', τ, rfl, rfl, fin, fr_refl _ _⟩
    · rw [if_neg cz]
      have c3 : 0 ≤ p.toInt ∧ p.toInt < ((hL a b M E).length : Int) := by
        rcases c with c | c
        · exact absurd (lit32 c) cz
        · exact c
      obtain ⟨i, q, rfl, hq⟩ := listed c3
      have hpt := hL_pt hq
      have m := isPt_m hM hpt
      have n := isPt_n hab hM hE hpt
      have e := isPt_e hE hpt
      rw [show (1 : Int32) = iZ 1 from rfl, go11 hN hab hab' hM hE hx'.1 hx'.2.2.1 g4.1 g4.2.2.2.1 g4.2.2.2.2 (shown16 g4) (hL_get hq).1 (s := 1) (bd_lit _ rfl) (by decide), Option.bind_some]
      obtain ⟨k1, k2, k3, k4⟩ := see_m hm.2 hq
      rw [if_pos k4, k1]
      by_cases c0 : q.1 = 0
      · rw [if_neg (c := iZ q.1 ≠ 0) (by rw [c0]; exact fun h => h rfl), if_pos c0]
        exact ⟨_, σ', τ, rfl, rfl, fin, fr_refl _ _⟩
      · rw [if_pos (c := iZ q.1 ≠ 0) (by rw [ne_eq, iZ_lit, iZ_eq (bd_mono m (by decide)) (bd_lit _ rfl)]; exact c0), if_neg c0]
        obtain ⟨τ1, t1, t2, t3⟩ := over_m hc hN hm.2
        have hm1 := MC_fr (fr51_O t3) okO hm.2
        obtain ⟨l1, l2, l3, -⟩ := see_m hm1 hq
        rw [t1, Option.bind_some, l1, l2, l3, i2j (bd_mono m (by decide)), i2j (bd_mono e (by decide))]
        simp only [jZ_mul]
        have hwb : bd 12000 (1 * q.1 * q.2.2) := (ov_bd hab hM hE hpt hab.2 (s := 1) (bd_lit _ rfl) (d := 1) (bd_lit _ rfl)).2.2
        obtain ⟨τ2, e1, e2, e3⟩ := eW_ok hab hM hE hN hm1.2.2.2.1 hm1.2.2.2.2 hpt (w := 1 * q.1 * q.2.2) (ov_w hpt c0 (by decide)) hwb (V := q.2.2 * q.2.2 * q.1 * q.1) (by grind)
        rw [e1, Option.bind_some]
        simp only
        obtain ⟨rb, db⟩ := ovRD_bd hab hM hE hpt hwb
        obtain ⟨-, -, d1⟩ := ov_lw (n := q.2.1) (w := 1 * q.1 * q.2.2) (ov_w hpt c0 (by decide))
        have hm2 := MC_fr e2 ok23 hm1
        by_cases cin : ovD q.2.1 (1 * q.1 * q.2.2) ≤ E ∧ ovR q.2.1 (1 * q.1 * q.2.2) * ovR q.2.1 (1 * q.1 * q.2.2) ≤ M
        · rw [if_pos cin, if_pos (by rw [ne_eq, jZ_lit, jZ_eq ⟨by omega, by omega⟩ (bd_lit _ rfl)]; omega), hm2.2.2.1, i2j (bd_mono hab.2 (by decide)), e3]
          simp only [jZ_mul, jZ_sub]
          obtain ⟨b1, b2, -⟩ := ov_bd hab hM hE hpt hab.2 (s := 1) (bd_lit _ rfl) (d := (ovD q.2.1 (1 * q.1 * q.2.2) : Int)) ⟨by omega, by omega⟩
          have eden : q.2.2 * q.2.2 * q.2.2 * q.1 * q.1 = 1 * 1 * 1 * q.2.2 * q.2.2 * q.2.2 * q.1 * q.1 := by grind
          have hden0 : 1 * 1 * 1 * q.2.2 * q.2.2 * q.2.2 * q.1 * q.1 ≠ 0 := by
            have h2 : q.2.2 ≠ 0 := by have := hpt.2.1; omega
            rw [← eden]
            exact Int.mul_ne_zero (Int.mul_ne_zero (Int.mul_ne_zero (Int.mul_ne_zero h2 h2) h2) c0) c0
          rw [eden, if_pos (by rw [jZ_lit, jZ_eq b2 (bd_lit _ rfl)]; exact hden0), jZ_div b1 b2]
          have hML2 : ML 51 80 (hL (-2 * a) (a * a - 4 * b) M E) τ2 := ⟨by rw [(e2 66 51 rfl).1]; exact t2.1, t2.2.1, fun j r hj => by
            obtain ⟨z1, z2, z3⟩ := t2.2.2 j r hj
            exact ⟨by rw [(e2 80 j rfl).1]; exact z1, by rw [(e2 81 j rfl).2.1]; exact z2, by rw [(e2 82 j rfl).1]; exact z3⟩⟩
          rw [mfindO_ok hN hML2 (fun t ht => isPt_kb hab' hM hE (by obtain ⟨j, hj⟩ := List.getElem?_of_mem ht; exact hL_pt hj)) (bd_mono (bd_mul rb rb) (by decide)) (bd_tdiv _ b1) ⟨by omega, by omega⟩, Option.bind_some]
          refine ⟨_, σ', τ2, rfl, ?_, fin, fr_trans (fr51_O t3) (fr23_O e2)⟩
          unfold ovI
          rw [if_pos cin.1]
          rfl
        · rw [if_neg cin, if_neg (fun h => h rfl), ovI_far cin, min_6]
          exact ⟨_, σ', τ2, rfl, rfl, fin, fr_trans (fr51_O t3) (fr23_O e2)⟩
  · rw [if_neg c, if_neg c]
    exact ⟨_, σ, τ, rfl, rfl, ⟨fr_refl _ _, hb, hz⟩, fr_refl _ _⟩
end OVER
