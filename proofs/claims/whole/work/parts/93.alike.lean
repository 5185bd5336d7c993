/-! alike BY A PRIME: firstAlike, seenBy -/
section BYC
variable {a b : Int} {M E : Nat}
/-- the cross products tell the same -/
theorem crs {p : Nat} (hp : p ∈ opr) {e f m1 m2 n1 n2 : Int} (he : ¬ (p : Int) ∣ e) (hf : ¬ (p : Int) ∣ f) : ((m1 * ivP p (e % p) * ivP p (e % p)) % p = (m2 * ivP p (f % p) * ivP p (f % p)) % p ∧ (n1 * ivP p (e % p) * ivP p (e % p) * ivP p (e % p)) % p = (n2 * ivP p (f % p) * ivP p (f % p) * ivP p (f % p)) % p) ↔ ((m1 * f * f - m2 * e * e) % (p : Int) = 0 ∧ (n1 * f * f * f - n2 * e * e * e) % (p : Int) = 0) := by
  have i1 := (iv_ok hp he).1
  have i2 := (iv_ok hp hf).1
  obtain ⟨u, hu⟩ : ∃ u, u = ivP p (e % p) := ⟨_, rfl⟩
  obtain ⟨v, hv⟩ : ∃ v, v = ivP p (f % p) := ⟨_, rfl⟩
  rw [← hu] at i1 ⊢
  rw [← hv] at i2 ⊢
  constructor
  · intro ⟨h1, h2⟩
    have k1 : (p : Int) ∣ m1 * u * u - m2 * v * v := Int.dvd_of_emod_eq_zero (Int.emod_eq_emod_iff_emod_sub_eq_zero.mp h1)
    have k2 : (p : Int) ∣ n1 * u * u * u - n2 * v * v * v := Int.dvd_of_emod_eq_zero (Int.emod_eq_emod_iff_emod_sub_eq_zero.mp h2)
    refine ⟨Int.emod_eq_zero_of_dvd ?_, Int.emod_eq_zero_of_dvd ?_⟩
    · exact d_eq (y := (e * e * f * f) * (m1 * u * u - m2 * v * v) - (m1 * f * f * (e * u + 1)) * (e * u - 1) + (m2 * e * e * (f * v + 1)) * (f * v - 1)) (by grind) (Int.dvd_add (Int.dvd_sub (d_mul k1) (d_mul i1)) (d_mul i2))
    · exact d_eq (y := (e * e * e * f * f * f) * (n1 * u * u * u - n2 * v * v * v) - (n1 * f * f * f * (e * u * e * u + e * u + 1)) * (e * u - 1) + (n2 * e * e * e * (f * v * f * v + f * v + 1)) * (f * v - 1)) (by grind) (Int.dvd_add (Int.dvd_sub (d_mul k2) (d_mul i1)) (d_mul i2))
  · intro ⟨h1, h2⟩
    have k1 : (p : Int) ∣ m1 * f * f - m2 * e * e := Int.dvd_of_emod_eq_zero h1
    have k2 : (p : Int) ∣ n1 * f * f * f - n2 * e * e * e := Int.dvd_of_emod_eq_zero h2
    refine ⟨em_of ?_, em_of ?_⟩
    · exact d_eq (y := (u * u * v * v) * (m1 * f * f - m2 * e * e) - (m1 * u * u * (f * v + 1)) * (f * v - 1) + (m2 * v * v * (e * u + 1)) * (e * u - 1)) (by grind) (Int.dvd_add (Int.dvd_sub (d_mul k1) (d_mul i2)) (d_mul i1))
    · exact d_eq (y := (u * u * u * v * v * v) * (n1 * f * f * f - n2 * e * e * e) - (n1 * u * u * u * (f * v * f * v + f * v + 1)) * (f * v - 1) + (n2 * v * v * v * (e * u * e * u + e * u + 1)) * (e * u - 1)) (by grind) (Int.dvd_add (Int.dvd_sub (d_mul k2) (d_mul i2)) (d_mul i1))
theorem dec_b {c : Prop} [Decidable c] {d : Bool} (h : d = true ↔ c) : d = decide c := by
  cases d
  · exact (decide_eq_false (fun z => by have := h.mpr z; cases this)).symm
  · exact (decide_eq_true (h.mp rfl)).symm
/-- how the class sees a POINT -/
theorem seeC (hc : CVc a b M E) {σ : aSt} (hx : XC a b M E σ) {x : Int} (h : 0 ≤ x ∧ x < ((hL a b M E).length : Int)) : isPt a b M E (gp a b M E x) ∧ f_PointList_m_11 (iZ x) σ = iZ (gp a b M E x).1 ∧ f_PointList_n_11 (iZ x) σ = iZ (gp a b M E x).2.1 ∧ f_PointList_e_11 (iZ x) σ = iZ (gp a b M E x).2.2 := by
  obtain ⟨i, hi⟩ : ∃ i : Nat, x = i := ⟨x.toNat, by omega⟩
  subst hi
  have hg := gp_get (a := a) (b := b) (M := M) (E := E) h.1 h.2
  rw [Int.toNat_natCast] at hg
  have hgX := (hL_get hg).1
  exact ⟨hL_pt hg, m11 hx.1 hgX, n11 hx.1 hgX, e11 hx.1 hgX⟩
theorem alX29 {N : Nat} (hc : CVc a b M E) {p : Nat} (hp : p ∈ opr) {σ : aSt} (hx : XC a b M E σ) {x y : Int} (hx1 : pnt a b M E x) (hy1 : pnt a b M E y) : f_X_isAlikeBy_b29 N (iZ x) (iZ y) (iZ p) (if rdX a b M E p x = none then 1 else 0) (if rdX a b M E p y = none then 1 else 0) σ = some (decide (rdX a b M E p x = rdX a b M E p y)) := by
  have hb := opr_bd p hp
  obtain ⟨hab, hb0, hM1, hM, hE1, hE⟩ := CVc_CV hc
  unfold f_X_isAlikeBy_b29
  by_cases c1 : rdX a b M E p x = none
  · rw [if_pos c1, if_pos (c := (1 : Int32) ≠ 0) (by decide), if_neg (c := (1 : Int32) = 0) (by decide), c1]
    by_cases c2 : rdX a b M E p y = none
    · rw [if_pos c2, if_neg (c := (1 : Int32) = 0) (by decide), c2, decide_eq_true rfl]
    · rw [if_neg c2, if_pos (c := (0 : Int32) = 0) rfl, decide_eq_false (fun z => c2 z.symm)]
  · rw [if_neg c1, if_neg (c := (0 : Int32) ≠ 0) (fun z => z rfl)]
    by_cases c2 : rdX a b M E p y = none
    · rw [if_pos c2, if_neg (c := (1 : Int32) = 0) (by decide), if_pos (c := (0 : Int32) = 0) rfl, c2, decide_eq_false c1]
    · rw [if_neg c2, if_pos (c := (0 : Int32) = 0) rfl]
      have nx : 0 ≤ x ∧ x < ((hL a b M E).length : Int) := by
        rcases hx1 with z | z
        · exact absurd (by unfold rdX; rw [if_pos z]) c1
        · exact z
      have ny : 0 ≤ y ∧ y < ((hL a b M E).length : Int) := by
        rcases hy1 with z | z
        · exact absurd (by unfold rdX; rw [if_pos z]) c2
        · exact z
      have hl := hL_le (a := a) (b := b) (M := M) (E := E)
      obtain ⟨k1, k2, k3, k4⟩ := seeC hc hx nx
      obtain ⟨l1, l2, l3, l4⟩ := seeC hc hx ny
      have ex : rdX a b M E p x = rdP p (gp a b M E x) := if_neg (by omega)
      have ey : rdX a b M E p y = rdP p (gp a b M E y) := if_neg (by omega)
      rw [ex] at c1 ⊢
      rw [ey] at c2 ⊢
      rw [k2, k3, k4, l2, l3, l4]
      obtain ⟨q, hq⟩ : ∃ q, q = gp a b M E x := ⟨_, rfl⟩
      obtain ⟨r, hr⟩ : ∃ r, r = gp a b M E y := ⟨_, rfl⟩
      rw [← hq] at k1 c1 ⊢
      rw [← hr] at l1 c2 ⊢
      have bm1 := isPt_m hM k1; have be1 := isPt_e hE k1; have bn1 := pt_n hc k1
      have bm2 := isPt_m hM l1; have be2 := isPt_e hE l1; have bn2 := pt_n hc l1
      have := bm1.1; have := bm1.2; have := be1.1; have := be1.2; have := bn1.1; have := bn1.2
      have := bm2.1; have := bm2.2; have := be2.1; have := be2.2; have := bn2.1; have := bn2.2
      have d1 : ¬ q.2.2 % (p : Int) = 0 := fun z => c1 (by unfold rdP; rw [if_pos z])
      have d2 : ¬ r.2.2 % (p : Int) = 0 := fun z => c2 (by unfold rdP; rw [if_pos z])
      have vb1 : bd 9223372036854775807 (q.1 * r.2.2 * r.2.2 - r.1 * q.2.2 * q.2.2) := bd_mono (bd_sub (bd_mul (bd_mul bm1 be2) be2) (bd_mul (bd_mul bm2 be1) be1)) (by decide)
      have vb2 : bd 9223372036854775807 (q.2.1 * r.2.2 * r.2.2 * r.2.2 - r.2.1 * q.2.2 * q.2.2 * q.2.2) := bd_mono (bd_sub (bd_mul (bd_mul (bd_mul bn1 be2) be2) be2) (bd_mul (bd_mul (bd_mul bn2 be1) be1) be1)) (by decide)
      rw [i2j (z := q.1) ⟨by omega, by omega⟩, i2j (z := r.1) ⟨by omega, by omega⟩, i2j (z := q.2.1) ⟨by omega, by omega⟩, i2j (z := r.2.1) ⟨by omega, by omega⟩, i2j (z := q.2.2) ⟨by omega, by omega⟩, i2j (z := r.2.2) ⟨by omega, by omega⟩]
      simp only [jZ_mul, jZ_sub]
      rw [residue_ok vb1 (by omega) (by omega), residue_ok vb2 (by omega) (by omega), Option.bind_some, Option.bind_some]
      have e1 := em_bd (q.1 * r.2.2 * r.2.2 - r.1 * q.2.2 * q.2.2) (p := p) (by omega)
      have e2 := em_bd (q.2.1 * r.2.2 * r.2.2 * r.2.2 - r.2.1 * q.2.2 * q.2.2 * q.2.2) (p := p) (by omega)
      have z1 : (iZ ((q.1 * r.2.2 * r.2.2 - r.1 * q.2.2 * q.2.2) % p) ≠ 0) = ¬ ((q.1 * r.2.2 * r.2.2 - r.1 * q.2.2 * q.2.2) % (p : Int) = 0) := by rw [ne_eq, show (0 : Int32) = iZ 0 from rfl, iZ_eq ⟨by omega, by omega⟩ (bd_lit _ rfl)]
      have z2 : (iZ ((q.2.1 * r.2.2 * r.2.2 * r.2.2 - r.2.1 * q.2.2 * q.2.2 * q.2.2) % p) ≠ 0) = ¬ ((q.2.1 * r.2.2 * r.2.2 * r.2.2 - r.2.1 * q.2.2 * q.2.2 * q.2.2) % (p : Int) = 0) := by rw [ne_eq, show (0 : Int32) = iZ 0 from rfl, iZ_eq ⟨by omega, by omega⟩ (bd_lit _ rfl)]
      simp only [z1, z2]
      have key := crs (m1 := q.1) (m2 := r.1) (n1 := q.2.1) (n2 := r.2.1) hp (e := q.2.2) (f := r.2.2) (fun z => d1 (Int.emod_eq_zero_of_dvd z)) (fun z => d2 (Int.emod_eq_zero_of_dvd z))
      have eqi : (rdP p q = rdP p r) ↔ ((q.1 * r.2.2 * r.2.2 - r.1 * q.2.2 * q.2.2) % (p : Int) = 0 ∧ (q.2.1 * r.2.2 * r.2.2 * r.2.2 - r.2.1 * q.2.2 * q.2.2 * q.2.2) % (p : Int) = 0) := by
        rw [← key]
        unfold rdP
        rw [if_neg d1, if_neg d2]
        constructor
        · intro z
          have z' := Option.some.inj z
          exact ⟨congrArg Prod.fst z', congrArg Prod.snd z'⟩
        · intro ⟨z3, z4⟩
          rw [z3, z4]
      by_cases w1 : (q.1 * r.2.2 * r.2.2 - r.1 * q.2.2 * q.2.2) % (p : Int) = 0
      · rw [if_neg (fun z => z w1)]
        by_cases w2 : (q.2.1 * r.2.2 * r.2.2 * r.2.2 - r.2.1 * q.2.2 * q.2.2 * q.2.2) % (p : Int) = 0
        · rw [if_neg (fun z => z w2), decide_eq_true (eqi.mpr ⟨w1, w2⟩)]
        · rw [if_pos w2, decide_eq_false (fun z => w2 (eqi.mp z).2)]
      · rw [if_pos w1, decide_eq_false (fun z => w1 (eqi.mp z).1)]
theorem rd_none {p : Nat} {x : Int} (h : 0 ≤ x ∧ x < ((hL a b M E).length : Int)) : (rdX a b M E p x = none) = ((gp a b M E x).2.2 % (p : Int) = 0) := by
  have hl := hL_le (a := a) (b := b) (M := M) (E := E)
  unfold rdX rdP
  rw [if_neg (by omega)]
  by_cases c : (gp a b M E x).2.2 % (p : Int) = 0
  · rw [if_pos c]; exact propext ⟨fun _ => c, fun _ => rfl⟩
  · rw [if_neg c]; exact propext ⟨fun z => (by cases z), fun z => absurd z c⟩
theorem resE {N : Nat} (hc : CVc a b M E) {p : Nat} (hp : p ∈ opr) {σ : aSt} (hx : XC a b M E σ) {x : Int} (h : 0 ≤ x ∧ x < ((hL a b M E).length : Int)) : ∃ r, f_Whole_residue N (f_PointList_e_11 (iZ x) σ).toInt64 (iZ p) = some r ∧ (r ≠ 0) = ¬ (rdX a b M E p x = none) := by
  have hb := opr_bd p hp
  obtain ⟨hab, hb0, hM1, hM, hE1, hE⟩ := CVc_CV hc
  obtain ⟨k1, k2, k3, k4⟩ := seeC hc hx h
  have be := isPt_e hE k1
  have := be.1; have := be.2
  have e := em_bd (gp a b M E x).2.2 (p := p) (by omega)
  rw [k4, i2j ⟨by omega, by omega⟩, residue_ok ⟨by omega, by omega⟩ (by omega) (by omega)]
  refine ⟨_, rfl, ?_⟩
  rw [ne_eq, show (0 : Int32) = iZ 0 from rfl, iZ_eq ⟨by omega, by omega⟩ (bd_lit _ rfl), rd_none h]
theorem alikeX {N : Nat} (hc : CVc a b M E) {p : Nat} (hp : p ∈ opr) {σ : aSt} (hx : XC a b M E σ) {x y : Int} (hx1 : pnt a b M E x) (hy1 : pnt a b M E y) : f_X_isAlikeBy N (iZ x) (iZ y) (iZ p) σ = some (decide (rdX a b M E p x = rdX a b M E p y)) := by
  have hl := hL_le (a := a) (b := b) (M := M) (E := E)
  have key := alX29 (N := N) hc hp hx hx1 hy1
  have h14 : f_X_isAlikeBy_b14 N (iZ x) (iZ y) (iZ p) (if rdX a b M E p x = none then 1 else 0) σ = some (decide (rdX a b M E p x = rdX a b M E p y)) := by
    unfold f_X_isAlikeBy_b14 f_X_isAlikeBy_b26
    rcases hy1 with z | z
    · have ny : rdX a b M E p y = none := by unfold rdX; rw [if_pos z]
      rw [if_pos ny] at key
      rw [z] at key ⊢
      rw [if_pos (c := iZ 1000 = (1000 : Int32)) rfl]
      exact key
    · rw [if_neg (by rw [show (1000 : Int32) = iZ 1000 from rfl, iZ_eq ⟨by omega, by omega⟩ (bd_lit _ rfl)]; omega)]
      obtain ⟨r, r1, r2⟩ := resE (N := N) hc hp hx z
      rw [r1, Option.bind_some]
      simp only [r2]
      by_cases d : rdX a b M E p y = none
      · rw [if_pos d] at key
        rw [if_neg (fun q => q d)]; exact key
      · rw [if_neg d] at key
        rw [if_pos d]; exact key
  unfold f_X_isAlikeBy f_X_isAlikeBy_b11
  rcases hx1 with z | z
  · have nx : rdX a b M E p x = none := by unfold rdX; rw [if_pos z]
    rw [if_pos nx] at h14
    rw [z] at h14 ⊢
    rw [if_pos (c := iZ 1000 = (1000 : Int32)) rfl]
    exact h14
  · rw [if_neg (by rw [show (1000 : Int32) = iZ 1000 from rfl, iZ_eq ⟨by omega, by omega⟩ (bd_lit _ rfl)]; omega)]
    obtain ⟨r, r1, r2⟩ := resE (N := N) hc hp hx z
    rw [r1, Option.bind_some]
    simp only [r2]
    by_cases d : rdX a b M E p x = none
    · rw [if_pos d] at h14
      rw [if_neg (fun q => q d)]; exact h14
    · rw [if_neg d] at h14
      rw [if_pos d]; exact h14
theorem alikeM {N : Nat} (hc : CVc a b M E) (hN : 10000 ≤ N) {p : Nat} (hp : p ∈ opr) {τ : aSt} (hm : MC a b M E τ) {x y : Int} (hx1 : pnt a b M E x) (hy1 : pnt a b M E y) : ∃ τ', f_M_areAlikeBy N (iZ x) (iZ y) (iZ p) τ = some (decide (rdX a b M E p x = rdX a b M E p y), τ') ∧ fr frBP τ τ' := by
  have hb := opr_bd p hp
  obtain ⟨τ1, s1, s2, s3⟩ := starts_ok hc hN hp hm hx1
  have m1 := MC_B (frSt_B s3) hm
  obtain ⟨τ2, t1, t2, t3⟩ := starts_ok hc hN hp m1 hy1
  have f := fr_trans (frSt_B s3) (frSt_B t3)
  have ox := rdX_on (a := a) (b := b) (M := M) (E := E) hp hx1
  have oy := rdX_on (a := a) (b := b) (M := M) (E := E) hp hy1
  unfold f_M_areAlikeBy
  rw [s1, Option.bind_some, t1, Option.bind_some]
  cases hrx : rdX a b M E p x with
  | none =>
    rw [hrx] at s2
    have e1 : τ1.2.2 66 34 = true := s2
    rw [e1, if_pos (c := true = true) rfl, if_pos (c := true = true) rfl]
    cases hry : rdX a b M E p y with
    | none =>
      rw [hry] at t2
      have e2 : τ2.2.2 66 34 = true := t2
      rw [e2, if_pos (c := true = true) rfl, decide_eq_true rfl]
      exact ⟨τ2, rfl, f⟩
    | some Q =>
      rw [hry] at t2
      rw [t2.1, if_neg ff_tt, decide_eq_false (fun z => by cases z)]
      exact ⟨τ2, rfl, f⟩
  | some P =>
    rw [hrx] at s2 ox
    rw [s2.1, if_neg ff_tt]
    cases hry : rdX a b M E p y with
    | none =>
      rw [hry] at t2
      have e2 : τ2.2.2 66 34 = true := t2
      rw [e2, if_pos (c := true = true) rfl, if_neg ff_tt, decide_eq_false (fun z => by cases z)]
      exact ⟨τ2, rfl, f⟩
    | some Q =>
      rw [hry] at t2 oy
      obtain ⟨x1, y1⟩ := P
      obtain ⟨x2, y2⟩ := Q
      have q1 := ox.1; have q2 := ox.2.1; have q3 := oy.1; have q4 := oy.2.1
      have f1 := s2.2.1; have f2 := s2.2.2; have f3 := t2.2.1; have f4 := t2.2.2
      simp only at q1 q2 q3 q4 f1 f2 f3 f4
      rw [t2.1, if_neg ff_tt, f1, f2, f3, f4]
      have cx : (iZ x1 ≠ iZ x2) = ¬ (x1 = x2) := by rw [ne_eq, iZ_eq ⟨by omega, by omega⟩ ⟨by omega, by omega⟩]
      have cy : (iZ y1 ≠ iZ y2) = ¬ (y1 = y2) := by rw [ne_eq, iZ_eq ⟨by omega, by omega⟩ ⟨by omega, by omega⟩]
      simp only [cx, cy]
      by_cases dx : x1 = x2
      · rw [if_neg (fun q => q dx)]
        by_cases dy : y1 = y2
        · rw [if_neg (fun q => q dy), decide_eq_true (by rw [dx, dy])]
          exact ⟨τ2, rfl, f⟩
        · rw [if_pos dy, decide_eq_false (fun z => dy (congrArg Prod.snd (Option.some.inj z)))]
          exact ⟨τ2, rfl, f⟩
      · rw [if_pos dx, decide_eq_false (fun z => dx (congrArg Prod.fst (Option.some.inj z)))]
        exact ⟨τ2, rfl, f⟩
end BYC
