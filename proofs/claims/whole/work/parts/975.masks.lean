/-! CLASSES: masks, products, what is MADE -/
def srN : List Nat → Prop
  | [] => True
  | x :: L => (∀ y ∈ L, x < y) ∧ srN L
theorem srN_chk : ∀ (L : List Nat) (k : Nat), chk k L = true → srN L := by
  intro L
  induction L with
  | nil => intro _ _; trivial
  | cons q L ih =>
    intro k h
    have h' : (Nat.ble k q && chk (q + 1) L) = true := h
    rw [Bool.and_eq_true] at h'
    exact ⟨fun y hy => by have := chk_ge _ _ h'.2 y hy; omega, ih _ h'.2⟩
theorem srN_map : ∀ L : List (Nat × Nat), srtP L → srN (L.map Prod.fst) := by
  intro L
  induction L with
  | nil => intro _; trivial
  | cons x L ih =>
    intro h
    refine ⟨fun y hy => ?_, ih h.2⟩
    obtain ⟨z, z1, z2⟩ := List.mem_map.mp hy
    subst z2
    exact h.1 z z1
theorem srN_uniq : ∀ L K : List Nat, srN L → srN K → (∀ x, x ∈ L ↔ x ∈ K) → L = K := by
  intro L
  induction L with
  | nil =>
    intro K _ _ h
    cases K with
    | nil => rfl
    | cons y K => exact absurd ((h y).mpr (List.mem_cons.mpr (Or.inl rfl))) (by intro z; cases z)
  | cons x L ih =>
    intro K hL hK h
    cases K with
    | nil => exact absurd ((h x).mp (List.mem_cons.mpr (Or.inl rfl))) (by intro z; cases z)
    | cons y K =>
      have e : x = y := by
        rcases List.mem_cons.mp ((h x).mp (List.mem_cons.mpr (Or.inl rfl))) with q | q
        · exact q
        · rcases List.mem_cons.mp ((h y).mpr (List.mem_cons.mpr (Or.inl rfl))) with q2 | q2
          · exact q2.symm
          · have a1 := hK.1 x q
            have a2 := hL.1 y q2
            omega
      subst e
      rw [ih K hL.2 hK.2 (fun z => by
        constructor
        · intro hz
          rcases List.mem_cons.mp ((h z).mp (List.mem_cons.mpr (Or.inr hz))) with q | q
          · have := hL.1 z hz; omega
          · exact q
        · intro hz
          rcases List.mem_cons.mp ((h z).mpr (List.mem_cons.mpr (Or.inr hz))) with q | q
          · have := hK.1 z hz; omega
          · exact q)]
theorem GL_cd {ps : List Nat} {u : Nat} {L : List (Nat × Nat)} (h : GL ps u L) (hu : 1 ≤ u) (hu2 : u ≤ 4400) : L.map Prod.fst = cdN u := by
  refine srN_uniq _ _ (srN_map L h.1) (srN_chk _ 1 (cdF_chk u u 1)) (fun x => ?_)
  have m : x ∈ cdN u ↔ (sqf x ∧ x ∣ u) := by
    unfold cdN
    rw [cdF_mem]
    constructor
    · intro ⟨a1, a2, a3, a4⟩
      exact ⟨(freeB_iff (by omega) (by omega)).mp a4, Nat.dvd_of_mod_eq_zero a3⟩
    · intro ⟨a1, a2⟩
      have := Nat.le_of_dvd (by omega) a2
      have x0 : 0 < x := Nat.pos_of_dvd_of_pos a2 (by omega)
      exact ⟨by omega, by omega, Nat.mod_eq_zero_of_dvd a2, (freeB_iff (by omega) (by omega)).mpr a1⟩
  rw [m, ← h.2.2.1 x, List.mem_map]
  constructor
  · intro ⟨y, y1, y2⟩
    exact ⟨y.2, by rw [← y2]; exact y1⟩
  · intro ⟨k, hk⟩
    exact ⟨(x, k), hk, rfl⟩
/-- masks tell the divisors apart -/
def MkJ (L : List (Nat × Nat)) : Prop := ∀ x y m, (x, m) ∈ L → (y, m) ∈ L → x = y
theorem MkJ_new {ps : List Nat} {u : Nat} {L : List (Nat × Nat)} (h : GL ps u L) (hj : MkJ L) {f : Nat} : MkJ (isrP L (L.map (upP f (2 ^ ps.length)))) := by
  have lt : ∀ x m, (x, m) ∈ L → m < 2 ^ ps.length := fun x m hm => by rw [h.2.2.2 x m hm]; exact mkM_lt _ _
  intro x y m hx hy
  rcases (isrP_mem _ _ _).mp hx with e | e
  · rcases (isrP_mem _ _ _).mp hy with e' | e'
    · exact hj x y m e e'
    · obtain ⟨z, z1, z2⟩ := List.mem_map.mp e'
      have e2 : z.2 + 2 ^ ps.length = m := congrArg Prod.snd z2
      have := lt x m e
      omega
  · obtain ⟨z, z1, z2⟩ := List.mem_map.mp e
    have e1 : z.1 * f = x := congrArg Prod.fst z2
    have e2 : z.2 + 2 ^ ps.length = m := congrArg Prod.snd z2
    rcases (isrP_mem _ _ _).mp hy with e' | e'
    · have := lt y m e'
      omega
    · obtain ⟨w, w1, w2⟩ := List.mem_map.mp e'
      have e3 : w.1 * f = y := congrArg Prod.fst w2
      have e4 : w.2 + 2 ^ ps.length = m := congrArg Prod.snd w2
      have e5 : w.2 = z.2 := by omega
      have w1' : (w.1, z.2) ∈ L := by rw [← e5]; exact w1
      rw [← e1, ← e3, hj z.1 w.1 z.2 z1 w1']
theorem gD_mem {L : List (Nat × Nat)} {n : Nat} (h : n < L.length) : L.getD n (0, 0) ∈ L := by
  rw [List.getD_eq_getElem?_getD, List.getElem?_eq_getElem h]; exact List.getElem_mem h
theorem gD_of {L : List (Nat × Nat)} {x : Nat × Nat} (h : x ∈ L) : ∃ n, n < L.length ∧ L.getD n (0, 0) = x := by
  obtain ⟨i, hi, e⟩ := List.getElem_of_mem h
  exact ⟨i, hi, by rw [List.getD_eq_getElem?_getD, List.getElem?_eq_getElem hi, ← e]; rfl⟩
theorem gD_map {L : List (Nat × Nat)} {n : Nat} (h : n < L.length) : (L.map Prod.fst).getD n 0 = (L.getD n (0, 0)).1 := by
  rw [List.getD_eq_getElem?_getD, List.getElem?_map, List.getD_eq_getElem?_getD, List.getElem?_eq_getElem h]; rfl
def CT (u : Nat) (L : List (Nat × Nat)) : Prop := ∃ ps, GL ps u L ∧ MkJ L ∧ ps.length ≤ 5 ∧ ∀ p ∈ ps, prN p
def mskK (L : List (Nat × Nat)) (k : Nat) : Nat := (L.getD (k / 2) (0, 0)).2 + (if k % 2 = 0 then 0 else 32)
theorem xor32 : ∀ a, a < 32 → ∀ b, b < 32 → (a ^^^ b) < 32 ∧ (a + 32) ^^^ b = (a ^^^ b) + 32 ∧ a ^^^ (b + 32) = (a ^^^ b) + 32 ∧ (a + 32) ^^^ (b + 32) = a ^^^ b := by decide +kernel
theorem xor16 : ∀ a, a < 16 → ∀ b, b < 16 → (0 + 2 * a) ^^^ (0 + 2 * b) = 0 + 2 * (a ^^^ b) ∧ (1 + 2 * a) ^^^ (0 + 2 * b) = 1 + 2 * (a ^^^ b) ∧ (0 + 2 * a) ^^^ (1 + 2 * b) = 1 + 2 * (a ^^^ b) ∧ (1 + 2 * a) ^^^ (1 + 2 * b) = 0 + 2 * (a ^^^ b) := by decide +kernel
theorem mkM_xor : ∀ (ps : List Nat) (x y z : Nat), ps.length ≤ 5 → (∀ p ∈ ps, (z % p = 0 ↔ ¬ (x % p = 0 ↔ y % p = 0))) → mkM ps z = mkM ps x ^^^ mkM ps y := by
  intro ps
  induction ps with
  | nil => intro x y z _ _; exact (Nat.xor_self 0).symm
  | cons p ps ih =>
    intro x y z hl h
    have hl' : ps.length + 1 ≤ 5 := hl
    have e := ih x y z (by omega) (fun q hq => h q (List.mem_cons.mpr (Or.inr hq)))
    have hp := h p (List.mem_cons.mpr (Or.inl rfl))
    have two : 2 ^ ps.length ≤ 16 := by
      have : ps.length ≤ 4 := by omega
      exact Nat.pow_le_pow_right (n := 2) (by omega) this
    have l1 := mkM_lt ps x
    have l2 := mkM_lt ps y
    obtain ⟨q1, q2, q3, q4⟩ := xor16 (mkM ps x) (by omega) (mkM ps y) (by omega)
    show (if z % p = 0 then 1 else 0) + 2 * mkM ps z = ((if x % p = 0 then 1 else 0) + 2 * mkM ps x) ^^^ ((if y % p = 0 then 1 else 0) + 2 * mkM ps y)
    rw [e]
    by_cases cx : x % p = 0
    · by_cases cy : y % p = 0
      · rw [if_pos cx, if_pos cy, if_neg (fun w => hp.mp w ⟨fun _ => cy, fun _ => cx⟩), q4]
      · rw [if_pos cx, if_neg cy, if_pos (hp.mpr (fun w => cy (w.mp cx))), q2]
    · by_cases cy : y % p = 0
      · rw [if_neg cx, if_pos cy, if_pos (hp.mpr (fun w => cx (w.mpr cy))), q3]
      · rw [if_neg cx, if_neg cy, if_neg (fun w => hp.mp w ⟨fun q => absurd q cx, fun q => absurd q cy⟩), q1]
/-- products of divisors without squares -/
theorem sqf_cop {g x : Nat} (h : sqf (g * x)) : Nat.Coprime g x := by
  have d1 : Nat.gcd g x ∣ g := Nat.gcd_dvd_left _ _
  have d2 : Nat.gcd g x ∣ x := Nat.gcd_dvd_right _ _
  have d3 : Nat.gcd g x * Nat.gcd g x ∣ g * x := Nat.mul_dvd_mul d1 d2
  apply Classical.byContradiction
  intro n
  have n' : Nat.gcd g x ≠ 1 := n
  by_cases z : Nat.gcd g x = 0
  · have g0 : g = 0 := Nat.eq_zero_of_gcd_eq_zero_left z
    subst g0
    rw [Nat.zero_mul] at h
    exact h 2 (by omega) ⟨0, rfl⟩
  · exact h _ (by omega) d3
theorem sqf_prod {x y : Nat} (hx : sqf x) (hy : sqf y) (hc : Nat.Coprime x y) : sqf (x * y) := by
  intro k hk hd
  by_cases c : Nat.gcd k x = 1
  · have c2 : Nat.Coprime (k * k) x := Nat.Coprime.mul_left c c
    exact hy k hk (Nat.Coprime.dvd_of_dvd_mul_left c2 hd)
  · have c0 : Nat.gcd k x ≠ 0 := fun z => by have := Nat.eq_zero_of_gcd_eq_zero_left z; omega
    have d1 : Nat.gcd k x ∣ k := Nat.gcd_dvd_left _ _
    have d2 : Nat.gcd k x ∣ x := Nat.gcd_dvd_right _ _
    have c1 : Nat.Coprime (Nat.gcd k x) y := Nat.Coprime.coprime_dvd_left d2 hc
    have c2 : Nat.Coprime (Nat.gcd k x * Nat.gcd k x) y := Nat.Coprime.mul_left c1 c1
    exact hx _ (by omega) (Nat.Coprime.dvd_of_dvd_mul_right c2 (Nat.dvd_trans (Nat.mul_dvd_mul d1 d1) hd))
theorem prd_nat {x y u : Nat} (hx : sqf x) (hy : sqf y) (dx : x ∣ u) (dy : y ∣ u) (x0 : 0 < x) : sqf (x / Nat.gcd x y * (y / Nat.gcd x y)) ∧ x / Nat.gcd x y * (y / Nat.gcd x y) ∣ u ∧ ∀ p, prN p → ((x / Nat.gcd x y * (y / Nat.gcd x y)) % p = 0 ↔ ¬ (x % p = 0 ↔ y % p = 0)) := by
  have g0 : 0 < Nat.gcd x y := Nat.gcd_pos_of_pos_left _ x0
  have hc := Nat.coprime_div_gcd_div_gcd g0
  have e1 : Nat.gcd x y * (x / Nat.gcd x y) = x := Nat.mul_div_cancel' (Nat.gcd_dvd_left _ _)
  have e2 : Nat.gcd x y * (y / Nat.gcd x y) = y := Nat.mul_div_cancel' (Nat.gcd_dvd_right _ _)
  generalize Nat.gcd x y = g at hc e1 e2 g0 ⊢
  generalize x / g = x' at hc e1 ⊢
  generalize y / g = y' at hc e2 ⊢
  subst e1; subst e2
  have k1 := sqf_cop hx
  have k2 := sqf_cop hy
  have dx' : x' ∣ g * x' := ⟨g, Nat.mul_comm _ _⟩
  have dy' : y' ∣ g * y' := ⟨g, Nat.mul_comm _ _⟩
  refine ⟨sqf_prod (sqf_dvd hx dx') (sqf_dvd hy dy') hc, Nat.Coprime.mul_dvd_of_dvd_of_dvd hc (Nat.dvd_trans dx' dx) (Nat.dvd_trans dy' dy), fun p hp => ?_⟩
  have one : ∀ {a b : Nat}, Nat.Coprime a b → p ∣ a → p ∣ b → False := fun {a b} h ha hb => by
    have d : p ∣ Nat.gcd a b := Nat.dvd_gcd ha hb
    have h' : Nat.gcd a b = 1 := h
    rw [h'] at d
    have := Nat.le_of_dvd Nat.one_pos d
    have := hp.1
    omega
  have m : ∀ a b : Nat, (a * b) % p = 0 ↔ (p ∣ a ∨ p ∣ b) := fun a b => by
    constructor
    · intro z; exact prN_mul hp (Nat.dvd_of_mod_eq_zero z)
    · intro z
      rcases z with z | z
      · exact Nat.mod_eq_zero_of_dvd (Nat.dvd_trans z ⟨b, rfl⟩)
      · exact Nat.mod_eq_zero_of_dvd (Nat.dvd_trans z ⟨a, Nat.mul_comm _ _⟩)
  rw [m, m, m]
  have o1 := one (a := g) (b := x') k1
  have o2 := one (a := g) (b := y') k2
  have o3 := one (a := x') (b := y') hc
  by_cases b1 : p ∣ g
  · have n1 : ¬ p ∣ x' := fun z => o1 b1 z
    have n2 : ¬ p ∣ y' := fun z => o2 b1 z
    simp [b1, n1, n2]
  · by_cases b2 : p ∣ x'
    · have n2 : ¬ p ∣ y' := fun z => o3 b2 z
      simp [b1, b2, n2]
    · by_cases b3 : p ∣ y'
      · simp [b1, b2, b3]
      · simp [b1, b2, b3]
def xorb (s t : Bool) : Bool := if s = true then (!t) else t
theorem prd_sg (s t : Bool) (x y : Nat) : prd (sg s x) (sg t y) = sg (xorb s t) (x / Nat.gcd x y * (y / Nat.gcd x y)) := by
  unfold prd
  have e : Int.gcd (sg s x) (sg t y) = Nat.gcd x y := by
    show Nat.gcd (sg s x).natAbs (sg t y).natAbs = _
    rw [sg_abs, sg_abs]
  rw [e, sg_tdiv, sg_tdiv]
  generalize x / Nat.gcd x y = p
  generalize y / Nat.gcd x y = q
  cases s <;> cases t <;> unfold sg xorb <;> simp [Int.neg_mul, Int.mul_neg, Int.natCast_mul]
theorem dvK_sg (L : List Nat) (k : Nat) : dvK L k = sg (decide (k % 2 ≠ 0)) (L.getD (k / 2) 0) := by
  unfold dvK sg
  by_cases c : k % 2 = 0
  · rw [if_pos c, if_neg (by simp [c])]
  · rw [if_neg c, if_pos (by simp [c])]
theorem ct_prd {u : Nat} {L : List (Nat × Nat)} (h : CT u L) (hu : 1 ≤ u) {i j : Nat} (hi : i < 2 * L.length) (hj : j < 2 * L.length) : ∃ k, k < 2 * L.length ∧ dvK (L.map Prod.fst) k = prd (dvK (L.map Prod.fst) i) (dvK (L.map Prod.fst) j) ∧ mskK L k = mskK L i ^^^ mskK L j := by
  obtain ⟨ps, hG, hJ, h5, hp⟩ := h
  have mi := gD_mem (L := L) (n := i / 2) (by omega)
  have mj := gD_mem (L := L) (n := j / 2) (by omega)
  have si := (hG.2.2.1 (L.getD (i / 2) (0, 0)).1).mp ⟨(L.getD (i / 2) (0, 0)).2, mi⟩
  have sj := (hG.2.2.1 (L.getD (j / 2) (0, 0)).1).mp ⟨(L.getD (j / 2) (0, 0)).2, mj⟩
  have ei := hG.2.2.2 (L.getD (i / 2) (0, 0)).1 (L.getD (i / 2) (0, 0)).2 mi
  have ej := hG.2.2.2 (L.getD (j / 2) (0, 0)).1 (L.getD (j / 2) (0, 0)).2 mj
  have x0 : 0 < (L.getD (i / 2) (0, 0)).1 := Nat.pos_of_dvd_of_pos si.2 (by omega)
  obtain ⟨z1, z2, z3⟩ := prd_nat si.1 sj.1 si.2 sj.2 x0
  obtain ⟨m, hm⟩ := (hG.2.2.1 _).mpr ⟨z1, z2⟩
  have em := hG.2.2.2 _ _ hm
  obtain ⟨n, hn, en⟩ := gD_of hm
  have ex := mkM_xor ps _ _ _ h5 (fun p hpp => z3 p (hp p hpp))
  have two : 2 ^ ps.length ≤ 32 := Nat.pow_le_pow_right (n := 2) (by omega) h5
  have l1 := mkM_lt ps (L.getD (i / 2) (0, 0)).1
  have l2 := mkM_lt ps (L.getD (j / 2) (0, 0)).1
  obtain ⟨q1, q2, q3, q4⟩ := xor32 (mkM ps (L.getD (i / 2) (0, 0)).1) (by omega) (mkM ps (L.getD (j / 2) (0, 0)).1) (by omega)
  rw [← ex, ← em, ← ei, ← ej] at q2 q3 q4
  rw [← em, ← ei, ← ej] at ex
  have key : ∀ s : Nat, s < 2 → (s = 0 ↔ (i % 2 = 0 ↔ j % 2 = 0)) → ∃ k, k < 2 * L.length ∧ dvK (L.map Prod.fst) k = prd (dvK (L.map Prod.fst) i) (dvK (L.map Prod.fst) j) ∧ mskK L k = mskK L i ^^^ mskK L j := fun s hs hh => by
    have k2 : (2 * n + s) / 2 = n := by omega
    have k3 : (2 * n + s) % 2 = s := by omega
    refine ⟨2 * n + s, by omega, ?_, ?_⟩
    · rw [dvK_sg, dvK_sg, dvK_sg, prd_sg, k2, k3, gD_map hn, gD_map (by omega), gD_map (by omega), en]
      congr 1
      unfold xorb
      by_cases ci : i % 2 = 0 <;> by_cases cj : j % 2 = 0 <;> simp [ci, cj] at hh ⊢ <;> omega
    · unfold mskK
      rw [k2, k3, en]
      show m + (if s = 0 then 0 else 32) = _
      by_cases ci : i % 2 = 0
      · by_cases cj : j % 2 = 0
        · rw [if_pos ci, if_pos cj, if_pos (hh.mpr ⟨fun _ => cj, fun _ => ci⟩)]; exact ex
        · rw [if_pos ci, if_neg cj, if_neg (fun w => cj ((hh.mp w).mp ci))]; exact q3.symm
      · by_cases cj : j % 2 = 0
        · rw [if_neg ci, if_pos cj, if_neg (fun w => ci ((hh.mp w).mpr cj))]; exact q2.symm
        · rw [if_neg ci, if_neg cj, if_pos (hh.mpr ⟨fun w => absurd w ci, fun w => absurd w cj⟩)]; exact q4.symm
  by_cases c : (i % 2 = 0 ↔ j % 2 = 0)
  · exact key 0 (by omega) ⟨fun _ => c, fun _ => rfl⟩
  · exact key 1 (by omega) ⟨fun w => by omega, fun w => absurd w c⟩
theorem ct_lt {u : Nat} {L : List (Nat × Nat)} (h : CT u L) {n : Nat} (hn : n < L.length) : (L.getD n (0, 0)).2 < 32 := by
  obtain ⟨ps, hG, hJ, h5, hp⟩ := h
  rw [hG.2.2.2 (L.getD n (0, 0)).1 (L.getD n (0, 0)).2 (gD_mem hn)]
  have two : 2 ^ ps.length ≤ 32 := Nat.pow_le_pow_right (n := 2) (by omega) h5
  have := mkM_lt ps (L.getD n (0, 0)).1
  omega
theorem ct_len {u : Nat} {L : List (Nat × Nat)} (h : CT u L) : L.length ≤ 32 := by
  obtain ⟨ps, hG, hJ, h5, hp⟩ := h
  rw [hG.2.1]
  exact Nat.pow_le_pow_right (n := 2) (by omega) h5
theorem msk_lt {u : Nat} {L : List (Nat × Nat)} (h : CT u L) {k : Nat} (hk : k < 2 * L.length) : mskK L k < 64 := by
  have := ct_lt h (n := k / 2) (by omega)
  unfold mskK
  split <;> omega
theorem msk_inj {u : Nat} {L : List (Nat × Nat)} (h : CT u L) (hu : 1 ≤ u) (hu2 : u ≤ 4400) {i j : Nat} (hi : i < 2 * L.length) (hj : j < 2 * L.length) (e : mskK L i = mskK L j) : i = j := by
  have li := ct_lt h (n := i / 2) (by omega)
  have lj := ct_lt h (n := j / 2) (by omega)
  obtain ⟨ps, hG, hJ, h5, hp⟩ := h
  have par : (i % 2 = 0 ↔ j % 2 = 0) ∧ (L.getD (i / 2) (0, 0)).2 = (L.getD (j / 2) (0, 0)).2 := by
    unfold mskK at e
    by_cases ci : i % 2 = 0
    · rw [if_pos ci] at e
      by_cases cj : j % 2 = 0
      · rw [if_pos cj] at e; exact ⟨⟨fun _ => cj, fun _ => ci⟩, by omega⟩
      · rw [if_neg cj] at e; omega
    · rw [if_neg ci] at e
      by_cases cj : j % 2 = 0
      · rw [if_pos cj] at e; omega
      · rw [if_neg cj] at e; exact ⟨⟨fun w => absurd w ci, fun w => absurd w cj⟩, by omega⟩
  have mj := gD_mem (L := L) (n := j / 2) (by omega)
  have mj' : ((L.getD (j / 2) (0, 0)).1, (L.getD (i / 2) (0, 0)).2) ∈ L := by rw [par.2]; exact mj
  have e1 := hJ (L.getD (i / 2) (0, 0)).1 (L.getD (j / 2) (0, 0)).1 (L.getD (i / 2) (0, 0)).2 (gD_mem (L := L) (n := i / 2) (by omega)) mj'
  have ok := okL_cd hu2
  rw [← GL_cd hG hu hu2] at ok
  refine ok.2 i j (by rw [List.length_map]; exact hi) (by rw [List.length_map]; exact hj) ?_
  unfold dvK
  rw [gD_map (by omega), gD_map (by omega), e1]
  by_cases ci : i % 2 = 0
  · rw [if_pos ci, if_pos (par.1.mp ci)]
  · rw [if_neg ci, if_neg (fun w => ci (par.1.mpr w))]
/-- the class's set of masks -/
def Sub (S : Nat → Bool) : Prop := S 0 = true ∧ (∀ a, 64 ≤ a → S a = false) ∧ ∀ a b, S a = true → S b = true → S (a ^^^ b) = true
def mkS (S : Nat → Bool) (m : Nat) (k : Nat) : Bool := S k || S (k ^^^ m)
theorem x64 {a b : Nat} (ha : a < 64) (hb : b < 64) : a ^^^ b < 64 := Nat.xor_lt_two_pow (n := 6) ha hb
theorem xx (a m : Nat) : a ^^^ m ^^^ m = a := by rw [Nat.xor_assoc, Nat.xor_self, Nat.xor_zero]
theorem Sub_mk {S : Nat → Bool} (h : Sub S) {m : Nat} (hm : m < 64) : Sub (mkS S m) := by
  obtain ⟨h1, h2, h3⟩ := h
  refine ⟨by unfold mkS; rw [h1]; rfl, fun a ha => ?_, fun a b ha hb => ?_⟩
  · unfold mkS
    rw [h2 a ha]
    cases hs : S (a ^^^ m) with
    | false => rfl
    | true =>
      have : a ^^^ m < 64 := by
        rcases Nat.lt_or_ge (a ^^^ m) 64 with q | q
        · exact q
        · rw [h2 _ q] at hs; exact absurd hs ff_tt
      have l := x64 this hm
      rw [xx] at l
      omega
  · unfold mkS at ha hb ⊢
    rw [Bool.or_eq_true] at ha hb ⊢
    rcases ha with ha | ha
    · rcases hb with hb | hb
      · exact Or.inl (h3 a b ha hb)
      · right
        have := h3 _ _ ha hb
        rw [← Nat.xor_assoc] at this
        exact this
    · rcases hb with hb | hb
      · right
        have := h3 _ _ ha hb
        have e : a ^^^ m ^^^ b = a ^^^ b ^^^ m := by rw [Nat.xor_assoc, Nat.xor_comm m b, ← Nat.xor_assoc]
        rw [e] at this
        exact this
      · left
        have := h3 _ _ ha hb
        have e : a ^^^ m ^^^ (b ^^^ m) = a ^^^ b := by
          rw [← Nat.xor_assoc, Nat.xor_assoc a m b, Nat.xor_comm m b, ← Nat.xor_assoc, xx]
        rw [e] at this
        exact this
/-- what holds of it when k CLASSES were judged -/
def SI (L : List (Nat × Nat)) (fd : Nat → Bool) (k : Nat) (S : Nat → Bool) : Prop := Sub S ∧ (∀ m, S m = true → ∃ i, i < 2 * L.length ∧ mskK L i = m ∧ Md (L.map Prod.fst) fd i) ∧ ∀ i, i < k → fd i = true → S (mskK L i) = true
theorem SI_0 {u : Nat} {L : List (Nat × Nat)} (h : CT u L) (hu : 1 ≤ u) (hu2 : u ≤ 4400) (fd : Nat → Bool) : SI L fd 0 (fun k => Nat.beq k 0) := by
  obtain ⟨ps, hG, hJ, h5, hp⟩ := h
  refine ⟨⟨rfl, fun a ha => beqN (by omega), fun a b ha hb => ?_⟩, fun m hm => ?_, fun i hi => by omega⟩
  · have e1 : a = 0 := Nat.eq_of_beq_eq_true ha
    have e2 : b = 0 := Nat.eq_of_beq_eq_true hb
    subst e1; subst e2; rfl
  · have e1 : m = 0 := Nat.eq_of_beq_eq_true hm
    subst e1
    have s1 : sqf 1 := fun k hk z => by have := Nat.le_of_dvd Nat.one_pos z; have := Nat.mul_le_mul hk hk; omega
    obtain ⟨m, hm⟩ := (hG.2.2.1 1).mpr ⟨s1, Nat.one_dvd u⟩
    obtain ⟨n, hn, en⟩ := gD_of hm
    have em := hG.2.2.2 1 m hm
    have m0 : ∀ qs : List Nat, (∀ p ∈ qs, prN p) → mkM qs 1 = 0 := by
      intro qs
      induction qs with
      | nil => intro _; rfl
      | cons p qs ih =>
        intro hq
        have p2 := (hq p (List.mem_cons.mpr (Or.inl rfl))).1
        show (if 1 % p = 0 then 1 else 0) + 2 * mkM qs 1 = 0
        rw [ih (fun r hr => hq r (List.mem_cons.mpr (Or.inr hr))), if_neg (by rw [Nat.mod_eq_of_lt (by omega)]; omega)]
    rw [m0 ps hp] at em
    have k2 : 2 * n / 2 = n := by omega
    have k3 : 2 * n % 2 = 0 := by omega
    refine ⟨2 * n, by omega, ?_, ?_⟩
    · unfold mskK
      rw [k2, k3, en, em]; rfl
    · refine Md_bs _ (by rw [List.length_map]; omega) (Or.inl ?_)
      unfold dvK
      rw [k2, if_pos k3, gD_map hn, en]; rfl
theorem SI_skip {L : List (Nat × Nat)} {fd : Nat → Bool} {k : Nat} {S : Nat → Bool} (h : SI L fd k S) (hk : fd k = true → S (mskK L k) = true) : SI L fd (k + 1) S := by
  refine ⟨h.1, h.2.1, fun i hi hf => ?_⟩
  by_cases e : i = k
  · subst e; exact hk hf
  · exact h.2.2 i (by omega) hf
theorem SI_add {u : Nat} {L : List (Nat × Nat)} (hc : CT u L) (hu : 1 ≤ u) {fd : Nat → Bool} {k : Nat} {S : Nat → Bool} (h : SI L fd k S) (hk : k < 2 * L.length) (hf : fd k = true) : SI L fd (k + 1) (mkS S (mskK L k)) := by
  refine ⟨Sub_mk h.1 (msk_lt hc hk), fun m hm => ?_, fun i hi hfi => ?_⟩
  · unfold mkS at hm
    rw [Bool.or_eq_true] at hm
    rcases hm with hm | hm
    · exact h.2.1 m hm
    · obtain ⟨i, hi, e1, e2⟩ := h.2.1 _ hm
      obtain ⟨r, r1, r2, r3⟩ := ct_prd hc hu hi hk
      refine ⟨r, r1, by rw [r3, e1, xx], ?_⟩
      exact Md_cl i k r (by rw [List.length_map]; exact hi) (by rw [List.length_map]; exact hk) (by rw [List.length_map]; exact r1) e2 (Md_bs k (by rw [List.length_map]; exact hk) (Or.inr hf)) r2
  · unfold mkS
    rw [Bool.or_eq_true]
    by_cases e : i = k
    · subst e
      right
      rw [Nat.xor_self]; exact h.1.1
    · exact Or.inl (h.2.2 i (by omega) hfi)
theorem SI_end {u : Nat} {L : List (Nat × Nat)} (hc : CT u L) (hu : 1 ≤ u) (hu2 : u ≤ 4400) {fd : Nat → Bool} {S : Nat → Bool} (h : SI L fd (2 * L.length) S) {i : Nat} (hi : i < 2 * L.length) : S (mskK L i) = true ↔ Md (L.map Prod.fst) fd i := by
  constructor
  · intro hs
    obtain ⟨j, hj, e1, e2⟩ := h.2.1 _ hs
    have : j = i := msk_inj hc hu hu2 hj hi e1
    subst this; exact e2
  · intro hm
    refine hm (fun i => i < 2 * L.length → S (mskK L i) = true) (fun k hk hb _ => ?_) (fun a b k ha hb hk h1 h2 e _ => ?_) hi
    · rw [List.length_map] at hk
      rcases hb with hb | hb
      · obtain ⟨j, hj, e1, e2⟩ := h.2.1 _ h.1.1
        obtain ⟨r, r1, r2, r3⟩ := ct_prd hc hu hk hk
        rw [Nat.xor_self] at r3
        have ok := okL_cd hu2
        obtain ⟨ps, hG, _⟩ := hc
        rw [← GL_cd hG hu hu2] at ok
        have : r = k := ok.2 r k (by rw [List.length_map]; exact r1) (by rw [List.length_map]; exact hk) (by rw [r2, hb]; rfl)
        subst this
        rw [r3]; exact h.1.1
      · exact h.2.2 k hk hb
    · rw [List.length_map] at ha hb hk
      obtain ⟨r, r1, r2, r3⟩ := ct_prd hc hu ha hb
      have ok := okL_cd hu2
      have hc' := hc
      obtain ⟨ps, hG, _⟩ := hc
      rw [← GL_cd hG hu hu2] at ok
      have : r = k := ok.2 r k (by rw [List.length_map]; exact r1) (by rw [List.length_map]; exact hk) (by rw [r2, e])
      subst this
      rw [r3]
      exact h.1.2.2 _ _ (h1 ha) (h2 hb)
theorem SI_cnt {u : Nat} {L : List (Nat × Nat)} (hc : CT u L) (hu : 1 ≤ u) (hu2 : u ≤ 4400) {fd : Nat → Bool} {S : Nat → Bool} (h : SI L fd (2 * L.length) S) : cnB S 64 = cnB (fun i => S (mskK L i)) (2 * L.length) :=
  cnB_bij (2 * L.length) S (fun i hi => msk_lt hc hi) (fun i j hi hj e => msk_inj hc hu hu2 hi hj e) (fun x _ hx => by
    obtain ⟨i, hi, e, _⟩ := h.2.1 x hx
    exact ⟨i, hi, e⟩)
