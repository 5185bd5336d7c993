/-! groupBy, bestBy: both programs -/
section BYP
variable {a b : Int}
theorem bsX_s (p : Nat) (a b : Int) (j x : Nat) (s : Int × Int × Int) : bsX p a b (j + 1) x s = bsX p a b j (x + 1) ((ysF p (fvP p a b x) p 0).foldl (updE p a b x) s) := rfl
theorem okB_fold {p : Nat} (hp : p ∈ opr) (nb : ¬ (p : Int) ∣ b) (nd : ¬ (p : Int) ∣ a * a - 4 * b) {x : Nat} : ∀ (L : List Nat) (s : Int × Int × Int), (∀ y ∈ L, onA p a b (x : Int) (y : Int)) → okB s → okB (L.foldl (updE p a b x) s) := by
  intro L
  induction L with
  | nil => intro s _ h; exact h
  | cons y L ih =>
    intro s h hs
    exact ih _ (fun z hz => h z (List.mem_cons.mpr (Or.inr hz))) (okB_upd hp nb nd (h y (List.mem_cons.mpr (Or.inl rfl))) hs)
theorem okB_bsX {p : Nat} (hp : p ∈ opr) (nb : ¬ (p : Int) ∣ b) (nd : ¬ (p : Int) ∣ a * a - 4 * b) : ∀ (j x : Nat) (s : Int × Int × Int), x + j = p → okB s → okB (bsX p a b j x s) := by
  intro j
  induction j with
  | zero => intro x s _ h; exact h
  | succ j ih =>
    intro x s hx hs
    rw [bsX_s]
    exact ih (x + 1) _ (by omega) (okB_fold hp nb nd _ s (fun y hy => on_ys hp (by omega) hy) hs)
theorem okB_1 : okB (1, -1, -1) := ⟨by decide, by decide, Or.inl ⟨rfl, rfl⟩⟩
theorem okB_bst {p : Nat} (hp : p ∈ opr) (nb : ¬ (p : Int) ∣ b) (nd : ¬ (p : Int) ∣ a * a - 4 * b) : okB (bst p a b) := okB_bsX hp nb nd p 0 _ (by omega) okB_1
theorem bestX {N : Nat} (hN : 10000 ≤ N) {p : Nat} (hp : p ∈ opr) (nb : ¬ (p : Int) ∣ b) (nd : ¬ (p : Int) ∣ a * a - 4 * b) : ∀ (j x n : Nat) (s : Int × Int × Int) (σ : aSt), x + j = p → j + 1 ≤ n → okB s → TKN p a b σ → OI p a b σ → XBs s σ → ∃ σ', f_PrimeGroup_findBest_l12 N n (iZ (x : Int)) σ = some σ' ∧ TKN p a b σ' ∧ XBs (bsX p a b j x s) σ' ∧ fr frO3 σ σ' := by
  have hb := opr_bd p hp
  intro j
  induction j with
  | zero =>
    intro x n s σ hx hn hs ht hO hB
    obtain ⟨n, rfl, _⟩ := fuel hn
    rw [f_PrimeGroup_findBest_l12, ht.1, if_pos (by rw [iZ_le ⟨by omega, by omega⟩ ⟨by omega, by omega⟩]; omega)]
    exact ⟨σ, rfl, ht, hB, fr_refl _ _⟩
  | succ j ih =>
    intro x n s σ hx hn hs ht hO hB
    obtain ⟨n, rfl, hn'⟩ := fuel hn
    have rb := rtP_bd p (fvP p a b x)
    have yk := ysK p hp (fvP p a b x) (fvP_lt (by omega) a b x)
    have ony := fun y (hy : y ∈ ysF p (fvP p a b x) p 0) => on_ys (a := a) (b := b) hp (show x < p by omega) hy
    have okf := okB_fold hp nb nd _ s ony hs
    rw [f_PrimeGroup_findBest_l12, ht.1, if_neg (by rw [iZ_le ⟨by omega, by omega⟩ ⟨by omega, by omega⟩]; omega), rootAt_ok hp ht (by omega), Option.bind_some, i1, bsX_s]
    have c1 : (0 ≤ iZ (rtP p (fvP p a b x))) = (0 ≤ rtP p (fvP p a b x)) := by rw [show (0 : Int32) = iZ 0 from rfl, iZ_le (bd_lit _ rfl) ⟨by omega, by omega⟩]
    have c2 : (iZ (rtP p (fvP p a b x)) ≤ 0) = (rtP p (fvP p a b x) ≤ 0) := by rw [show (0 : Int32) = iZ 0 from rfl, iZ_le ⟨by omega, by omega⟩ (bd_lit _ rfl)]
    simp only [c1, c2]
    by_cases d1 : 0 ≤ rtP p (fvP p a b x)
    · rw [if_pos d1]
      rw [if_neg (show ¬ rtP p (fvP p a b x) < 0 by omega)] at yk
      obtain ⟨r0, hr0⟩ : ∃ r0 : Nat, rtP p (fvP p a b x) = r0 := ⟨(rtP p (fvP p a b x)).toNat, by omega⟩
      rw [hr0, Int.toNat_natCast] at yk
      rw [hr0] at rb ⊢
      have m0 : r0 ∈ ysF p (fvP p a b x) p 0 := by
        rw [yk]
        by_cases z : (r0 : Int) = 0
        · rw [if_pos z]
          have : r0 = 0 := by omega
          rw [this]; exact List.mem_cons.mpr (Or.inl rfl)
        · rw [if_neg z]; exact List.mem_cons.mpr (Or.inl rfl)
      obtain ⟨σ1, g1, g2, g3, g4, g5⟩ := weighX hN hp nb nd (ony r0 m0) hs ht hO hB
      rw [show iZ (x : Int) * (128 : Int32) + iZ (r0 : Int) = iZ ((x : Int) * 128 + r0) from by rw [show (128 : Int32) = iZ 128 from rfl, iZ_mul, iZ_add], g1, Option.bind_some]
      by_cases d2 : (r0 : Int) ≤ 0
      · rw [if_pos d2]
        have z : r0 = 0 := by omega
        subst z
        rw [if_pos (c := ((0 : Nat) : Int) = 0) rfl] at yk
        rw [yk] at okf ⊢
        obtain ⟨σ', k1, k2, k3, k4⟩ := ih (x + 1) n _ σ1 (by omega) hn' okf g2 g3 g4
        exact ⟨σ', k1, k2, k3, fr_trans g5 k4⟩
      · rw [if_neg d2]
        rw [if_neg (show ¬ (r0 : Int) = 0 by omega)] at yk
        have m1 : p - r0 ∈ ysF p (fvP p a b x) p 0 := by
          rw [yk]; exact List.mem_cons.mpr (Or.inr (List.mem_cons.mpr (Or.inl rfl)))
        obtain ⟨σ2, l1, l2, l3, l4, l5⟩ := weighX hN hp nb nd (ony (p - r0) m1) (okB_upd hp nb nd (ony r0 m0) hs) g2 g3 g4
        rw [g2.1, show iZ (x : Int) * (128 : Int32) + iZ (p : Int) - iZ (r0 : Int) = iZ ((x : Int) * 128 + ((p - r0 : Nat) : Int)) from by rw [show (128 : Int32) = iZ 128 from rfl, iZ_mul, iZ_add, iZ_sub]; congr 1; omega, l1, Option.bind_some]
        rw [yk] at okf ⊢
        obtain ⟨σ', k1, k2, k3, k4⟩ := ih (x + 1) n _ σ2 (by omega) hn' okf l2 l3 l4
        exact ⟨σ', k1, k2, k3, fr_trans (fr_trans g5 l5) k4⟩
    · rw [if_neg d1]
      rw [if_pos (show rtP p (fvP p a b x) < 0 by omega)] at yk
      rw [yk]
      exact ih (x + 1) n s σ (by omega) hn' hs ht hO hB
theorem findB {N : Nat} (hN : 10000 ≤ N) {p : Nat} (hp : p ∈ opr) (nb : ¬ (p : Int) ∣ b) (nd : ¬ (p : Int) ∣ a * a - 4 * b) {σ : aSt} (ht : TKN p a b σ) : ∃ σ', f_PrimeGroup_findBest N σ = some σ' ∧ TKN p a b σ' ∧ XBs (bst p a b) σ' ∧ fr frO3 σ σ' := by
  have hb := opr_bd p hp
  unfold f_PrimeGroup_findBest
  rw [lt_eq]
  obtain ⟨σ1, hσ1⟩ : ∃ s, s = s_i (s_i (f_fill σ 37 (0 : Int32)) 34 11 (1 : Int32)) 34 12 (-1 : Int32) := ⟨_, rfl⟩
  rw [← hσ1]
  have f1 : fr frO3 σ σ1 := by rw [hσ1]; exact fr_trans (fr_trans (fr_fill frO_37) (fr_si rfl)) (fr_si rfl)
  have O1 : OI p a b σ1 := fun P hP => by
    left
    have sl : slE p (some P) < 194 := by
      obtain ⟨x, y⟩ := P
      have q := hP.1
      show 2 * x.toNat + (if (p : Int) < 2 * y then 1 else 0) < 194
      simp only at q
      split <;> omega
    rw [hσ1]
    rw [si_ne (Or.inl (by decide)), si_ne (Or.inl (by decide))]
    exact fill_get (row := 37) (by show slE p (some P) < 194; exact sl)
  obtain ⟨σ', k1, k2, k3, k4⟩ := bestX (N := N) hN hp nb nd p 0 N (1, -1, -1) σ1 (by omega) (by omega) okB_1 (TKN_O f1 ht) O1 ⟨by rw [hσ1]; rfl, by rw [hσ1]; rfl⟩
  exact ⟨σ', k1, k2, k3, fr_trans f1 k4⟩
theorem frO3_G {σ σ' : aSt} (h : fr frO3 σ σ') : fr frG σ σ' := frG_of h (fun o k z => by
  unfold frO3 at z
  cases c1 : Nat.beq o 37
  · cases c2 : Nat.beq o 39
    · cases c3 : Nat.beq o 34
      · rw [c1, c2, c3] at z; cases z
      · have := Nat.eq_of_beq_eq_true c3; omega
    · have := Nat.eq_of_beq_eq_true c2; omega
  · have := Nat.eq_of_beq_eq_true c1; omega)
theorem GI_O {p : Nat} (hg : gP a b p = true) {σ σ' : aSt} (hf : fr frO3 σ σ') (h : GI a b σ) (ht : TKN p a b σ') (hB : XBs (bst p a b) σ') : GI a b σ' := ⟨by rw [(hf 34 6 rfl).1]; exact h.1, by rw [(hf 34 7 rfl).1]; exact h.2.1, fun q hq => by rw [(hf 40 q rfl).1]; exact h.2.2.1 q hq, Or.inr ⟨p, hg, ht, Or.inr hB⟩⟩
/-- the best is there -/
theorem best_ok {N : Nat} (hN : 10000 ≤ N) {p : Nat} (hg : gP a b p = true) {σ : aSt} (h : GI a b σ) (ht : TKN p a b σ) (hB : BST p a b σ) : ∃ σ', (if σ.1 34 11 ≠ 0 then some σ else f_PrimeGroup_findBest N σ) = some σ' ∧ GI a b σ' ∧ TKN p a b σ' ∧ XBs (bst p a b) σ' ∧ fr frG σ σ' := by
  obtain ⟨q, e, hp, nb, nd⟩ := gP_ex hg
  have e' : p = q := by omega
  subst e'
  have ok := okB_bst hp nb nd
  have h1 := ok.1; have h2 := ok.2.1
  by_cases c : σ.1 34 11 = 0
  · rw [if_neg (fun z => z c)]
    obtain ⟨σ', k1, k2, k3, k4⟩ := findB hN hp nb nd ht
    exact ⟨σ', k1, GI_O hg k4 h k2 k3, k2, k3, frO3_G k4⟩
  · rw [if_pos c]
    rcases hB with z | z
    · exact absurd z c
    · exact ⟨σ, rfl, h, ht, z, fr_refl _ _⟩
/-- the reference's search -/
theorem lays44 {N : Nat} (hN : 10000 ≤ N) (ha : bd 60 a) (hb' : bd 200 b) {p : Nat} (hp : p ∈ opr) (nb : ¬ (p : Int) ∣ b) (nd : ¬ (p : Int) ∣ a * a - 4 * b) {x : Nat} (hx : x < p) {K : Int32 → Int32 → aSt → Option aSt} : ∀ (j y n : Nat) (s : Int × Int × Int) (τ : aSt), y + j = p → j + 1 ≤ n → okB s → τ.1 66 2 = iZ a → τ.1 66 3 = iZ b → MBs s τ → (∀ z ∈ ysF p (fvP p a b x) j y, onA p a b (x : Int) (z : Int)) → ∃ τ', f_M_laysBest_l44 N K n (iZ p) (iZ (x : Int)) (iZ ((fvP p a b x : Nat) : Int)) (iZ (y : Int)) τ = K (iZ p) (iZ (x : Int)) τ' ∧ MBs ((ysF p (fvP p a b x) j y).foldl (updE p a b x) s) τ' ∧ fr frBP τ τ' := by
  have hb := opr_bd p hp
  intro j
  induction j with
  | zero =>
    intro y n s τ hy hn hs h2 h3 hB hz
    obtain ⟨n, rfl, _⟩ := fuel hn
    rw [f_M_laysBest_l44, if_pos (by rw [iZ_le ⟨by omega, by omega⟩ ⟨by omega, by omega⟩]; omega)]
    exact ⟨τ, rfl, hB, fr_refl _ _⟩
  | succ j ih =>
    intro y n s τ hy hn hs h2 h3 hB hz
    obtain ⟨n, rfl, hn'⟩ := fuel hn
    have sq := sq97 (show y ≤ p by omega) hb.2
    have em : (y : Int) * y % p = ((y * y % p : Nat) : Int) := by rw [← Int.natCast_mul, ← Int.natCast_emod]
    have lt : y * y % p < p := Nat.mod_lt _ (by omega)
    have fl := fvP_lt (show 0 < p by omega) a b x
    rw [ysF_s] at hz ⊢
    rw [f_M_laysBest_l44, if_neg (by rw [iZ_le ⟨by omega, by omega⟩ ⟨by omega, by omega⟩]; omega), if_pos (by rw [show (0 : Int32) = iZ 0 from rfl, iZ_eq ⟨by omega, by omega⟩ (bd_lit _ rfl)]; omega), iZ_mul, irem_nn (by omega) (by omega) (by omega) (by omega), i1, em]
    have c1 : (iZ ((y * y % p : Nat) : Int) = iZ ((fvP p a b x : Nat) : Int)) = (y * y % p = fvP p a b x) := by
      rw [iZ_eq ⟨by omega, by omega⟩ ⟨by omega, by omega⟩]; apply propext; omega
    simp only [c1]
    by_cases d : y * y % p = fvP p a b x
    · rw [if_pos d] at hz ⊢
      rw [if_pos d]
      have on := hz y (List.mem_cons.mpr (Or.inl rfl))
      have onE' : onE p a b (some ((x : Int), (y : Int))) := on
      obtain ⟨o1, o2, _, _⟩ := ord_ok hp nb nd onE'
      obtain ⟨τ1, g1, g2⟩ := orderM hN ha hb' hp nb nd on h2 h3
      have h1 := hs.1; have h1' := hs.2.1
      rw [g1, Option.bind_some]
      have e35 : τ1.1 66 35 = iZ s.1 := by rw [(g2 66 35 rfl).1]; exact hB.1
      show ∃ τ', (if τ1.1 66 35 < iZ (ordP p a b (some ((x : Int), (y : Int))) : Int) then f_M_laysBest_l44 N K n (iZ p) (iZ (x : Int)) (iZ ((fvP p a b x : Nat) : Int)) (iZ ((y + 1 : Nat) : Int)) (s_i (s_i (s_i τ1 66 35 (iZ (ordP p a b (some ((x : Int), (y : Int))) : Int))) 66 36 (iZ (x : Int))) 66 37 (iZ (y : Int))) else f_M_laysBest_l44 N K n (iZ p) (iZ (x : Int)) (iZ ((fvP p a b x : Nat) : Int)) (iZ ((y + 1 : Nat) : Int)) τ1) = _ ∧ _
      rw [e35, List.foldl_cons]
      have cc : (iZ s.1 < iZ (ordP p a b (some ((x : Int), (y : Int))) : Int)) = (s.1 < (ordP p a b (some ((x : Int), (y : Int))) : Int)) := iZ_lt ⟨by omega, by omega⟩ ⟨by omega, by omega⟩
      simp only [cc]
      have hz' : ∀ z ∈ ysF p (fvP p a b x) j (y + 1), onA p a b (x : Int) (z : Int) := fun z hz1 => hz z (List.mem_cons.mpr (Or.inr hz1))
      have oks := okB_upd hp nb nd on hs
      have f1 := frMo_B g2
      by_cases w : s.1 < (ordP p a b (some ((x : Int), (y : Int))) : Int)
      · rw [if_pos w]
        have eu : updE p a b x s y = ((ordP p a b (some ((x : Int), (y : Int))) : Int), (x : Int), (y : Int)) := if_pos w
        rw [eu] at oks ⊢
        have f2 : fr frBP τ1 (s_i (s_i (s_i τ1 66 35 (iZ (ordP p a b (some ((x : Int), (y : Int))) : Int))) 66 36 (iZ (x : Int))) 66 37 (iZ (y : Int))) := fr_trans (fr_trans (fr_si rfl) (fr_si rfl)) (fr_si rfl)
        obtain ⟨τ', k1, k2, k3⟩ := ih (y + 1) n _ _ (by omega) hn' oks (by rw [(f2 66 2 rfl).1, (f1 66 2 rfl).1]; exact h2) (by rw [(f2 66 3 rfl).1, (f1 66 3 rfl).1]; exact h3) ⟨rfl, rfl, rfl⟩ hz'
        exact ⟨τ', k1, k2, fr_trans (fr_trans f1 f2) k3⟩
      · rw [if_neg w]
        have eu : updE p a b x s y = s := if_neg w
        rw [eu]
        obtain ⟨τ', k1, k2, k3⟩ := ih (y + 1) n s τ1 (by omega) hn' hs (by rw [(f1 66 2 rfl).1]; exact h2) (by rw [(f1 66 3 rfl).1]; exact h3) ⟨e35, by rw [(g2 66 36 rfl).1]; exact hB.2.1, by rw [(g2 66 37 rfl).1]; exact hB.2.2⟩ hz'
        exact ⟨τ', k1, k2, fr_trans f1 k3⟩
    · rw [if_neg d] at hz ⊢
      rw [if_neg d]
      exact ih (y + 1) n s τ (by omega) hn' hs h2 h3 hB hz
theorem lays11 {N : Nat} (hN : 10000 ≤ N) (ha : bd 60 a) (hb' : bd 200 b) {p : Nat} (hp : p ∈ opr) (nb : ¬ (p : Int) ∣ b) (nd : ¬ (p : Int) ∣ a * a - 4 * b) : ∀ (j x n : Nat) (s : Int × Int × Int) (τ : aSt), x + j = p → j + 1 ≤ n → okB s → τ.1 66 2 = iZ a → τ.1 66 3 = iZ b → MBs s τ → ∃ τ', f_M_laysBest_l11 N n (iZ p) (iZ (x : Int)) τ = some τ' ∧ MBs (bsX p a b j x s) τ' ∧ fr frBP τ τ' := by
  have hb := opr_bd p hp
  have := ha.1; have := ha.2; have := hb'.1; have := hb'.2
  intro j
  induction j with
  | zero =>
    intro x n s τ hx hn hs h2 h3 hB
    obtain ⟨n, rfl, _⟩ := fuel hn
    rw [f_M_laysBest_l11, if_pos (by rw [iZ_le ⟨by omega, by omega⟩ ⟨by omega, by omega⟩]; omega)]
    exact ⟨τ, rfl, hB, fr_refl _ _⟩
  | succ j ih =>
    intro x n s τ hx hn hs h2 h3 hB
    obtain ⟨n, rfl, hn'⟩ := fuel hn
    have fb := fv_big (x := x) (by omega) ha hb'
    rw [f_M_laysBest_l11, if_neg (by rw [iZ_le ⟨by omega, by omega⟩ ⟨by omega, by omega⟩]; omega), h2, h3, i2j ⟨by omega, by omega⟩, i2j ⟨by omega, by omega⟩, i2j ⟨by omega, by omega⟩, jZ_mul, jZ_mul, jZ_mul, jZ_mul, jZ_add, jZ_mul, jZ_add, mod_ok fb (by omega) (by omega), Option.bind_some, ← fvP_int (by omega)]
    have ony := fun y (hy : y ∈ ysF p (fvP p a b x) p 0) => on_ys (a := a) (b := b) hp (show x < p by omega) hy
    obtain ⟨τ1, g1, g2, g3⟩ := lays44 (N := N) hN ha hb' hp nb nd (x := x) (by omega) (K := fun (y8 : Int32) (y9 : Int32) σ10 => f_M_laysBest_l11 N n y8 (y9 + (1 : Int32)) σ10) p 0 N s τ (by omega) (by omega) hs h2 h3 hB ony
    obtain ⟨τ', k1, k2, k3⟩ := ih (x + 1) n _ τ1 (by omega) hn' (okB_fold hp nb nd _ s ony hs) (by rw [(g3 66 2 rfl).1]; exact h2) (by rw [(g3 66 3 rfl).1]; exact h3) g2
    refine ⟨τ', ?_, k2, fr_trans g3 k3⟩
    refine Eq.trans g1 ?_
    show f_M_laysBest_l11 N n (iZ p) (iZ (x : Int) + (1 : Int32)) τ1 = some τ'
    rw [i1]; exact k1
theorem laysB {N : Nat} (hN : 10000 ≤ N) (ha : bd 60 a) (hb' : bd 200 b) {p : Nat} (hp : p ∈ opr) (nb : ¬ (p : Int) ∣ b) (nd : ¬ (p : Int) ∣ a * a - 4 * b) {τ : aSt} (h2 : τ.1 66 2 = iZ a) (h3 : τ.1 66 3 = iZ b) : ∃ τ', f_M_laysBest N (iZ p) τ = some τ' ∧ MBs (bst p a b) τ' ∧ fr frBP τ τ' := by
  have hb := opr_bd p hp
  unfold f_M_laysBest
  have f1 : fr frBP τ (s_i (s_i (s_i τ 66 35 (1 : Int32)) 66 36 (-1 : Int32)) 66 37 (-1 : Int32)) := fr_trans (fr_trans (fr_si rfl) (fr_si rfl)) (fr_si rfl)
  obtain ⟨τ', k1, k2, k3⟩ := lays11 (N := N) hN ha hb' hp nb nd p 0 N (1, -1, -1) _ (by omega) (by omega) okB_1 (by rw [(f1 66 2 rfl).1]; exact h2) (by rw [(f1 66 3 rfl).1]; exact h3) ⟨rfl, rfl, rfl⟩
  exact ⟨τ', k1, k2, fr_trans f1 k3⟩
end BYP
section BYC
variable {a b : Int} {M E : Nat}
theorem groupBy_eq {N : Nat} (hc : CVc a b M E) (hN : 10000 ≤ N) {σ τ : aSt} (hx : RX a b M E σ) (hm : RM a b M E τ) (hp : CP σ) (hg : GI a b σ) (p w : Int32) : ∃ r σ' τ', f_X_groupBy N p w σ = some (r, σ') ∧ f_M_groupBy N p w τ = some (r, τ') ∧ GI a b σ' ∧ fr frG σ σ' ∧ fr frBP τ τ' := by
  obtain ⟨b1, b2, _, _⟩ := cvc_bd hc
  have no : ∃ r σ' τ', some ((-2 : Int32), σ) = some (r, σ') ∧ some ((-2 : Int32), τ) = some (r, τ') ∧ GI a b σ' ∧ fr frG σ σ' ∧ fr frBP τ τ' := ⟨_, σ, τ, rfl, rfl, hg, fr_refl _ _, fr_refl _ _⟩
  unfold f_X_groupBy f_M_groupBy
  rw [byX hc hN hx hp, byM hc hN hm, Option.bind_some, Option.bind_some, show (0 : Int64) = jZ 0 from rfl, show (1 : Int64) = jZ 1 from rfl, in_p (bd_lit _ rfl) (bd_lit _ rfl), ite_dec]
  by_cases c : gP a b p.toInt = true
  · rw [if_pos c, if_pos c]
    have q1 : (w < (0 : Int32)) = (w.toInt < 0) := pl_lt (y := 0) (bd_lit _ rfl)
    have q2 : (w ≤ (1 : Int32)) = (w.toInt ≤ 1) := pl_le (y := 1) (bd_lit _ rfl)
    simp only [q1, q2]
    by_cases d : 0 ≤ w.toInt ∧ w.toInt ≤ 1
    · rw [if_pos d, if_neg (show ¬ w.toInt < 0 by omega), if_pos d.2]
      obtain ⟨q, e, hq, nb, nd⟩ := gP_ex c
      rw [e] at c
      rw [lit32 e]
      obtain ⟨σ1, g1, g2, g3, g4, g5⟩ := take_ok hN b1 b2 c hg
      obtain ⟨σ2, k1, k2, k3, k4, k5⟩ := best_ok hN c g2 g3 g4
      obtain ⟨τ1, l1, l2, l3⟩ := laysB hN b1 b2 hq nb nd hm.2.2.1 hm.2.2.2.1
      have ok := okB_bst hq nb nd
      have h1 := ok.1; have h2 := ok.2.1
      have eG : f_PrimeGroup_greatestOrder N σ1 = some (iZ (bst q a b).1, σ2) := by
        unfold f_PrimeGroup_greatestOrder
        by_cases z : σ1.1 34 11 ≠ 0
        · rw [if_pos z] at k1 ⊢
          have := Option.some.inj k1
          rw [← this] at k4 ⊢
          rw [k4.1]
        · rw [if_neg z] at k1 ⊢
          rw [k1, Option.bind_some, k4.1]
      have m1 := MC_B l3 hm.2
      rw [g1, Option.bind_some, eG, Option.bind_some, l1, Option.bind_some, l2.1, manyOf_ok hN b1 b2 hq m1.2.1 m1.2.2.1, Option.bind_some]
      by_cases z : w ≠ 0
      · rw [if_pos z, if_pos z]
        obtain ⟨σ3, n1, n2, n3⟩ := manyBy_ok hN b1 b2 c k2
        have mb := many_bd hq a b
        rw [show f_PrimeGroup_manyBy N (iZ (q : Int)) (iZ (bst q a b).1, σ2).2 = some (iZ (manyN q a b), σ3) from n1, Option.bind_some, if_pos (by rw [show (0 : Int32) = iZ 0 from rfl, iZ_eq ⟨by omega, by omega⟩ (bd_lit _ rfl)]; omega), iZ_div ⟨by omega, by omega⟩ ⟨by omega, by omega⟩]
        refine ⟨_, σ3, τ1, rfl, ?_, n2, fr_trans (fr_trans g5 k5) n3, l3⟩
        show _ = some ((f_Whole_quotient (iZ (manyN q a b)).toInt64 (iZ (bst q a b).1).toInt64).toInt32, τ1)
        rw [i2j ⟨by omega, by omega⟩, i2j ⟨by omega, by omega⟩, quot_Z ⟨by omega, by omega⟩ ⟨by omega, by omega⟩, j2i]
      · rw [if_neg z, if_neg z]
        exact ⟨_, σ2, τ1, rfl, rfl, k2, fr_trans g5 k5, l3⟩
    · rw [if_neg d]
      by_cases d1 : w.toInt < 0
      · rw [if_pos d1]; exact no
      · rw [if_neg d1, if_neg (show ¬ w.toInt ≤ 1 by omega)]; exact no
  · rw [if_neg c, if_neg c]; exact no
theorem bestBy_eq {N : Nat} (hc : CVc a b M E) (hN : 10000 ≤ N) {σ τ : aSt} (hx : RX a b M E σ) (hm : RM a b M E τ) (hp : CP σ) (hg : GI a b σ) (p w : Int32) : ∃ r σ' τ', f_X_bestBy N p w σ = some (r, σ') ∧ f_M_bestBy N p w τ = some (r, τ') ∧ GI a b σ' ∧ fr frG σ σ' ∧ fr frBP τ τ' := by
  obtain ⟨b1, b2, _, _⟩ := cvc_bd hc
  have no : ∃ r σ' τ', some ((-2 : Int32), σ) = some (r, σ') ∧ some ((-2 : Int32), τ) = some (r, τ') ∧ GI a b σ' ∧ fr frG σ σ' ∧ fr frBP τ τ' := ⟨_, σ, τ, rfl, rfl, hg, fr_refl _ _, fr_refl _ _⟩
  unfold f_X_bestBy f_M_bestBy
  rw [byX hc hN hx hp, byM hc hN hm, Option.bind_some, Option.bind_some, show (0 : Int64) = jZ 0 from rfl, show (1 : Int64) = jZ 1 from rfl, in_p (bd_lit _ rfl) (bd_lit _ rfl), ite_dec]
  by_cases c : gP a b p.toInt = true
  · rw [if_pos c, if_pos c]
    have q1 : (w < (0 : Int32)) = (w.toInt < 0) := pl_lt (y := 0) (bd_lit _ rfl)
    have q2 : (w ≤ (1 : Int32)) = (w.toInt ≤ 1) := pl_le (y := 1) (bd_lit _ rfl)
    simp only [q1, q2]
    by_cases d : 0 ≤ w.toInt ∧ w.toInt ≤ 1
    · rw [if_pos d, if_neg (show ¬ w.toInt < 0 by omega), if_pos d.2]
      obtain ⟨q, e, hq, nb, nd⟩ := gP_ex c
      rw [e] at c
      rw [lit32 e]
      obtain ⟨σ1, g1, g2, g3, g4, g5⟩ := take_ok hN b1 b2 c hg
      obtain ⟨σ2, k1, k2, k3, k4, k5⟩ := best_ok hN c g2 g3 g4
      obtain ⟨τ1, l1, l2, l3⟩ := laysB hN b1 b2 hq nb nd hm.2.2.1 hm.2.2.2.1
      have ok := okB_bst hq nb nd
      have eG : f_PrimeGroup_bestPart N w σ1 = f_PrimeGroup_bestPart_b5 N w σ2 := by
        unfold f_PrimeGroup_bestPart
        by_cases z : σ1.1 34 11 ≠ 0
        · rw [if_pos z] at k1 ⊢
          rw [Option.some.inj k1]
        · rw [if_neg z] at k1 ⊢
          rw [k1, Option.bind_some]
      rw [g1, Option.bind_some, eG, l1, Option.bind_some, l2.2.1, l2.2.2]
      unfold f_PrimeGroup_bestPart_b5
      rw [k4.2]
      obtain ⟨s, hs⟩ : ∃ s, s = bst q a b := ⟨_, rfl⟩
      rw [← hs] at ok ⊢
      unfold cdB
      rcases ok.2.2 with ⟨z1, z2⟩ | ⟨z1, z2⟩
      · rw [z1, z2, if_pos (c := (-1 : Int) < 0) (by decide), if_neg (c := (0 : Int32) ≤ iZ (-1)) (by decide), Option.bind_some]
        refine ⟨(-1 : Int32), σ2, τ1, rfl, ?_, k2, fr_trans g5 k5, l3⟩
        split <;> rfl
      · rw [if_neg (show ¬ s.2.1 < 0 by omega), if_pos (c := (0 : Int32) ≤ iZ (s.2.1 * 128 + s.2.2)) (by rw [show (0 : Int32) = iZ 0 from rfl, iZ_le (bd_lit _ rfl) ⟨by omega, by omega⟩]; omega)]
        obtain ⟨d1, m1⟩ := cd_div (x := s.2.1) (y := s.2.2) z1 z2
        rw [d1, m1]
        by_cases z : w ≠ 0
        · rw [if_pos z, if_pos z, Option.bind_some]
          exact ⟨_, σ2, τ1, rfl, rfl, k2, fr_trans g5 k5, l3⟩
        · rw [if_neg z, if_neg z, Option.bind_some]
          exact ⟨_, σ2, τ1, rfl, rfl, k2, fr_trans g5 k5, l3⟩
    · rw [if_neg d]
      by_cases d1 : w.toInt < 0
      · rw [if_pos d1]; exact no
      · rw [if_neg d1, if_neg (show ¬ w.toInt ≤ 1 by omega)]; exact no
  · rw [if_neg c, if_neg c]; exact no
end BYC
