/-! orderBy, logBy -/
theorem cdE_neg {p : Nat} {a b : Int} {P : Option (Int × Int)} (hp : p ∈ opr) (h : onE p a b P) : (iZ (cdE P) < 0) = (P = none) ∧ bd 20000 (cdE P) := by
  have hb := opr_bd p hp
  cases P with
  | none => exact ⟨propext ⟨fun _ => rfl, fun _ => by decide⟩, bd_lit _ rfl⟩
  | some P =>
    obtain ⟨x, y⟩ := P
    have q := h.1
    have r := h.2.1
    simp only at q r
    have e : cdE (some (x, y)) = x * 128 + y := rfl
    rw [e]
    refine ⟨?_, ⟨by omega, by omega⟩⟩
    rw [show (0 : Int32) = iZ 0 from rfl, iZ_lt ⟨by omega, by omega⟩ (bd_lit _ rfl)]
    exact propext ⟨fun z => by omega, fun z => by cases z⟩
theorem cdE_inj {p : Nat} {a b : Int} {P Q : Option (Int × Int)} (hp : p ∈ opr) (h1 : onE p a b P) (h2 : onE p a b Q) : (iZ (cdE P) = iZ (cdE Q)) = (P = Q) := by
  have hb := opr_bd p hp
  have b1 := (cdE_neg hp h1).2
  have b2 := (cdE_neg hp h2).2
  have := b1.1; have := b1.2; have := b2.1; have := b2.2
  rw [iZ_eq ⟨by omega, by omega⟩ ⟨by omega, by omega⟩]
  apply propext
  refine ⟨fun e => ?_, fun e => by rw [e]⟩
  cases P with
  | none =>
    cases Q with
    | none => rfl
    | some Q =>
      obtain ⟨x, y⟩ := Q
      have q := h2.1; have r := h2.2.1
      simp only at q r
      have e' : (-1 : Int) = x * 128 + y := e
      omega
  | some P =>
    obtain ⟨x1, y1⟩ := P
    have q1 := h1.1; have r1 := h1.2.1
    simp only at q1 r1
    cases Q with
    | none =>
      have e' : x1 * 128 + y1 = (-1 : Int) := e
      omega
    | some Q =>
      obtain ⟨x2, y2⟩ := Q
      have q2 := h2.1; have r2 := h2.2.1
      simp only at q2 r2
      have e' : x1 * 128 + y1 = x2 * 128 + y2 := e
      have k1 : x1 = x2 := by omega
      have k2 : y1 = y2 := by omega
      rw [k1, k2]
section BYP
variable {a b : Int}
theorem ordX {N : Nat} {p : Nat} (hp : p ∈ opr) (nb : ¬ (p : Int) ∣ b) (nd : ¬ (p : Int) ∣ a * a - 4 * b) {σ : aSt} (h : TKN p a b σ) {P : Option (Int × Int)} (hP : onE p a b P) : ∀ (j k n : Nat), k + 1 + j = ordP p a b P → j + 1 ≤ n → f_PrimeGroup_orderOfCode_l6 N σ n (iZ (cdE P)) (iZ (cdE (mP p a b P (k + 1)))) (iZ ((k + 1 : Nat) : Int)) (iZ (k : Int)) = some (iZ (ordP p a b P : Int)) := by
  obtain ⟨o1, o2, o3, o4⟩ := ord_ok hp nb nd hP
  intro j
  induction j with
  | zero =>
    intro k n hk hn
    obtain ⟨n, rfl, _⟩ := fuel hn
    rw [f_PrimeGroup_orderOfCode_l6, if_neg (by rw [show (200 : Int32) = iZ 200 from rfl, iZ_le (bd_lit _ rfl) ⟨by omega, by omega⟩]; omega), if_pos (by rw [(cdE_neg hp (mP_on hp hP _)).1, show k + 1 = ordP p a b P by omega]; exact o3), show k + 1 = ordP p a b P by omega]
  | succ j ih =>
    intro k n hk hn
    obtain ⟨n, rfl, hn'⟩ := fuel hn
    rw [f_PrimeGroup_orderOfCode_l6, if_neg (by rw [show (200 : Int32) = iZ 200 from rfl, iZ_le (bd_lit _ rfl) ⟨by omega, by omega⟩]; omega), if_neg (by rw [(cdE_neg hp (mP_on hp hP _)).1]; exact o4 _ (by omega) (by omega)), addX hp h (mP_on hp hP _) hP, Option.bind_some, i1, i1, ← mP_s]
    exact ih (k + 1) n (by omega) hn'
theorem orderX {N : Nat} (hN : 10000 ≤ N) {p : Nat} (hp : p ∈ opr) (nb : ¬ (p : Int) ∣ b) (nd : ¬ (p : Int) ∣ a * a - 4 * b) {σ : aSt} (h : TKN p a b σ) {P : Option (Int × Int)} (hP : onE p a b P) : f_PrimeGroup_orderOfCode N (iZ (cdE P)) σ = some (iZ (ordP p a b P : Int)) := by
  obtain ⟨o1, o2, o3, o4⟩ := ord_ok hp nb nd hP
  unfold f_PrimeGroup_orderOfCode
  exact ordX hp nb nd h hP (ordP p a b P - 1) 0 N (by omega) (by omega)
theorem MPt_fl {P : Option (Int × Int)} {τ : aSt} (h : MPt P τ) : (τ.2.2 66 31 = true) = (P = none) := by
  cases P with
  | none => exact propext ⟨fun _ => rfl, fun _ => h⟩
  | some P =>
    have h' : τ.2.2 66 31 = false := h.1
    rw [h']
    exact propext ⟨fun z => (by cases z), fun z => (by cases z)⟩
theorem ordM {N : Nat} (hN : 10000 ≤ N) (ha : bd 60 a) (hb' : bd 200 b) {p : Nat} (hp : p ∈ opr) (nb : ¬ (p : Int) ∣ b) (nd : ¬ (p : Int) ∣ a * a - 4 * b) {x y : Int} (hP : onA p a b x y) : ∀ (j k n : Nat) (τ : aSt), k + 1 + j = ordP p a b (some (x, y)) → j + 1 ≤ n → τ.1 66 2 = iZ a → τ.1 66 3 = iZ b → MPt (mP p a b (some (x, y)) k) τ → ∃ τ', f_M_orderFrom_l5 N n (iZ x) (iZ y) (iZ p) (iZ (k : Int)) τ = some (iZ (ordP p a b (some (x, y)) : Int), τ') ∧ fr frMo τ τ' := by
  have hPE : onE p a b (some (x, y)) := hP
  obtain ⟨o1, o2, o3, o4⟩ := ord_ok hp nb nd hPE
  intro j
  induction j with
  | zero =>
    intro k n τ hk hn h2 h3 hm
    obtain ⟨n, rfl, _⟩ := fuel hn
    obtain ⟨τ1, g1, g2, g3⟩ := addsBy_ok hN ha hb' hp h2 h3 (mP_on hp hPE k) hP hm
    rw [f_M_orderFrom_l5, g1, Option.bind_some, if_pos (by rw [MPt_fl g2, ← mP_s, show k + 1 = ordP p a b (some (x, y)) by omega]; exact o3), i1, show k + 1 = ordP p a b (some (x, y)) by omega]
    exact ⟨τ1, rfl, g3⟩
  | succ j ih =>
    intro k n τ hk hn h2 h3 hm
    obtain ⟨n, rfl, hn'⟩ := fuel hn
    obtain ⟨τ1, g1, g2, g3⟩ := addsBy_ok hN ha hb' hp h2 h3 (mP_on hp hPE k) hP hm
    rw [f_M_orderFrom_l5, g1, Option.bind_some, if_neg (by rw [MPt_fl g2, ← mP_s]; exact o4 _ (by omega) (by omega)), i1]
    obtain ⟨τ', k1, k2⟩ := ih (k + 1) n τ1 (by omega) hn' (by rw [(g3 66 2 rfl).1]; exact h2) (by rw [(g3 66 3 rfl).1]; exact h3) g2
    exact ⟨τ', k1, fr_trans g3 k2⟩
theorem orderM {N : Nat} (hN : 10000 ≤ N) (ha : bd 60 a) (hb' : bd 200 b) {p : Nat} (hp : p ∈ opr) (nb : ¬ (p : Int) ∣ b) (nd : ¬ (p : Int) ∣ a * a - 4 * b) {x y : Int} (hP : onA p a b x y) {τ : aSt} (h2 : τ.1 66 2 = iZ a) (h3 : τ.1 66 3 = iZ b) : ∃ τ', f_M_orderFrom N (iZ x) (iZ y) (iZ p) τ = some (iZ (ordP p a b (some (x, y)) : Int), τ') ∧ fr frMo τ τ' := by
  have hPE : onE p a b (some (x, y)) := hP
  obtain ⟨o1, o2, o3, o4⟩ := ord_ok hp nb nd hPE
  unfold f_M_orderFrom
  obtain ⟨τ', g1, g2⟩ := ordM hN ha hb' hp nb nd hP (ordP p a b (some (x, y)) - 1) 0 N (s_b τ 66 31 true) (by omega) (by omega) h2 h3 (sb_eq _ _ _ _)
  exact ⟨τ', g1, fr_trans (fr_sb rfl) g2⟩
end BYP
section BYC
variable {a b : Int} {M E : Nat}
theorem pnt_of {x : Int32} (h : x.toInt = 1000 ∨ (0 ≤ x.toInt ∧ x.toInt < ((hL a b M E).length : Int))) : pnt a b M E x.toInt := h
theorem MSt_fl {P : Option (Int × Int)} {τ : aSt} (h : MSt P τ) : (τ.2.2 66 34 = true) = (P = none) := by
  cases P with
  | none => exact propext ⟨fun _ => rfl, fun _ => h⟩
  | some P =>
    have h' : τ.2.2 66 34 = false := h.1
    rw [h']
    exact propext ⟨fun z => (by cases z), fun z => (by cases z)⟩
theorem ord_none {p : Nat} : ordP p a b none = 1 := by
  unfold ordP
  rw [fo, if_pos (by rw [mP_none]; rfl)]
theorem orderBy_eq {N : Nat} (hc : CVc a b M E) (hN : 10000 ≤ N) {σ τ : aSt} (hx : RX a b M E σ) (hm : RM a b M E τ) (hp : CP σ) (hg : GI a b σ) (i p : Int32) : ∃ r σ' τ', f_X_orderBy N i p σ = some (r, σ') ∧ f_M_orderBy N i p τ = some (r, τ') ∧ GI a b σ' ∧ fr frG σ σ' ∧ fr frBP τ τ' := by
  obtain ⟨b1, b2, _, _⟩ := cvc_bd hc
  have no : ∃ r σ' τ', some ((-2 : Int32), σ) = some (r, σ') ∧ some ((-2 : Int32), τ) = some (r, τ') ∧ GI a b σ' ∧ fr frG σ σ' ∧ fr frBP τ τ' := ⟨_, σ, τ, rfl, rfl, hg, fr_refl _ _, fr_refl _ _⟩
  unfold f_X_orderBy f_M_orderBy
  rw [xPoint hx, mPoint hm, ite_dec, ite_dec]
  by_cases c0 : i.toInt = 1000 ∨ (0 ≤ i.toInt ∧ i.toInt < ((hL a b M E).length : Int))
  · rw [if_pos c0, if_pos c0, byX hc hN hx hp, byM hc hN hm, Option.bind_some, Option.bind_some]
    by_cases c : gP a b p.toInt = true
    · rw [if_pos c, if_pos c]
      obtain ⟨q, e, hq, nb, nd⟩ := gP_ex c
      rw [e] at c
      have hi : pnt a b M E i.toInt := c0
      rw [lit32 e, ← iZ_self i]
      obtain ⟨σ1, g1, g2, g3, g4, g5⟩ := take_ok hN b1 b2 c hg
      obtain ⟨τ1, s1, s2, s3⟩ := starts_ok hc hN hq hm.2 hi
      have on := rdX_on (a := a) (b := b) (M := M) (E := E) hq hi
      rw [g1, Option.bind_some, codeX hc hq (XC_G g5 hx.2) g3 hi, Option.bind_some, orderX hN hq nb nd g3 on, Option.bind_some, s1, Option.bind_some]
      cases hr : rdX a b M E q i.toInt with
      | none =>
        rw [hr] at s2
        rw [if_pos (by rw [MSt_fl s2]), ord_none]
        exact ⟨_, σ1, τ1, rfl, rfl, g2, g5, frSt_B s3⟩
      | some P =>
        obtain ⟨x, y⟩ := P
        rw [hr] at s2 on
        obtain ⟨s4, s5, s6⟩ := s2
        have m1 := MC_B (frSt_B s3) hm.2
        obtain ⟨τ2, u1, u2⟩ := orderM hN b1 b2 hq nb nd on m1.2.1 m1.2.2.1
        simp only at s5 s6
        rw [s4, if_neg ff_tt, s5, s6, u1, Option.bind_some]
        exact ⟨_, σ1, τ2, rfl, rfl, g2, g5, fr_trans (frSt_B s3) (frMo_B u2)⟩
    · rw [if_neg c, if_neg c]; exact no
  · rw [if_neg c0, if_neg c0]; exact no
/-- logBy: the class's walk -/
theorem logX {N : Nat} {p : Nat} (hp : p ∈ opr) (nb : ¬ (p : Int) ∣ b) (nd : ¬ (p : Int) ∣ a * a - 4 * b) {σ : aSt} (h : TKN p a b σ) {P Q : Option (Int × Int)} (hP : onE p a b P) (hQ : onE p a b Q) : ∀ (j k n : Nat), k + j = ordP p a b P → j + 1 ≤ n → (∀ i, i < k → mP p a b P i ≠ Q) → k < ordP p a b P → ∃ r : Int, f_PrimeGroup_logOf_l4 N σ n (iZ (cdE P)) (iZ (cdE Q)) (iZ (cdE (mP p a b P k))) (iZ (k : Int)) = some (iZ r) ∧ ((r = -1 ∧ ∀ i, i < ordP p a b P → mP p a b P i ≠ Q) ∨ (∃ i : Nat, r = i ∧ i < ordP p a b P ∧ mP p a b P i = Q ∧ ∀ i', i' < i → mP p a b P i' ≠ Q)) := by
  obtain ⟨o1, o2, o3, o4⟩ := ord_ok hp nb nd hP
  intro j
  induction j with
  | zero => intro k n hk hn h1 h2; omega
  | succ j ih =>
    intro k n hk hn h1 h2
    obtain ⟨n, rfl, hn'⟩ := fuel hn
    have hk1 := mP_on hp hP (k + 1)
    rw [f_PrimeGroup_logOf_l4, if_neg (by rw [show (200 : Int32) = iZ 200 from rfl, iZ_le (bd_lit _ rfl) ⟨by omega, by omega⟩]; omega), addX hp h (mP_on hp hP _) hP, Option.bind_some, i1, ← mP_s]
    have cq : (iZ (cdE (mP p a b P k)) ≠ iZ (cdE Q)) = ¬ (mP p a b P k = Q) := by rw [ne_eq, cdE_inj hp (mP_on hp hP k) hQ]
    have cb := cdE_neg hp hk1
    have hb1 := cb.2.1; have hb2 := cb.2.2
    have cn : (0 ≤ iZ (cdE (mP p a b P (k + 1)))) = ¬ (mP p a b P (k + 1) = none) := by
      rw [← cb.1, show (0 : Int32) = iZ 0 from rfl, iZ_le (bd_lit _ rfl) ⟨by omega, by omega⟩, iZ_lt ⟨by omega, by omega⟩ (bd_lit _ rfl)]; apply propext; omega
    simp only [cq, cn]
    by_cases d : mP p a b P k = Q
    · rw [if_neg (fun z => z d)]
      exact ⟨k, rfl, Or.inr ⟨k, rfl, h2, d, h1⟩⟩
    · rw [if_pos d]
      have h1' : ∀ i, i < k + 1 → mP p a b P i ≠ Q := fun i hi => by
        by_cases e : i = k
        · subst e; exact d
        · exact h1 i (by omega)
      by_cases z : mP p a b P (k + 1) = none
      · rw [if_neg (fun q => q z)]
        have e : k + 1 = ordP p a b P := by
          rcases Nat.lt_or_ge (k + 1) (ordP p a b P) with q | q
          · exact absurd z (o4 _ (by omega) q)
          · omega
        exact ⟨-1, rfl, Or.inl ⟨rfl, fun i hi => h1' i (by omega)⟩⟩
      · rw [if_pos z]
        have e : k + 1 < ordP p a b P := by
          rcases Nat.lt_or_ge (k + 1) (ordP p a b P) with q | q
          · exact q
          · exact absurd (by rw [show k + 1 = ordP p a b P by omega]; exact o3) z
        exact ih (k + 1) n (by omega) hn' h1' e
/-- .. the reference's -/
theorem logM {N : Nat} (hN : 10000 ≤ N) (ha : bd 60 a) (hb' : bd 200 b) {p : Nat} (hp : p ∈ opr) (nb : ¬ (p : Int) ∣ b) (nd : ¬ (p : Int) ∣ a * a - 4 * b) {x y u v : Int} (hP : onA p a b x y) (hQ : onA p a b u v) : ∀ (j k n : Nat) (τ : aSt), k + j = ordP p a b (some (x, y)) → j + 1 ≤ n → τ.1 66 2 = iZ a → τ.1 66 3 = iZ b → τ.1 66 32 = iZ x → τ.1 66 33 = iZ y → MPt (mP p a b (some (x, y)) k) τ → (∀ i, i ≤ k → mP p a b (some (x, y)) i ≠ some (u, v)) → k < ordP p a b (some (x, y)) → ∃ (r : Int) (τ' : aSt), f_M_logBy_l45 N n (iZ p) (iZ u) (iZ v) (iZ (k : Int)) τ = some (iZ r, τ') ∧ ((r = -1 ∧ ∀ i, i < ordP p a b (some (x, y)) → mP p a b (some (x, y)) i ≠ some (u, v)) ∨ (∃ i : Nat, r = i ∧ i < ordP p a b (some (x, y)) ∧ mP p a b (some (x, y)) i = some (u, v) ∧ ∀ i', i' < i → mP p a b (some (x, y)) i' ≠ some (u, v))) ∧ fr frMo τ τ' := by
  have hPE : onE p a b (some (x, y)) := hP
  have hb := opr_bd p hp
  obtain ⟨o1, o2, o3, o4⟩ := ord_ok hp nb nd hPE
  intro j
  induction j with
  | zero => intro k n τ hk hn _ _ _ _ _ _ h2; omega
  | succ j ih =>
    intro k n τ hk hn h2 h3 h32 h33 hm h1 hlt
    obtain ⟨n, rfl, hn'⟩ := fuel hn
    obtain ⟨τ1, g1, g2, g3⟩ := addsBy_ok hN ha hb' hp h2 h3 (mP_on hp hPE k) hP hm
    rw [← mP_s] at g2
    rw [f_M_logBy_l45, h32, h33, g1, Option.bind_some, i1]
    by_cases z : mP p a b (some (x, y)) (k + 1) = none
    · have e : k + 1 = ordP p a b (some (x, y)) := by
        rcases Nat.lt_or_ge (k + 1) (ordP p a b (some (x, y))) with q | q
        · exact absurd z (o4 _ (by omega) q)
        · omega
      rw [z] at g2
      have fl : τ1.2.2 66 31 = true := g2
      rw [fl, if_pos (c := true = true) rfl, if_pos (c := true = true) rfl]
      exact ⟨-1, τ1, rfl, Or.inl ⟨rfl, fun i hi => h1 i (by omega)⟩, g3⟩
    · have e : k + 1 < ordP p a b (some (x, y)) := by
        rcases Nat.lt_or_ge (k + 1) (ordP p a b (some (x, y))) with q | q
        · exact q
        · exact absurd (by rw [show k + 1 = ordP p a b (some (x, y)) by omega]; exact o3) z
      have onk := mP_on hp hPE (k + 1)
      cases hr : mP p a b (some (x, y)) (k + 1) with
      | none => exact absurd hr z
      | some R =>
        obtain ⟨rx, ry⟩ := R
        rw [hr] at g2 onk
        obtain ⟨f1, f2, f3⟩ := g2
        simp only at f2 f3
        have q1 := onk.1; have q2 := onk.2.1; have q3 := hQ.1; have q4 := hQ.2.1
        simp only at q1 q2
        rw [f1, if_neg ff_tt, if_neg ff_tt, f2, f3]
        have cx : (iZ rx ≠ iZ u) = ¬ (rx = u) := by rw [ne_eq, iZ_eq ⟨by omega, by omega⟩ ⟨by omega, by omega⟩]
        have cy : (iZ ry ≠ iZ v) = ¬ (ry = v) := by rw [ne_eq, iZ_eq ⟨by omega, by omega⟩ ⟨by omega, by omega⟩]
        simp only [cx, cy]
        have go : (rx, ry) ≠ (u, v) → ∃ (r : Int) (τ' : aSt), f_M_logBy_l45 N n (iZ p) (iZ u) (iZ v) (iZ ((k + 1 : Nat) : Int)) τ1 = some (iZ r, τ') ∧ ((r = -1 ∧ ∀ i, i < ordP p a b (some (x, y)) → mP p a b (some (x, y)) i ≠ some (u, v)) ∨ (∃ i : Nat, r = i ∧ i < ordP p a b (some (x, y)) ∧ mP p a b (some (x, y)) i = some (u, v) ∧ ∀ i', i' < i → mP p a b (some (x, y)) i' ≠ some (u, v))) ∧ fr frMo τ τ' := fun ne => by
          obtain ⟨r, τ', k1, k2, k3⟩ := ih (k + 1) n τ1 (by omega) hn' (by rw [(g3 66 2 rfl).1]; exact h2) (by rw [(g3 66 3 rfl).1]; exact h3) (by rw [(g3 66 32 rfl).1]; exact h32) (by rw [(g3 66 33 rfl).1]; exact h33) (by rw [hr]; exact ⟨f1, f2, f3⟩) (fun i hi => by
            by_cases ei : i = k + 1
            · rw [ei, hr]; exact fun q => ne (Option.some.inj q)
            · exact h1 i (by omega)) e
          exact ⟨r, τ', k1, k2, fr_trans g3 k3⟩
        by_cases dx : rx = u
        · rw [if_neg (fun q => q dx)]
          by_cases dy : ry = v
          · rw [if_neg (fun q => q dy)]
            refine ⟨((k + 1 : Nat) : Int), τ1, rfl, Or.inr ⟨k + 1, rfl, e, by rw [hr, dx, dy], fun i' hi => h1 i' (by omega)⟩, g3⟩
          · rw [if_pos dy]; exact go (fun q => dy (congrArg Prod.snd q))
        · rw [if_pos dx]; exact go (fun q => dx (congrArg Prod.fst q))
theorem logBy_eq {N : Nat} (hc : CVc a b M E) (hN : 10000 ≤ N) {σ τ : aSt} (hx : RX a b M E σ) (hm : RM a b M E τ) (hp : CP σ) (hg : GI a b σ) (i j p : Int32) : ∃ r σ' τ', f_X_logBy N i j p σ = some (r, σ') ∧ f_M_logBy N i j p τ = some (r, τ') ∧ GI a b σ' ∧ fr frG σ σ' ∧ fr frBP τ τ' := by
  obtain ⟨b1, b2, _, _⟩ := cvc_bd hc
  have no : ∃ r σ' τ', some ((-2 : Int32), σ) = some (r, σ') ∧ some ((-2 : Int32), τ) = some (r, τ') ∧ GI a b σ' ∧ fr frG σ σ' ∧ fr frBP τ τ' := ⟨_, σ, τ, rfl, rfl, hg, fr_refl _ _, fr_refl _ _⟩
  unfold f_X_logBy f_M_logBy
  rw [xPoint hx, mPoint hm, xPoint hx, mPoint hm, ite_dec, ite_dec, ite_dec, ite_dec]
  by_cases c0 : i.toInt = 1000 ∨ (0 ≤ i.toInt ∧ i.toInt < ((hL a b M E).length : Int))
  · rw [if_pos c0, if_pos c0]
    by_cases c1 : j.toInt = 1000 ∨ (0 ≤ j.toInt ∧ j.toInt < ((hL a b M E).length : Int))
    · rw [if_pos c1, if_pos c1, byX hc hN hx hp, byM hc hN hm, Option.bind_some, Option.bind_some]
      by_cases c : gP a b p.toInt = true
      · rw [if_pos c, if_pos c]
        obtain ⟨q, e, hq, nb, nd⟩ := gP_ex c
        rw [e] at c
        have hi : pnt a b M E i.toInt := c0
        have hj : pnt a b M E j.toInt := c1
        rw [lit32 e, ← iZ_self i, ← iZ_self j]
        obtain ⟨σ1, g1, g2, g3, g4, g5⟩ := take_ok hN b1 b2 c hg
        have oi := rdX_on (a := a) (b := b) (M := M) (E := E) hq hi
        have oj := rdX_on (a := a) (b := b) (M := M) (E := E) hq hj
        obtain ⟨τ1, s1, s2, s3⟩ := starts_ok hc hN hq hm.2 hj
        have m1 := MC_B (frSt_B s3) hm.2
        obtain ⟨τ2, t1, t2, t3⟩ := starts_ok hc hN hq m1 hi
        have m2 := MC_B (frSt_B t3) m1
        obtain ⟨oo1, oo2, oo3, oo4⟩ := ord_ok hq nb nd oi
        rw [iZ_self i, iZ_self j] at *
        rw [← iZ_self i, ← iZ_self j]
        rw [g1, Option.bind_some, codeX hc hq (XC_G g5 hx.2) g3 hi, Option.bind_some, codeX hc hq (XC_G g5 hx.2) g3 hj, Option.bind_some]
        rw [iZ_self i, iZ_self j, s1, Option.bind_some]
        obtain ⟨r, l1, l2⟩ := logX (N := N) hq nb nd g3 oi oj (ordP q a b (rdX a b M E q i.toInt)) 0 N (by omega) (by omega) (fun i h => by omega) (by omega)
        have l1' : f_PrimeGroup_logOf N (iZ (cdE (rdX a b M E q i.toInt))) (iZ (cdE (rdX a b M E q j.toInt))) σ1 = some (iZ r) := l1
        rw [l1', Option.bind_some]
        cases hrj : rdX a b M E q j.toInt with
        | none =>
          rw [hrj] at s2 l2
          rw [if_pos (by rw [MSt_fl s2])]
          have : r = 0 := by
            rcases l2 with ⟨_, w⟩ | ⟨i', w1, w2, w3, w4⟩
            · exact absurd rfl (w 0 (by omega))
            · rcases Nat.eq_zero_or_pos i' with z | z
              · subst z; exact w1
              · exact absurd rfl (w4 0 z)
          rw [this]
          exact ⟨_, σ1, τ1, rfl, rfl, g2, g5, frSt_B s3⟩
        | some Q =>
          obtain ⟨u, v⟩ := Q
          rw [hrj] at s2 l2 oj
          obtain ⟨f1, f2, f3⟩ := s2
          simp only at f2 f3
          rw [f1, if_neg ff_tt, t1, Option.bind_some, f2, f3]
          cases hri : rdX a b M E q i.toInt with
          | none =>
            rw [hri] at t2 l2
            rw [if_pos (by rw [MSt_fl t2])]
            have : r = -1 := by
              rcases l2 with ⟨w, _⟩ | ⟨i', w1, w2, w3, w4⟩
              · exact w
              · rw [mP_none] at w3; cases w3
            rw [this]
            exact ⟨_, σ1, τ2, rfl, rfl, g2, g5, fr_trans (frSt_B s3) (frSt_B t3)⟩
          | some P =>
            obtain ⟨x, y⟩ := P
            rw [hri] at t2 l2 oi oo1 oo2
            obtain ⟨k1, k2, k3⟩ := t2
            simp only at k2 k3
            rw [k1, if_neg ff_tt]
            obtain ⟨r', τ3, w1, w2, w3⟩ := logM hN b1 b2 hq nb nd (x := x) (y := y) (u := u) (v := v) oi oj (ordP q a b (some (x, y))) 0 N (s_b τ2 66 31 true) (by omega) (by omega) m2.2.1 m2.2.2.1 k2 k3 (sb_eq _ _ _ _) (fun i h => by
              have : i = 0 := by omega
              subst this
              intro z; cases z) (by omega)
            have er : r' = r := by
              rcases l2 with ⟨z1, z2⟩ | ⟨i1, z1, z2, z3, z4⟩
              · rcases w2 with ⟨y1, y2⟩ | ⟨i2, y1, y2, y3, y4⟩
                · rw [z1, y1]
                · exact absurd y3 (z2 i2 y2)
              · rcases w2 with ⟨y1, y2⟩ | ⟨i2, y1, y2, y3, y4⟩
                · exact absurd z3 (y2 i1 z2)
                · rw [z1, y1]
                  rcases Nat.lt_or_ge i1 i2 with h | h
                  · exact absurd z3 (y4 i1 h)
                  · rcases Nat.lt_or_ge i2 i1 with h' | h'
                    · exact absurd y3 (z4 i2 h')
                    · omega
            rw [er] at w1
            have w1' : f_M_logBy_l45 N N (iZ (q : Int)) (iZ u) (iZ v) (0 : Int32) (s_b τ2 66 31 true) = some (iZ r, τ3) := w1
            rw [w1']
            exact ⟨_, σ1, τ3, rfl, rfl, g2, g5, fr_trans (fr_trans (frSt_B s3) (frSt_B t3)) (fr_trans (fr_sb rfl) (frMo_B w3))⟩
      · rw [if_neg c, if_neg c]; exact no
    · rw [if_neg c1, if_neg c1]; exact no
  · rw [if_neg c0, if_neg c0]; exact no
end BYC
