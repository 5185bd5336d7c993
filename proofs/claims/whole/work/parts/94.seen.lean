/-! firstAlike, seenBy -/
def resF : Option Nat → Int32
  | none => -1
  | some q => iZ (q : Int)
section BYC
variable {a b : Int} {M E : Nat}
def gF (a b : Int) (M E : Nat) (x y : Int) (q : Nat) : Option Nat → Option Nat
  | some r => some r
  | none => if gP a b q = true ∧ rdX a b M E q x = rdX a b M E q y then some q else none
theorem fold_some {x y : Int} : ∀ (L : List Nat) (r : Nat), L.foldl (fun s q => gF a b M E x y q s) (some r) = some r := by
  intro L
  induction L with
  | nil => intro r; rfl
  | cons q L ih => intro r; exact ih r
theorem fR_some {x y : Int} : ∀ (j k r : Nat), fR (gF a b M E x y) j k (some r) = some r := by
  intro j
  induction j with
  | zero => intro k r; rfl
  | succ j ih => intro k r; exact ih (k + 1) r
theorem firstX {N : Nat} (hc : CVc a b M E) (hN : 10000 ≤ N) {σ : aSt} (hx : RX a b M E σ) (hp : CP σ) {x y : Int} (hx1 : pnt a b M E x) (hy1 : pnt a b M E y) : ∀ (j i n : Nat), i + j = 25 → j + 1 ≤ n → f_X_firstAlike_l17 N σ n (iZ x) (iZ y) (25 : Int32) (iZ (i : Int)) = some (resF ((apr.drop i).foldl (fun s q => gF a b M E x y q s) none)) := by
  intro j
  induction j with
  | zero =>
    intro i n hi hn
    obtain ⟨n, rfl, _⟩ := fuel hn
    rw [f_X_firstAlike_l17, if_pos (by rw [show (25 : Int32) = iZ 25 from rfl, iZ_le (bd_lit _ rfl) ⟨by omega, by omega⟩]; omega), show i = 25 by omega, apr_end]
    rfl
  | succ j ih =>
    intro i n hi hn
    obtain ⟨n, rfl, hn'⟩ := fuel hn
    have ab := apr_bd i (by omega)
    rw [f_X_firstAlike_l17, if_neg (by rw [show (25 : Int32) = iZ 25 from rfl, iZ_le (bd_lit _ rfl) ⟨by omega, by omega⟩]; omega), if_pos (by rw [show (0 : Int32) = iZ 0 from rfl, show (25 : Int32) = iZ 25 from rfl, iZ_le (bd_lit _ rfl) ⟨by omega, by omega⟩, iZ_lt ⟨by omega, by omega⟩ (bd_lit _ rfl)]; omega), cp_i hp (by omega), byX hc hN hx hp, Option.bind_some, gP_toInt ab.2, i1, ih (i + 1) n (by omega) hn', apr_drop i (by omega), List.foldl_cons]
    obtain ⟨q, hq⟩ : ∃ q, q = apr.getD i 0 := ⟨_, rfl⟩
    rw [← hq] at ab ⊢
    by_cases c : gP a b q = true
    · rw [if_pos c]
      obtain ⟨q', e, hq', _, _⟩ := gP_ex c
      have e' : q = q' := by omega
      subst e'
      rw [alikeX hc hq' hx.2 hx1 hy1, Option.bind_some, ite_dec]
      by_cases d : rdX a b M E q x = rdX a b M E q y
      · rw [if_pos d, show gF a b M E x y q none = some q from if_pos ⟨c, d⟩, fold_some]; rfl
      · rw [if_neg d, show gF a b M E x y q none = none from if_neg (fun z => d z.2)]
    · rw [if_neg c, show gF a b M E x y q none = none from if_neg (fun z => c z.1)]
theorem firstM {N : Nat} (hc : CVc a b M E) (hN : 10000 ≤ N) {x y : Int} (hx1 : pnt a b M E x) (hy1 : pnt a b M E y) : ∀ (j k n : Nat) (τ : aSt), k + j = 98 → j + 1 ≤ n → RM a b M E τ → ∃ τ', f_M_firstAlike_l12 N n (iZ x) (iZ y) (iZ (k : Int)) τ = some (resF (fR (gF a b M E x y) j k none), τ') ∧ fr frBP τ τ' := by
  intro j
  induction j with
  | zero =>
    intro k n τ hk hn hm
    obtain ⟨n, rfl, _⟩ := fuel hn
    rw [f_M_firstAlike_l12, if_pos (by rw [show (97 : Int32) = iZ 97 from rfl, iZ_lt (bd_lit _ rfl) ⟨by omega, by omega⟩]; omega)]
    exact ⟨τ, rfl, fr_refl _ _⟩
  | succ j ih =>
    intro k n τ hk hn hm
    obtain ⟨n, rfl, hn'⟩ := fuel hn
    rw [f_M_firstAlike_l12, if_neg (by rw [show (97 : Int32) = iZ 97 from rfl, iZ_lt (bd_lit _ rfl) ⟨by omega, by omega⟩]; omega), byM hc hN hm, Option.bind_some, gP_toInt (by omega), i1]
    show ∃ τ', _ = some (resF (fR (gF a b M E x y) j (k + 1) (gF a b M E x y k none)), τ') ∧ fr frBP τ τ'
    by_cases c : gP a b k = true
    · rw [if_pos c]
      obtain ⟨q', e, hq', _, _⟩ := gP_ex c
      have e' : k = q' := by omega
      subst e'
      obtain ⟨τ1, g1, g2⟩ := alikeM hc hN hq' hm.2 hx1 hy1
      rw [g1, Option.bind_some, ite_dec]
      by_cases d : rdX a b M E k x = rdX a b M E k y
      · rw [if_pos d, show gF a b M E x y k none = some k from if_pos ⟨c, d⟩, fR_some]
        exact ⟨τ1, rfl, g2⟩
      · rw [if_neg d, show gF a b M E x y k none = none from if_neg (fun z => d z.2)]
        obtain ⟨τ', k1, k2⟩ := ih (k + 1) n τ1 (by omega) hn' (RM_B g2 hm)
        exact ⟨τ', k1, fr_trans g2 k2⟩
    · rw [if_neg c, show gF a b M E x y k none = none from if_neg (fun z => c z.1)]
      exact ih (k + 1) n τ (by omega) hn' hm
theorem firstAlike_eq {N : Nat} (hc : CVc a b M E) (hN : 10000 ≤ N) {σ τ : aSt} (hx : RX a b M E σ) (hm : RM a b M E τ) (hp : CP σ) (i j : Int32) : ∃ r τ', f_X_firstAlike N i j σ = some r ∧ f_M_firstAlike N i j τ = some (r, τ') ∧ fr frBP τ τ' := by
  have no : ∃ r τ', some (-2 : Int32) = some r ∧ some ((-2 : Int32), τ) = some (r, τ') ∧ fr frBP τ τ' := ⟨_, τ, rfl, rfl, fr_refl _ _⟩
  unfold f_X_firstAlike f_M_firstAlike
  rw [xPoint hx, mPoint hm, xPoint hx, mPoint hm, ite_dec, ite_dec, ite_dec, ite_dec]
  by_cases c0 : i.toInt = 1000 ∨ (0 ≤ i.toInt ∧ i.toInt < ((hL a b M E).length : Int))
  · rw [if_pos c0, if_pos c0]
    by_cases c1 : j.toInt = 1000 ∨ (0 ≤ j.toInt ∧ j.toInt < ((hL a b M E).length : Int))
    · rw [if_pos c1, if_pos c1]
      have e1 := firstX (N := N) hc hN hx hp (x := i.toInt) (y := j.toInt) c0 c1 25 0 N (by omega) (by omega)
      obtain ⟨τ', g1, g2⟩ := firstM (N := N) hc hN (x := i.toInt) (y := j.toInt) c0 c1 95 3 N τ (by omega) (by omega) hm
      rw [fold_pr (gF a b M E i.toInt j.toInt) (fun q s h => by
        cases s with
        | none => show (if _ then _ else _) = _; rw [gP_not h, if_neg (fun z => ff_tt z.1)]
        | some r => rfl)] at g1
      rw [iZ_self, iZ_self] at e1 g1
      exact ⟨_, τ', e1, g1, g2⟩
    · rw [if_neg c1, if_neg c1]; exact no
  · rw [if_neg c0, if_neg c0]; exact no
/-- the place of a point, in the class -/
theorem slotX {p : Nat} (hp : p ∈ opr) {σ : aSt} (h : TKN p a b σ) {P : Int × Int} (hP : onE p a b (some P)) : f_PrimeGroup_slotOf (iZ (cdE (some P))) σ = iZ (slE p (some P) : Int) := by
  have hb := opr_bd p hp
  obtain ⟨x, y⟩ := P
  have q1 := hP.1; have q2 := hP.2.1
  simp only at q1 q2
  obtain ⟨d1, m1⟩ := cd_div (x := x) (y := y) ⟨by omega, by omega⟩ ⟨by omega, by omega⟩
  unfold f_PrimeGroup_slotOf
  show (if (2 : Int32) * irem (iZ (x * 128 + y)) (128 : Int32) ≤ σ.1 34 10 then (2 : Int32) * (iZ (x * 128 + y) / (128 : Int32)) + (0 : Int32) else (2 : Int32) * (iZ (x * 128 + y) / (128 : Int32)) + (1 : Int32)) = iZ ((2 * x.toNat + (if (p : Int) < 2 * y then 1 else 0) : Nat) : Int)
  rw [d1, m1, h.1, show (2 : Int32) = iZ 2 from rfl, show (0 : Int32) = iZ 0 from rfl, show (1 : Int32) = iZ 1 from rfl, iZ_mul, iZ_mul, iZ_add, iZ_add]
  have c : (iZ (2 * y) ≤ iZ (p : Int)) = (2 * y ≤ p) := iZ_le ⟨by omega, by omega⟩ ⟨by omega, by omega⟩
  simp only [c]
  by_cases d : 2 * y ≤ p
  · rw [if_pos d, if_neg (show ¬ (p : Int) < 2 * y by omega)]; congr 1; omega
  · rw [if_neg d, if_pos (show (p : Int) < 2 * y by omega)]; congr 1; omega
theorem seesX {p : Nat} (hp : p ∈ opr) {σ : aSt} (h : TKN p a b σ) {P : Option (Int × Int)} (hP : onE p a b P) : f_PrimeGroup_seesNew (iZ (cdE P)) σ = if σ.1 38 (slE p P) = 0 then (true, s_i σ 38 (slE p P) (1 : Int32)) else (false, σ) := by
  have hl := slE_lt hp hP
  have e : f_PrimeGroup_seesNew (iZ (cdE P)) σ = f_PrimeGroup_seesNew_b7 (iZ (slE p P : Int)) σ := by
    unfold f_PrimeGroup_seesNew
    cases P with
    | none => rw [if_neg (by show ¬ (0 : Int32) ≤ iZ (-1); decide)]; rfl
    | some P =>
      have cb := cdE_neg hp hP
      have := cb.2.1; have := cb.2.2
      have : ¬ (iZ (cdE (some P)) < 0) := by rw [cb.1]; intro z; cases z
      rw [show (0 : Int32) = iZ 0 from rfl, iZ_lt ⟨by omega, by omega⟩ (bd_lit _ rfl)] at this
      rw [if_pos (by rw [show (0 : Int32) = iZ 0 from rfl, iZ_le (bd_lit _ rfl) ⟨by omega, by omega⟩]; omega), slotX hp h hP]
  rw [e]
  unfold f_PrimeGroup_seesNew_b7
  rw [pick_in (by decide) (by decide) (by omega) (by show (slE p P : Int) < ((195 : Nat) : Int); omega), Int.toNat_natCast, store_in (by decide) (by decide) (by omega) (by show (slE p P : Int) < ((195 : Nat) : Int); omega), Int.toNat_natCast, lt_eq]
def nwB (a b : Int) (M E p : Nat) (i : Nat) : Bool := decide (∀ j, j < i → rdX a b M E p (j : Int) ≠ rdX a b M E p (i : Int))
def cnS (a b : Int) (M E p : Nat) : Nat → Nat → Int → Int
  | 0, _, c => c
  | j + 1, i, c => cnS a b M E p j (i + 1) (if nwB a b M E p i = true then c + 1 else c)
theorem seenX {N : Nat} (hc : CVc a b M E) {p : Nat} (hp : p ∈ opr) : ∀ (j i n : Nat) (c : Int) (σ : aSt), i + j = (hL a b M E).length → j + 1 ≤ n → XC a b M E σ → TKN p a b σ → (∀ s, s < 195 → ((σ.1 38 s = 0) ↔ ∀ k, k < i → slE p (rdX a b M E p (k : Int)) ≠ s)) → ∃ σ', f_X_seenBy_l17 N n (iZ c) (iZ (i : Int)) σ = some (iZ (cnS a b M E p j i c), σ') ∧ fr (fun o _ => Nat.beq o 38) σ σ' := by
  have hl := hL_le (a := a) (b := b) (M := M) (E := E)
  intro j
  induction j with
  | zero =>
    intro i n c σ hi hn hx ht hs
    obtain ⟨n, rfl, _⟩ := fuel hn
    rw [f_X_seenBy_l17, shownZ hx, if_pos (stop (by omega))]
    exact ⟨σ, rfl, fr_refl _ _⟩
  | succ j ih =>
    intro i n c σ hi hn hx ht hs
    obtain ⟨n, rfl, hn'⟩ := fuel hn
    have hpn : ∀ k : Nat, k < (hL a b M E).length → pnt a b M E (k : Int) := fun k hk => Or.inr ⟨by omega, by omega⟩
    have on := fun k hk => rdX_on (a := a) (b := b) (M := M) (E := E) hp (hpn k hk)
    rw [f_X_seenBy_l17, shownZ hx, if_neg (ngo (by omega)), codeX hc hp hx ht (hpn i (by omega)), Option.bind_some, lt_eq, seesX hp ht (on i (by omega)), i1]
    have iff : (σ.1 38 (slE p (rdX a b M E p (i : Int))) = 0) ↔ nwB a b M E p i = true := by
      rw [hs _ (slE_lt hp (on i (by omega)))]
      unfold nwB
      rw [decide_eq_true_eq]
      constructor
      · intro h k hk z; exact h k hk (by rw [z])
      · intro h k hk z; exact h k hk (slE_inj hp (on k (by omega)) (on i (by omega)) z)
    show ∃ σ', _ = some (iZ (cnS a b M E p j (i + 1) (if nwB a b M E p i = true then c + 1 else c)), σ') ∧ _
    by_cases d : nwB a b M E p i = true
    · rw [if_pos (iff.mpr d), if_pos d, if_pos (c := (true, _).1 = true) rfl, show (1 : Int32) = iZ 1 from rfl, iZ_add]
      have f1 : fr (fun o _ => Nat.beq o 38) σ (s_i σ 38 (slE p (rdX a b M E p (i : Int))) (iZ 1)) := fr_si rfl
      obtain ⟨σ', k1, k2⟩ := ih (i + 1) n (c + 1) (s_i σ 38 (slE p (rdX a b M E p (i : Int))) (iZ 1)) (by omega) hn' (XC_fr f1 (fun _ => ⟨rfl, rfl, rfl, rfl, rfl⟩) hx) (TKN_fr f1 ⟨rfl, rfl, rfl⟩ (fun _ => rfl) (fun _ => rfl) ht) (fun s hs1 => by
        by_cases z : s = slE p (rdX a b M E p (i : Int))
        · rw [z, si_eq]
          constructor
          · intro q; exact absurd q (by decide)
          · intro q; exact absurd rfl (q i (by omega))
        · rw [si_ne (Or.inr z), hs s hs1]
          constructor
          · intro q k hk
            by_cases ek : k = i
            · subst ek; exact fun w => z w.symm
            · exact q k (by omega)
          · intro q k hk; exact q k (by omega))
      exact ⟨σ', k1, fr_trans f1 k2⟩
    · rw [if_neg (fun z => d (iff.mp z)), if_neg d, if_neg (c := (false, σ).1 = true) ff_tt]
      refine ih (i + 1) n c σ (by omega) hn' hx ht (fun s hs1 => ?_)
      rw [hs s hs1]
      constructor
      · intro q k hk
        by_cases ek : k = i
        · subst ek
          intro w
          apply d
          rw [← iff, w, hs s hs1]
          exact q
        · exact q k (by omega)
      · intro q k hk; exact q k (by omega)
theorem seenM1 {N : Nat} (hc : CVc a b M E) (hN : 10000 ≤ N) {p : Nat} (hp : p ∈ opr) {i : Nat} (hi : i < (hL a b M E).length) {c : Int32} {K : Int32 → Int32 → Int32 → Int32 → aSt → Option (Int32 × aSt)} : ∀ (m jj n : Nat) (f : Bool) (τ : aSt), jj + m = i → m + 1 ≤ n → MC a b M E τ → ∃ τ', f_M_seenBy_l18 N K n (iZ p) c (iZ (i : Int)) (if f = true then 1 else 0) (iZ (jj : Int)) τ = K (iZ p) c (iZ (i : Int)) (if f = true ∧ (∀ j, j < i → jj ≤ j → rdX a b M E p (j : Int) ≠ rdX a b M E p (i : Int)) then 1 else 0) τ' ∧ fr frBP τ τ' := by
  have hl := hL_le (a := a) (b := b) (M := M) (E := E)
  intro m
  induction m with
  | zero =>
    intro jj n f τ hj hn hm
    obtain ⟨n, rfl, _⟩ := fuel hn
    rw [f_M_seenBy_l18, if_pos (by rw [iZ_le ⟨by omega, by omega⟩ ⟨by omega, by omega⟩]; omega)]
    refine ⟨τ, ?_, fr_refl _ _⟩
    cases f
    · rw [if_neg ff_tt, if_neg (fun z => ff_tt z.1)]
    · rw [if_pos rfl, if_pos ⟨rfl, fun j h1 h2 => by omega⟩]
  | succ m ih =>
    intro jj n f τ hj hn hm
    obtain ⟨n, rfl, hn'⟩ := fuel hn
    rw [f_M_seenBy_l18, if_neg (by rw [iZ_le ⟨by omega, by omega⟩ ⟨by omega, by omega⟩]; omega), i1]
    cases f
    · rw [if_neg ff_tt, if_pos rfl]
      obtain ⟨τ', k1, k2⟩ := ih (jj + 1) n false τ (by omega) hn' hm
      rw [if_neg ff_tt, if_neg (fun z => ff_tt z.1)] at k1
      exact ⟨τ', by rw [if_neg (fun z => ff_tt z.1)]; exact k1, k2⟩
    · rw [if_pos rfl, if_neg (c := (1 : Int32) = 0) (by decide)]
      obtain ⟨τ1, g1, g2⟩ := alikeM hc hN hp hm (x := (i : Int)) (y := (jj : Int)) (Or.inr ⟨by omega, by omega⟩) (Or.inr ⟨by omega, by omega⟩)
      rw [g1, Option.bind_some, ite_dec]
      by_cases d : rdX a b M E p (i : Int) = rdX a b M E p (jj : Int)
      · rw [if_pos d]
        obtain ⟨τ', k1, k2⟩ := ih (jj + 1) n false τ1 (by omega) hn' (MC_B g2 hm)
        rw [if_neg ff_tt, if_neg (fun z => ff_tt z.1)] at k1
        exact ⟨τ', by rw [if_neg (fun z => z.2 jj (by omega) (Nat.le_refl _) d.symm)]; exact k1, fr_trans g2 k2⟩
      · rw [if_neg d]
        obtain ⟨τ', k1, k2⟩ := ih (jj + 1) n true τ1 (by omega) hn' (MC_B g2 hm)
        rw [if_pos rfl] at k1
        refine ⟨τ', ?_, fr_trans g2 k2⟩
        rw [k1]
        by_cases w : ∀ j, j < i → jj + 1 ≤ j → rdX a b M E p (j : Int) ≠ rdX a b M E p (i : Int)
        · rw [if_pos ⟨rfl, w⟩, if_pos ⟨rfl, fun j h1 h2 => by
            by_cases e : j = jj
            · subst e; exact fun z => d z.symm
            · exact w j h1 (by omega)⟩]
        · rw [if_neg (fun z => w z.2), if_neg (fun z => w (fun j h1 h2 => z.2 j h1 (by omega)))]
theorem seenM {N : Nat} (hc : CVc a b M E) (hN : 10000 ≤ N) {p : Nat} (hp : p ∈ opr) : ∀ (j i n : Nat) (c : Int) (τ : aSt), i + j = (hL a b M E).length → j + 1 ≤ n → MC a b M E τ → ∃ τ', f_M_seenBy_l10 N n (iZ p) (iZ c) (iZ (i : Int)) τ = some (iZ (cnS a b M E p j i c), τ') ∧ fr frBP τ τ' := by
  have hl := hL_le (a := a) (b := b) (M := M) (E := E)
  intro j
  induction j with
  | zero =>
    intro i n c τ hi hn hm
    obtain ⟨n, rfl, _⟩ := fuel hn
    rw [f_M_seenBy_l10, len_m hm, if_pos (stop (by omega))]
    exact ⟨τ, rfl, fr_refl _ _⟩
  | succ j ih =>
    intro i n c τ hi hn hm
    obtain ⟨n, rfl, hn'⟩ := fuel hn
    rw [f_M_seenBy_l10, len_m hm, if_neg (ngo (by omega))]
    obtain ⟨τ1, g1, g2⟩ := seenM1 (N := N) hc hN hp (i := i) (by omega) (c := iZ c) (K := fun (y8 : Int32) (y9 : Int32) (y10 : Int32) (y11 : Int32) σ12 => (if y11 = 0 then f_M_seenBy_l10 N n y8 (y9 + (0 : Int32)) (y10 + (1 : Int32)) σ12 else f_M_seenBy_l10 N n y8 (y9 + (1 : Int32)) (y10 + (1 : Int32)) σ12)) i 0 N true τ (by omega) (by omega) hm
    rw [if_pos rfl] at g1
    suffices hs : ∃ τ', (if (if true = true ∧ (∀ j, j < i → 0 ≤ j → rdX a b M E p (j : Int) ≠ rdX a b M E p (i : Int)) then (1 : Int32) else 0) = 0 then f_M_seenBy_l10 N n (iZ p) (iZ c + (0 : Int32)) (iZ (i : Int) + (1 : Int32)) τ1 else f_M_seenBy_l10 N n (iZ p) (iZ c + (1 : Int32)) (iZ (i : Int) + (1 : Int32)) τ1) = some (iZ (cnS a b M E p j (i + 1) (if nwB a b M E p i = true then c + 1 else c)), τ') ∧ fr frBP τ τ' by
      obtain ⟨τ', h1, h2⟩ := hs
      exact ⟨τ', g1.trans h1, h2⟩
    have eqv : (true = true ∧ ∀ j, j < i → 0 ≤ j → rdX a b M E p (j : Int) ≠ rdX a b M E p (i : Int)) ↔ nwB a b M E p i = true := by
      unfold nwB
      rw [decide_eq_true_eq]
      exact ⟨fun z j h => z.2 j h (Nat.zero_le _), fun z => ⟨rfl, fun j h _ => z j h⟩⟩
    by_cases d : nwB a b M E p i = true
    · rw [if_pos (eqv.mpr d), if_pos d]
      show ∃ τ', (if (1 : Int32) = 0 then _ else f_M_seenBy_l10 N n (iZ p) (iZ c + (1 : Int32)) (iZ (i : Int) + (1 : Int32)) τ1) = _ ∧ _
      rw [if_neg (by decide), i1, show (1 : Int32) = iZ 1 from rfl, iZ_add]
      obtain ⟨τ', k1, k2⟩ := ih (i + 1) n (c + 1) τ1 (by omega) hn' (MC_B g2 hm)
      exact ⟨τ', k1, fr_trans g2 k2⟩
    · rw [if_neg (fun z => d (eqv.mp z)), if_neg d]
      show ∃ τ', (if (0 : Int32) = 0 then f_M_seenBy_l10 N n (iZ p) (iZ c + (0 : Int32)) (iZ (i : Int) + (1 : Int32)) τ1 else _) = _ ∧ _
      rw [if_pos rfl, i1, show (0 : Int32) = iZ 0 from rfl, iZ_add, Int.add_zero]
      obtain ⟨τ', k1, k2⟩ := ih (i + 1) n c τ1 (by omega) hn' (MC_B g2 hm)
      exact ⟨τ', k1, fr_trans g2 k2⟩
theorem seenBy_eq {N : Nat} (hc : CVc a b M E) (hN : 10000 ≤ N) {σ τ : aSt} (hx : RX a b M E σ) (hm : RM a b M E τ) (hp : CP σ) (hg : GI a b σ) (p : Int32) : ∃ r σ' τ', f_X_seenBy N p σ = some (r, σ') ∧ f_M_seenBy N p τ = some (r, τ') ∧ GI a b σ' ∧ fr frG σ σ' ∧ fr frBP τ τ' := by
  obtain ⟨b1, b2, _, _⟩ := cvc_bd hc
  have hl := hL_le (a := a) (b := b) (M := M) (E := E)
  unfold f_X_seenBy f_M_seenBy
  rw [byX hc hN hx hp, byM hc hN hm, Option.bind_some, Option.bind_some]
  by_cases c : gP a b p.toInt = true
  · rw [if_pos c, if_pos c]
    obtain ⟨q, e, hq, nb, nd⟩ := gP_ex c
    rw [e] at c
    rw [lit32 e]
    obtain ⟨σ1, g1, g2, g3, g4, g5⟩ := take_ok hN b1 b2 c hg
    rw [g1, Option.bind_some, lt_eq]
    obtain ⟨σ2, hσ2⟩ : ∃ s, s = f_PrimeGroup_clearSeen σ1 := ⟨_, rfl⟩
    have f2 : fr (fun o _ => Nat.beq o 38) σ1 σ2 := by rw [hσ2]; exact fr_fill (fun _ => rfl)
    have z2 : ∀ s, s < 195 → σ2.1 38 s = 0 := fun s hs => by rw [hσ2]; exact fill_get (row := 38) (by show s < 195; exact hs)
    rw [← hσ2]
    obtain ⟨σ3, k1, k2⟩ := seenX (N := N) hc hq (hL a b M E).length 0 N 0 σ2 (by omega) (by omega) (XC_fr f2 (fun _ => ⟨rfl, rfl, rfl, rfl, rfl⟩) (XC_G g5 hx.2)) (TKN_fr f2 ⟨rfl, rfl, rfl⟩ (fun _ => rfl) (fun _ => rfl) g3) (fun s hs => ⟨fun _ k hk => by omega, fun _ => z2 s hs⟩)
    obtain ⟨τ', l1, l2⟩ := seenM (N := N) hc hN hq (hL a b M E).length 0 N 0 τ (by omega) (by omega) hm.2
    have f3 := fr_trans f2 k2
    refine ⟨_, σ3, τ', k1, l1, GI_fr f3 (fun _ => rfl) (fun _ => rfl) (fun _ => rfl) (fun _ => rfl) g2, fr_trans g5 (frG_of f3 (fun o k z => by have := Nat.eq_of_beq_eq_true z; omega)), l2⟩
  · rw [if_neg c, if_neg c]
    exact ⟨_, σ, τ, rfl, rfl, hg, fr_refl _ _, fr_refl _ _⟩
end BYC
