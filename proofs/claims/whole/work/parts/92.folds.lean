/-! over all primes: bound, traces, firstAlike -/
def fR {S : Type} (g : Nat → S → S) : Nat → Nat → S → S
  | 0, _, s => s
  | j + 1, k, s => fR g j (k + 1) (g k s)
def chk : Nat → List Nat → Bool
  | _, [] => true
  | k, q :: L => Nat.ble k q && chk (q + 1) L
theorem chk_ge : ∀ (L : List Nat) (k : Nat), chk k L = true → ∀ x ∈ L, k ≤ x := by
  intro L
  induction L with
  | nil => intro k _ x hx; cases hx
  | cons q L ih =>
    intro k h x hx
    have h' : (Nat.ble k q && chk (q + 1) L) = true := h
    rw [Bool.and_eq_true, Nat.ble_eq] at h'
    rcases List.mem_cons.mp hx with e | e
    · omega
    · have := ih (q + 1) h'.2 x e; omega
theorem fR_L {S : Type} (g : Nat → S → S) : ∀ (j k : Nat) (L : List Nat) (s : S), chk k L = true → (∀ q ∈ L, q < k + j) → (∀ q s, q ∉ L → k ≤ q → g q s = s) → fR g j k s = L.foldl (fun s q => g q s) s := by
  intro j
  induction j with
  | zero =>
    intro k L s h1 h2 h3
    cases L with
    | nil => rfl
    | cons q L =>
      have a := chk_ge _ _ h1 q (List.mem_cons.mpr (Or.inl rfl))
      have b := h2 q (List.mem_cons.mpr (Or.inl rfl))
      omega
  | succ j ih =>
    intro k L s h1 h2 h3
    show fR g j (k + 1) (g k s) = _
    cases L with
    | nil =>
      rw [h3 k s (fun h => by cases h) (Nat.le_refl _), ih (k + 1) [] s rfl (fun q h => by cases h) (fun q s h1 h2 => h3 q s h1 (by omega))]
    | cons q L =>
      have h' : (Nat.ble k q && chk (q + 1) L) = true := h1
      rw [Bool.and_eq_true, Nat.ble_eq] at h'
      by_cases e : q = k
      · subst e
        show _ = L.foldl (fun s q => g q s) (g q s)
        refine ih (q + 1) L (g q s) h'.2 (fun x hx => by have := h2 x (List.mem_cons.mpr (Or.inr hx)); omega) (fun x s hx hk => h3 x s (fun z => ?_) (by omega))
        rcases List.mem_cons.mp z with z | z
        · omega
        · exact hx z
      · have nk : k ∉ q :: L := fun z => by
          rcases List.mem_cons.mp z with z | z
          · omega
          · have := chk_ge _ _ h'.2 k z; omega
        rw [h3 k s nk (Nat.le_refl _)]
        refine ih (k + 1) (q :: L) s ?_ (fun x hx => by have := h2 x hx; omega) (fun x s hx hk => h3 x s hx (by omega))
        show (Nat.ble (k + 1) q && chk (q + 1) L) = true
        rw [Bool.and_eq_true, Nat.ble_eq]
        exact ⟨by omega, h'.2⟩
theorem apr_drop : ∀ i, i < 25 → apr.drop i = apr.getD i 0 :: apr.drop (i + 1) := by decide +kernel
theorem apr_end : apr.drop 25 = [] := rfl
theorem chk_opr : chk 3 opr = true := by decide +kernel
theorem apr_bd : ∀ i, i < 25 → 2 ≤ apr.getD i 0 ∧ apr.getD i 0 ≤ 97 := by decide +kernel
theorem gP_not {a b : Int} {q : Nat} (h : q ∉ opr) : gP a b q = false := by
  unfold gP
  rw [prm_nat, decide_eq_false h]; rfl
theorem fold_pr {S : Type} (g : Nat → S → S) (hg : ∀ q s, q ∉ opr → g q s = s) (s : S) : fR g 95 3 s = (apr.drop 0).foldl (fun s q => g q s) s := by
  rw [fR_L g 95 3 opr s chk_opr (fun q hq => by have := opr_bd q hq; omega) (fun q s h _ => hg q s h)]
  show _ = opr.foldl (fun s q => g q s) (g 2 s)
  rw [hg 2 s (by decide)]
def gB (a b : Int) (q s : Nat) : Nat := if gP a b q = true then Int.gcd (s : Int) (manyN q a b) else s
def gT (a b : Int) (n : Int) (q : Nat) (s : Int) : Int := if (q : Int) ≤ n ∧ gP a b q = true then s + ((q : Int) + 1 - manyN q a b) else s
section BYC
variable {a b : Int} {M E : Nat}
theorem gP_toInt {q : Nat} (h : q ≤ 97) : gP a b (iZ (q : Int)).toInt = gP a b q := by rw [iZ_int ⟨by omega, by omega⟩]
theorem cp_i {σ : aSt} (hp : CP σ) {i : Nat} (hi : i < 25) : σ.1 87 (iZ (i : Int)).toNatClampNeg = iZ ((apr.getD i 0 : Nat) : Int) := by
  rw [iZ_idx (by omega) (by omega), Int.toNat_natCast]; exact hp i hi
theorem gB_le {q s : Nat} (hs : s ≤ 195) : gB a b q s ≤ 195 := by
  unfold gB
  by_cases c : gP a b q = true
  · rw [if_pos c]
    obtain ⟨q', e, hq, _, _⟩ := gP_ex c
    have e' : q = q' := by omega
    subst e'
    have mb := many_bd hq a b
    have h1 := Int.gcd_dvd_right (s : Int) (manyN q a b)
    have h2 := Int.le_of_dvd (by omega) h1
    omega
  · rw [if_neg c]; exact hs
theorem boundX {N : Nat} (hc : CVc a b M E) (hN : 10000 ≤ N) : ∀ (j i n s : Nat) (σ : aSt), i + j = 25 → j + 1 ≤ n → s ≤ 195 → RX a b M E σ → CP σ → GI a b σ → ∃ σ', f_X_bound_l14 N n (jZ (s : Int)) (25 : Int32) (iZ (i : Int)) σ = some (iZ (((apr.drop i).foldl (fun s q => gB a b q s) s : Nat) : Int), σ') ∧ GI a b σ' ∧ fr frG σ σ' := by
  obtain ⟨b1, b2, _, _⟩ := cvc_bd hc
  intro j
  induction j with
  | zero =>
    intro i n s σ hi hn hs hx hp hg
    obtain ⟨n, rfl, _⟩ := fuel hn
    rw [f_X_bound_l14, if_pos (by rw [show (25 : Int32) = iZ 25 from rfl, iZ_le (bd_lit _ rfl) ⟨by omega, by omega⟩]; omega), j2i, show i = 25 by omega, apr_end]
    exact ⟨σ, rfl, hg, fr_refl _ _⟩
  | succ j ih =>
    intro i n s σ hi hn hs hx hp hg
    obtain ⟨n, rfl, hn'⟩ := fuel hn
    have ab := apr_bd i (by omega)
    rw [f_X_bound_l14, if_neg (by rw [show (25 : Int32) = iZ 25 from rfl, iZ_le (bd_lit _ rfl) ⟨by omega, by omega⟩]; omega), if_pos (by rw [show (0 : Int32) = iZ 0 from rfl, show (25 : Int32) = iZ 25 from rfl, iZ_le (bd_lit _ rfl) ⟨by omega, by omega⟩, iZ_lt ⟨by omega, by omega⟩ (bd_lit _ rfl)]; omega), cp_i hp (by omega), byX hc hN hx hp, Option.bind_some, gP_toInt ab.2, i1, apr_drop i (by omega), List.foldl_cons]
    obtain ⟨q, hq⟩ : ∃ q, q = apr.getD i 0 := ⟨_, rfl⟩
    rw [← hq] at ab ⊢
    have gl := gB_le (a := a) (b := b) (q := q) hs
    by_cases c : gP a b q = true
    · rw [if_pos c]
      obtain ⟨q', e, hq', _, _⟩ := gP_ex c
      have e' : q = q' := by omega
      subst e'
      have mb := many_bd hq' a b
      obtain ⟨σ1, g1, g2, g3⟩ := manyBy_ok hN b1 b2 c hg
      rw [g1, Option.bind_some, i2j ⟨by omega, by omega⟩, gcd_Z hN ⟨by omega, by omega⟩ ⟨by omega, by omega⟩, Option.bind_some]
      have eg : gB a b q s = Int.gcd (s : Int) (manyN q a b) := if_pos c
      rw [eg] at gl ⊢
      obtain ⟨σ', k1, k2, k3⟩ := ih (i + 1) n (Int.gcd (s : Int) (manyN q a b)) σ1 (by omega) hn' gl (RX_G g3 hx) (CP_G g3 hp) g2
      exact ⟨σ', k1, k2, fr_trans g3 k3⟩
    · rw [if_neg c]
      have eg : gB a b q s = s := if_neg c
      rw [eg]
      exact ih (i + 1) n s σ (by omega) hn' hs hx hp hg
theorem boundM {N : Nat} (hc : CVc a b M E) (hN : 10000 ≤ N) {τ : aSt} (hm : RM a b M E τ) : ∀ (j k n s : Nat), k + j = 98 → j + 1 ≤ n → s ≤ 195 → f_M_bound_l9 N τ n (iZ (s : Int)) (iZ (k : Int)) = some (iZ ((fR (gB a b) j k s : Nat) : Int)) := by
  obtain ⟨b1, b2, _, _⟩ := cvc_bd hc
  intro j
  induction j with
  | zero =>
    intro k n s hk hn hs
    obtain ⟨n, rfl, _⟩ := fuel hn
    rw [f_M_bound_l9, if_pos (by rw [show (97 : Int32) = iZ 97 from rfl, iZ_lt (bd_lit _ rfl) ⟨by omega, by omega⟩]; omega)]; rfl
  | succ j ih =>
    intro k n s hk hn hs
    obtain ⟨n, rfl, hn'⟩ := fuel hn
    rw [f_M_bound_l9, if_neg (by rw [show (97 : Int32) = iZ 97 from rfl, iZ_lt (bd_lit _ rfl) ⟨by omega, by omega⟩]; omega), byM hc hN hm, Option.bind_some, gP_toInt (by omega), i1]
    show _ = some (iZ ((fR (gB a b) j (k + 1) (gB a b k s) : Nat) : Int))
    have gl := gB_le (a := a) (b := b) (q := k) hs
    by_cases c : gP a b k = true
    · rw [if_pos c]
      obtain ⟨q', e, hq', _, _⟩ := gP_ex c
      have e' : k = q' := by omega
      subst e'
      have mb := many_bd hq' a b
      have eg : gB a b k s = Int.gcd (s : Int) (manyN k a b) := if_pos c
      rw [eg] at gl
      rw [manyOf_ok hN b1 b2 hq' hm.2.2.1 hm.2.2.2.1, Option.bind_some, i2j ⟨by omega, by omega⟩, i2j ⟨by omega, by omega⟩, common_Z hN ⟨by omega, by omega⟩ ⟨by omega, by omega⟩, Option.bind_some, j2i, ih (k + 1) n _ (by omega) hn' gl, eg]
    · rw [if_neg c, ih (k + 1) n s (by omega) hn' hs, show gB a b k s = s from if_neg c]
theorem bound_eq {N : Nat} (hc : CVc a b M E) (hN : 10000 ≤ N) {σ τ : aSt} (hx : RX a b M E σ) (hm : RM a b M E τ) (hp : CP σ) (hg : GI a b σ) : ∃ r σ', f_X_bound N σ = some (r, σ') ∧ f_M_bound N τ = some r ∧ GI a b σ' ∧ fr frG σ σ' := by
  unfold f_X_bound f_M_bound
  rw [hx.1, hm.1, if_pos (c := true = true) rfl, if_pos (c := true = true) rfl]
  obtain ⟨σ', g1, g2, g3⟩ := boundX (N := N) hc hN 25 0 N 0 σ (by omega) (by omega) (by omega) hx hp hg
  have e := boundM (N := N) hc hN hm 95 3 N 0 (by omega) (by omega) (by omega)
  rw [fold_pr (gB a b) (fun q s h => by unfold gB; rw [gP_not h, if_neg ff_tt])] at e
  exact ⟨_, σ', g1, e, g2, g3⟩
theorem tracesX {N : Nat} (hc : CVc a b M E) (hN : 10000 ≤ N) {m : Int} (hm : 0 ≤ m ∧ m ≤ 97) : ∀ (j i n : Nat) (s : Int) (σ : aSt), i + j = 25 → j + 1 ≤ n → RX a b M E σ → CP σ → GI a b σ → ∃ σ', f_X_traces_l19 N n (iZ m) (jZ s) (25 : Int32) (iZ (i : Int)) σ = some (jZ ((apr.drop i).foldl (fun s q => gT a b m q s) s), σ') ∧ GI a b σ' ∧ fr frG σ σ' := by
  obtain ⟨b1, b2, _, _⟩ := cvc_bd hc
  intro j
  induction j with
  | zero =>
    intro i n s σ hi hn hx hp hg
    obtain ⟨n, rfl, _⟩ := fuel hn
    rw [f_X_traces_l19, if_pos (by rw [show (25 : Int32) = iZ 25 from rfl, iZ_le (bd_lit _ rfl) ⟨by omega, by omega⟩]; omega), show i = 25 by omega, apr_end]
    exact ⟨σ, rfl, hg, fr_refl _ _⟩
  | succ j ih =>
    intro i n s σ hi hn hx hp hg
    obtain ⟨n, rfl, hn'⟩ := fuel hn
    have ab := apr_bd i (by omega)
    rw [f_X_traces_l19, if_neg (by rw [show (25 : Int32) = iZ 25 from rfl, iZ_le (bd_lit _ rfl) ⟨by omega, by omega⟩]; omega), if_pos (by rw [show (0 : Int32) = iZ 0 from rfl, show (25 : Int32) = iZ 25 from rfl, iZ_le (bd_lit _ rfl) ⟨by omega, by omega⟩, iZ_lt ⟨by omega, by omega⟩ (bd_lit _ rfl)]; omega), cp_i hp (by omega), byX hc hN hx hp, Option.bind_some, gP_toInt ab.2, i1, apr_drop i (by omega), List.foldl_cons]
    obtain ⟨q, hq⟩ : ∃ q, q = apr.getD i 0 := ⟨_, rfl⟩
    rw [← hq] at ab ⊢
    have cm : (iZ m < iZ (q : Int)) = (m < q) := iZ_lt ⟨by omega, by omega⟩ ⟨by omega, by omega⟩
    simp only [cm]
    by_cases d : m < q
    · rw [if_pos d, show gT a b m q s = s from if_neg (fun z => by omega)]
      exact ih (i + 1) n s σ (by omega) hn' hx hp hg
    · rw [if_neg d]
      by_cases c : gP a b q = true
      · rw [if_pos c]
        obtain ⟨q', e, hq', _, _⟩ := gP_ex c
        have e' : q = q' := by omega
        subst e'
        have mb := many_bd hq' a b
        obtain ⟨σ1, g1, g2, g3⟩ := manyBy_ok hN b1 b2 c hg
        rw [g1, Option.bind_some, show gT a b m q s = s + ((q : Int) + 1 - manyN q a b) from if_pos ⟨by omega, c⟩, show (1 : Int32) = iZ 1 from rfl, iZ_add, iZ_sub, i2j ⟨by omega, by omega⟩, jZ_add]
        obtain ⟨σ', k1, k2, k3⟩ := ih (i + 1) n (s + ((q : Int) + 1 - manyN q a b)) σ1 (by omega) hn' (RX_G g3 hx) (CP_G g3 hp) g2
        exact ⟨σ', k1, k2, fr_trans g3 k3⟩
      · rw [if_neg c, show gT a b m q s = s from if_neg (fun z => c z.2)]
        exact ih (i + 1) n s σ (by omega) hn' hx hp hg
theorem fR_id {S : Type} (g : Nat → S → S) : ∀ (j k : Nat) (s : S), (∀ q s, k ≤ q → g q s = s) → fR g j k s = s := by
  intro j
  induction j with
  | zero => intro k s h; rfl
  | succ j ih =>
    intro k s h
    show fR g j (k + 1) (g k s) = s
    rw [h k s (Nat.le_refl _)]
    exact ih (k + 1) s (fun q s hq => h q s (by omega))
theorem tracesM {N : Nat} (hc : CVc a b M E) (hN : 10000 ≤ N) {τ : aSt} (hm : RM a b M E τ) {m : Int} (hm1 : 0 ≤ m ∧ m ≤ 97) : ∀ (j k n : Nat) (s : Int), k + j = 98 → j + 1 ≤ n → f_M_traces_l15 N τ n (iZ m) (jZ s) (iZ (k : Int)) = some (jZ (fR (gT a b m) j k s)) := by
  obtain ⟨b1, b2, _, _⟩ := cvc_bd hc
  intro j
  induction j with
  | zero =>
    intro k n s hk hn
    obtain ⟨n, rfl, _⟩ := fuel hn
    rw [f_M_traces_l15, if_pos (by rw [iZ_lt ⟨by omega, by omega⟩ ⟨by omega, by omega⟩]; omega)]; rfl
  | succ j ih =>
    intro k n s hk hn
    obtain ⟨n, rfl, hn'⟩ := fuel hn
    rw [f_M_traces_l15, byM hc hN hm, Option.bind_some, gP_toInt (by omega), i1]
    have cm : (iZ m < iZ (k : Int)) = (m < k) := iZ_lt ⟨by omega, by omega⟩ ⟨by omega, by omega⟩
    simp only [cm]
    by_cases d : m < k
    · rw [if_pos d, fR_id (gT a b m) (j + 1) k s (fun q s hq => if_neg (fun z => by omega))]
    · rw [if_neg d]
      show _ = some (jZ (fR (gT a b m) j (k + 1) (gT a b m k s)))
      by_cases c : gP a b k = true
      · rw [if_pos c]
        obtain ⟨q', e, hq', _, _⟩ := gP_ex c
        have e' : k = q' := by omega
        subst e'
        have mb := many_bd hq' a b
        have eg : gT a b m k s = s + (((k + 1 : Nat) : Int) - manyN k a b) := by
          rw [show gT a b m k s = s + ((k : Int) + 1 - manyN k a b) from if_pos ⟨by omega, c⟩]; omega
        rw [manyOf_ok hN b1 b2 hq' hm.2.2.1 hm.2.2.2.1, Option.bind_some, iZ_sub, i2j ⟨by omega, by omega⟩, jZ_add, ih (k + 1) n _ (by omega) hn', eg]
      · rw [if_neg c, ih (k + 1) n s (by omega) hn', show gT a b m k s = s from if_neg (fun z => c z.2)]
theorem traces_eq {N : Nat} (hc : CVc a b M E) (hN : 10000 ≤ N) {σ τ : aSt} (hx : RX a b M E σ) (hm : RM a b M E τ) (hp : CP σ) (hg : GI a b σ) (n : Int32) : ∃ r σ', f_X_traces N n σ = some (r, σ') ∧ f_M_traces N n τ = some r ∧ GI a b σ' ∧ fr frG σ σ' := by
  have no : ∃ r σ', some ((-9223372036854775808 : Int64), σ) = some (r, σ') ∧ some (-9223372036854775808 : Int64) = some r ∧ GI a b σ' ∧ fr frG σ σ' := ⟨_, σ, rfl, rfl, hg, fr_refl _ _⟩
  unfold f_X_traces f_M_traces
  rw [hx.1, hm.1, if_pos (c := true = true) rfl, if_pos (c := true = true) rfl, show (0 : Int64) = jZ 0 from rfl, show (97 : Int64) = jZ 97 from rfl, in_p (bd_lit _ rfl) (bd_lit _ rfl), ite_dec]
  have q1 : (n < (0 : Int32)) = (n.toInt < 0) := pl_lt (y := 0) (bd_lit _ rfl)
  have q2 : (n ≤ (97 : Int32)) = (n.toInt ≤ 97) := pl_le (y := 97) (bd_lit _ rfl)
  simp only [q1, q2]
  by_cases c : 0 ≤ n.toInt ∧ n.toInt ≤ 97
  · rw [if_pos c, if_neg (show ¬ n.toInt < 0 by omega), if_pos c.2, ← iZ_self n]
    obtain ⟨σ', g1, g2, g3⟩ := tracesX (N := N) hc hN c 25 0 N 0 σ (by omega) (by omega) hx hp hg
    have e := tracesM (N := N) hc hN hm c 95 3 N 0 (by omega) (by omega)
    rw [fold_pr (gT a b n.toInt) (fun q s h => by unfold gT; rw [gP_not h, if_neg (fun z => ff_tt z.2)])] at e
    exact ⟨_, σ', g1, e, g2, g3⟩
  · rw [if_neg c]
    by_cases d : n.toInt < 0
    · rw [if_pos d]; exact no
    · rw [if_neg d, if_neg (show ¬ n.toInt ≤ 97 by omega)]; exact no
end BYC
