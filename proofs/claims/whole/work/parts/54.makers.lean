/-! MAKERS -/
section CLO
variable {a b : Int} {M E : Nat}
noncomputable def mkF (a b : Int) (M E : Nat) : Nat → List Int
  | 0 => []
  | i + 1 => @ite _ (Der a b M E (mkF a b M E i) (i : Int)) (Classical.propDecidable _) (mkF a b M E i) (mkF a b M E i ++ [(i : Int)])
theorem mkF_in {i : Nat} (h : Der a b M E (mkF a b M E i) (i : Int)) : mkF a b M E (i + 1) = mkF a b M E i := if_pos h
theorem mkF_out {i : Nat} (h : ¬ Der a b M E (mkF a b M E i) (i : Int)) : mkF a b M E (i + 1) = mkF a b M E i ++ [(i : Int)] := if_neg h
theorem mkF_len : ∀ i, (mkF a b M E i).length ≤ i
  | 0 => Nat.le_refl 0
  | i + 1 => by
    have := mkF_len i
    rcases Classical.em (Der a b M E (mkF a b M E i) (i : Int)) with h | h
    · rw [mkF_in h]; omega
    · rw [mkF_out h, List.length_append]; show (mkF a b M E i).length + 1 ≤ i + 1; omega
theorem mkF_pre : ∀ (j i : Nat), ∃ t, mkF a b M E (i + j) = mkF a b M E i ++ t
  | 0, i => ⟨[], by rw [List.append_nil]; rfl⟩
  | j + 1, i => by
    obtain ⟨t, ht⟩ := mkF_pre j i
    rcases Classical.em (Der a b M E (mkF a b M E (i + j)) ((i + j : Nat) : Int)) with h | h
    · exact ⟨t, by rw [show i + (j + 1) = i + j + 1 from rfl, mkF_in h]; exact ht⟩
    · exact ⟨t ++ [((i + j : Nat) : Int)], by rw [show i + (j + 1) = i + j + 1 from rfl, mkF_out h, ht, List.append_assoc]⟩
/-- the class: all of them are gathered -/
def MKc (a b : Int) (M E : Nat) (σ : aSt) : Prop := (σ.2.2 26 6 = true ∧ σ.1 26 5 = iZ (mkF a b M E (hL a b M E).length).length ∧ ∀ i m, (mkF a b M E (hL a b M E).length)[i]? = some m → σ.1 29 i = iZ m) ∨ (σ.2.2 26 6 = false ∧ CL26 a b M E [] [1000] σ)
theorem gatL (hc : CV a b M E) {N : Nat} (hN : 10000 ≤ N) : ∀ (j n i : Nat) (mem : List Int) (σ : aSt), XC a b M E σ → CL26 a b M E (mkF a b M E i) mem σ → 1000 ∈ mem → (∀ m ∈ mkF a b M E i, m ∈ mem) → (∀ y ∈ mem, Der a b M E (mkF a b M E i) y) → (∀ y ∈ mem, clo a b M E (mkF a b M E i) mem y) → i + j = (hL a b M E).length → j + 1 ≤ n → ∃ σ' mem', f_Closure_gather_26_l6 N n (iZ i) σ = some (s_b σ' 26 6 true) ∧ fr frC26 σ σ' ∧ CL26 a b M E (mkF a b M E (hL a b M E).length) mem' σ' := by
  have hl := hL_le (a := a) (b := b) (M := M) (E := E)
  intro j
  induction j with
  | zero =>
    intro n i mem σ hx hcl h0 hin hs hclo hi hn
    obtain ⟨n, rfl, hn⟩ := fuel hn
    have e : i = (hL a b M E).length := by omega
    rw [f_Closure_gather_26_l6]
    unfold f_Sums_shown
    rw [shownZ hx, if_pos (stop e)]
    exact ⟨σ, mem, rfl, fr_refl _ _, by rw [← e]; exact hcl⟩
  | succ j ih =>
    intro n i mem σ hx hcl h0 hin hs hclo hi hn
    obtain ⟨n, rfl, hn⟩ := fuel hn
    rw [f_Closure_gather_26_l6]
    unfold f_Sums_shown
    rw [shownZ hx, if_neg (ngo (by omega)), pick_in (by decide) (by decide) (by omega) (by show (i : Int) < (120 : Nat); omega), Int.toNat_natCast, i1]
    have hall := Der_iff h0 hin hclo hs (i : Int)
    rcases hcl.2.2.2.2.2.2.2.2 i (by omega) with ⟨q1, q2⟩ | ⟨q1, q2⟩
    · rw [if_neg (by rw [q1]; exact fun h => h rfl)]
      have hnd : ¬ Der a b M E (mkF a b M E i) (i : Int) := fun h => q2 (hall.mpr h)
      have hml := mkF_len (a := a) (b := b) (M := M) (E := E) i
      obtain ⟨t, σ1, g1, g2, g3, g4, g5, g6⟩ := add26 hc hN hx hcl h0 (m := (i : Int)) (Or.inr ⟨by omega, by omega⟩) (by omega) hs hclo
      rw [g1, Option.bind_some]
      rw [← mkF_out hnd] at g2 g4 g5
      obtain ⟨σ', mem', r1, r2, r3⟩ := ih n (i + 1) (mem ++ t) σ1 (XC_C26 g3 hx) g2 (List.mem_append_left _ h0) (fun m hm => by
        rw [mkF_out hnd] at hm
        rcases List.mem_append.mp hm with q | q
        · exact List.mem_append_left _ (hin m q)
        · rw [List.mem_singleton] at q; subst q; exact g6) g4 g5 (by omega) (by omega)
      exact ⟨σ', mem', r1, fr_trans g3 r2, r3⟩
    · rw [if_pos (by rw [q1]; decide)]
      have hd : Der a b M E (mkF a b M E i) (i : Int) := hall.mp q2
      have e := mkF_in hd
      exact ih n (i + 1) mem σ hx (by rw [e]; exact hcl) h0 (by rw [e]; exact hin) (by rw [e]; exact hs) (by rw [e]; exact hclo) (by omega) (by omega)
theorem gather_c (hc : CV a b M E) {N : Nat} (hN : 10000 ≤ N) {σ : aSt} (hx : XC a b M E σ) (hm : MKc a b M E σ) : ∃ σ', f_Closure_gather_26 N σ = some σ' ∧ fr frC26 σ σ' ∧ σ'.2.2 26 6 = true ∧ σ'.1 26 5 = iZ (mkF a b M E (hL a b M E).length).length ∧ ∀ i m, (mkF a b M E (hL a b M E).length)[i]? = some m → σ'.1 29 i = iZ m := by
  have hl := hL_le (a := a) (b := b) (M := M) (E := E)
  unfold f_Closure_gather_26
  rcases hm with ⟨h1, h2, h3⟩ | ⟨h1, h2⟩
  · rw [h1, if_pos rfl]
    exact ⟨σ, rfl, fr_refl _ _, h1, h2, h3⟩
  · rw [h1, if_neg (by decide)]
    obtain ⟨σ', mem', g1, g2, g3⟩ := gatL hc hN (hL a b M E).length N 0 [1000] σ hx h2 List.mem_cons_self (fun m hm => by cases hm) (fun y hy => by rw [List.mem_singleton] at hy; subst hy; exact Der_0 _) (fun y hy m hmm => by cases hmm) (Nat.zero_add _) (by omega)
    rw [show (0 : Int32) = iZ ((0 : Nat) : Int) from rfl, g1]
    exact ⟨_, rfl, fr_trans g2 (fr_sb rfl), sb_eq _ _ _ _, g3.1, g3.2.2.1⟩
/-- the reference: one by one -/
theorem mmkL (hc : CV a b M E) {N : Nat} (hN : 10000 ≤ N) {k : Int} (hk : -1 ≤ k ∧ k < 2147483648) : ∀ (j n i : Nat) (τ : aSt), MC a b M E τ → TD a b M E (mkF a b M E i) τ → (∀ l, l ≤ 120 → (τ.2.2 84 l = true ↔ (pnt a b M E (cvk l) ∧ Der a b M E (mkF a b M E i) (cvk l)))) → i + j = (hL a b M E).length → j + 1 ≤ n → (k = -1 ∨ ((mkF a b M E i).length : Int) ≤ k) → ∃ τ', f_M_makers_l15 N n (iZ k) (iZ i) τ = some ((if k = -1 then iZ (mkF a b M E (hL a b M E).length).length else iZ (((mkF a b M E (hL a b M E).length)[k.toNat]?).getD (-1))), τ') ∧ fr frJ τ τ' := by
  have hl := hL_le (a := a) (b := b) (M := M) (E := E)
  have m1 : (-1 : Int32) = iZ (-1) := by decide
  intro j
  induction j with
  | zero =>
    intro n i τ hm ht hin hi hn hkl
    obtain ⟨n, rfl, hn⟩ := fuel hn
    have e : i = (hL a b M E).length := by omega
    rw [f_M_makers_l15, len_m hm, if_pos (stop e), m1, ht.1, e]
    rw [e] at hkl
    by_cases c : k = -1
    · rw [if_neg (by rw [c]; exact fun h => h rfl), if_pos c]
      exact ⟨τ, rfl, fr_refl _ _⟩
    · rw [if_pos (by rw [ne_eq, iZ_eq ⟨by omega, by omega⟩ (bd_lit _ rfl)]; exact c), if_neg c, List.getElem?_eq_none (by omega)]
      exact ⟨τ, rfl, fr_refl _ _⟩
  | succ j ih =>
    intro n i τ hm ht hin hi hn hkl
    obtain ⟨n, rfl, hn⟩ := fuel hn
    have hml := mkF_len (a := a) (b := b) (M := M) (E := E) i
    have hcv : cvk i = (i : Int) := by unfold cvk; rw [if_neg (by omega)]
    have hit := hin i (by omega)
    rw [hcv] at hit
    have hpn : pnt a b M E (i : Int) := Or.inr ⟨by omega, by omega⟩
    rw [f_M_makers_l15, len_m hm, if_neg (ngo (by omega)), if_pos (by rw [iZ_lit, iZ_lit, iZ_le (bd_lit _ rfl) ⟨by omega, by omega⟩, iZ_lt ⟨by omega, by omega⟩ (bd_lit _ rfl)]; omega), iZ_idx (by omega) (by omega), Int.toNat_natCast, ht.1, i1, i1]
    by_cases ci : τ.2.2 84 i = true
    · rw [if_pos ci]
      have e := mkF_in (hit.mp ci).2
      exact ih n (i + 1) τ hm (by rw [e]; exact ht) (by rw [e]; exact hin) (by omega) (by omega) (by rw [e]; exact hkl)
    · rw [if_neg ci]
      have hnd : ¬ Der a b M E (mkF a b M E i) (i : Int) := fun h => ci (hit.mpr ⟨hpn, h⟩)
      have e := mkF_out hnd
      by_cases ck : ((mkF a b M E i).length : Int) = k
      · rw [if_neg (by rw [ck]; exact fun h => h rfl)]
        refine ⟨τ, ?_, fr_refl _ _⟩
        obtain ⟨t, ht2⟩ := mkF_pre (a := a) (b := b) (M := M) (E := E) j (i + 1)
        rw [show i + 1 + j = (hL a b M E).length from by omega, e] at ht2
        rw [if_neg (by omega), ht2, show k.toNat = (mkF a b M E i).length from by omega, List.append_assoc, List.getElem?_append_right (Nat.le_refl _), Nat.sub_self]
        rfl
      · rw [if_pos (by rw [ne_eq, iZ_eq ⟨by omega, by omega⟩ ⟨by omega, by omega⟩]; exact ck), if_pos (by rw [iZ_lit, iZ_lit, iZ_le (bd_lit _ rfl) ⟨by omega, by omega⟩, iZ_lt ⟨by omega, by omega⟩ (bd_lit _ rfl)]; omega), iZ_idx (by omega) (by omega), Int.toNat_natCast]
        obtain ⟨τ0, hτ0⟩ : ∃ τ0, τ0 = s_i (s_i τ 85 (mkF a b M E i).length (iZ (i : Int))) 66 55 (iZ (((mkF a b M E i).length + 1 : Nat) : Int)) := ⟨_, rfl⟩
        rw [← hτ0]
        have hJ85 : ∀ k, frJ 85 k = true := fun k => rfl
        have f0 : fr frJ τ τ0 := by rw [hτ0]; exact fr_trans (fr_si (hJ85 _)) (fr_si rfl)
        have ht0 : TD a b M E (mkF a b M E (i + 1)) τ0 := by
          rw [e]
          refine ⟨by rw [hτ0, si_eq, List.length_append]; rfl, by rw [List.length_append]; show (mkF a b M E i).length + 1 ≤ 120; omega, fun l m hlm => ?_, fun m hm => ?_⟩
          · rcases get_snoc hlm with ⟨p1, p2⟩ | ⟨p1, p2⟩
            · rw [hτ0, si_ne (Or.inl (by decide)), si_ne (Or.inr (by omega))]; exact ht.2.2.1 l m p2
            · subst p1; subst p2
              rw [hτ0, si_ne (Or.inl (by decide)), si_eq]
          · rcases List.mem_append.mp hm with q | q
            · exact ht.2.2.2 m q
            · rw [List.mem_singleton] at q; subst q; exact hpn
        obtain ⟨τ1, g1, g2, g3, g4⟩ := laysIn_ok hc hN (MC_fr f0 okJ hm) ht0
        rw [g1, Option.bind_some]
        have f1 := fr_trans f0 (frI_J g2)
        obtain ⟨τ', r1, r2⟩ := ih n (i + 1) τ1 (MC_fr f1 okJ hm) g3 g4 (by omega) (by omega) (by
          rcases hkl with q | q
          · exact Or.inl q
          · refine Or.inr ?_
            rw [e, List.length_append]
            show (((mkF a b M E i).length + 1 : Nat) : Int) ≤ k
            omega)
        exact ⟨τ', r1, fr_trans f1 r2⟩
theorem mkF_el {i : Nat} {m : Int} (hi : (mkF a b M E (hL a b M E).length)[i]? = some m) : 0 ≤ m ∧ m < 120 := by
  have hl := hL_le (a := a) (b := b) (M := M) (E := E)
  have : ∀ (n : Nat) (m : Int), m ∈ mkF a b M E n → 0 ≤ m ∧ m < n := by
    intro n
    induction n with
    | zero => intro m hm; cases hm
    | succ n ih =>
      intro m hm
      rcases Classical.em (Der a b M E (mkF a b M E n) (n : Int)) with h | h
      · rw [mkF_in h] at hm
        have := ih m hm; omega
      · rw [mkF_out h] at hm
        rcases List.mem_append.mp hm with q | q
        · have := ih m q; omega
        · rw [List.mem_singleton] at q; omega
  have := this _ m (List.mem_of_getElem? hi)
  omega
theorem makers_eq {N : Nat} (hc : CV a b M E) (hN : 10000 ≤ N) {σ τ : aSt} (hx : RX a b M E σ) (hk : MKc a b M E σ) (hm : RM a b M E τ) (p : Int32) : ∃ r σ' τ', f_X_makers N p σ = some (r, σ') ∧ f_M_makers N p τ = some (r, τ') ∧ fr frC26 σ σ' ∧ MKc a b M E σ' ∧ fr frJ τ τ' := by
  have hl := hL_le (a := a) (b := b) (M := M) (E := E)
  have hml := mkF_len (a := a) (b := b) (M := M) (E := E) (hL a b M E).length
  unfold f_X_makers f_M_makers
  rw [hx.1, hm.1, if_pos (c := true = true) rfl, if_pos (c := true = true) rfl]
  have m1 : (-1 : Int32) = iZ (-1) := by decide
  rw [m1]
  have q1 : (iZ (-1) ≤ p) = (-1 ≤ p.toInt) := pl_ge (bd_lit _ rfl)
  simp only [q1]
  by_cases c : -1 ≤ p.toInt
  · rw [if_pos c, if_pos c]
    have pb := i_bd p
    obtain ⟨k, hke⟩ : ∃ k, k = p.toInt := ⟨_, rfl⟩
    have ep : p = iZ k := lit32 hke.symm
    rw [← hke] at c pb
    rw [ep]
    obtain ⟨σ', g1, g2, g3, g4, g5⟩ := gather_c hc hN hx.2 hk
    rw [g1, Option.bind_some]
    unfold f_Closure_makerCount_26 f_Closure_maker_26
    rw [g4]
    -- the reference
    obtain ⟨τ0, hτ0⟩ : ∃ τ0, τ0 = s_i τ 66 55 (0 : Int32) := ⟨_, rfl⟩
    rw [← hτ0]
    have f0 : fr frJ τ τ0 := by rw [hτ0]; exact fr_si rfl
    have ht0 : TD a b M E (mkF a b M E 0) τ0 := ⟨by rw [hτ0]; rfl, Nat.zero_le _, (fun i m hi => by cases hi), (fun m hmm => by cases hmm)⟩
    obtain ⟨τ1, r1, r2, r3, r4⟩ := laysIn_ok hc hN (MC_fr f0 okJ hm.2) ht0
    rw [r1, Option.bind_some]
    have f1 := fr_trans f0 (frI_J r2)
    obtain ⟨τ', s1, s2⟩ := mmkL hc hN (k := k) ⟨c, by omega⟩ (hL a b M E).length N 0 τ1 (MC_fr f1 okJ hm.2) r3 r4 (Nat.zero_add _) (by omega) (by
      by_cases ck : k = -1
      · exact Or.inl ck
      · exact Or.inr (by show (0 : Int) ≤ k; omega))
    rw [show (0 : Int32) = iZ ((0 : Nat) : Int) from rfl, s1]
    have hkc : MKc a b M E σ' := Or.inl ⟨g3, g4, g5⟩
    by_cases ck : k = -1
    · rw [if_neg (by rw [ck]; exact fun h => h rfl), if_pos ck]
      exact ⟨_, σ', τ', rfl, rfl, g2, hkc, fr_trans f1 s2⟩
    · rw [if_pos (by rw [ne_eq, iZ_eq ⟨by omega, by omega⟩ (bd_lit _ rfl)]; exact ck), if_neg ck]
      by_cases cl : ((mkF a b M E (hL a b M E).length).length : Int) ≤ k
      · rw [if_pos (by rw [iZ_le ⟨by omega, by omega⟩ ⟨by omega, by omega⟩]; exact cl), List.getElem?_eq_none (by omega)]
        exact ⟨_, σ', τ', rfl, rfl, g2, hkc, fr_trans f1 s2⟩
      · rw [if_neg (by rw [iZ_le ⟨by omega, by omega⟩ ⟨by omega, by omega⟩]; exact cl), pick_in (by decide) (by decide) (by omega) (by show k < ((120 : Nat) : Int); omega)]
        obtain ⟨m, hmm⟩ := get_some (L := mkF a b M E (hL a b M E).length) (i := k.toNat) (by omega)
        rw [hmm, g5 _ m hmm]
        exact ⟨_, σ', τ', rfl, rfl, g2, hkc, fr_trans f1 s2⟩
  · rw [if_neg c, if_neg c]
    exact ⟨_, σ, τ, rfl, rfl, fr_refl _ _, hk, fr_refl _ _⟩
end CLO
