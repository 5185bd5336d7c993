/-! CLASSES: kinds and counts, both programs (printed by g981.py) -/
noncomputable def mdB (A B : Int) (k : Nat) : Bool := @decide (Md (cdN B.natAbs) (fdK A B (cdN B.natAbs)) k) (Classical.propDecidable _)
theorem mdB_iff {A B : Int} {k : Nat} : mdB A B k = true ↔ Md (cdN B.natAbs) (fdK A B (cdN B.natAbs)) k := by
  unfold mdB
  exact @decide_eq_true_iff _ (Classical.propDecidable _)
noncomputable def kdF (A B : Int) (j : Nat) (k : Nat) : Bool := match j with
  | 0 => true
  | 1 => fdK A B (cdN B.natAbs) k
  | 2 => psK A B (cdN B.natAbs) k
  | _ + 3 => mdB A B k
noncomputable def kdC (A B : Int) (j : Nat) : Nat := cnB (kdF A B j) (2 * (cdN B.natAbs).length)
theorem cnB_all : ∀ n, cnB (fun _ => true) n = n := by
  intro n
  induction n with
  | zero => rfl
  | succ n ih => rw [cnB_s, ih, if_pos rfl]
theorem kdC_0 (A B : Int) : kdC A B 0 = 2 * (cdN B.natAbs).length := cnB_all _
theorem kdC_le (A B : Int) (j : Nat) : kdC A B j ≤ 2 * (cdN B.natAbs).length := cnB_le _ _
theorem cd_len {A B : Int} (h : VC A B) : (cdN B.natAbs).length ≤ 32 := by
  obtain ⟨L, σ', _, hc, _⟩ := gather_41 (N := 10000) (Nat.le_refl _) h.2.1 h.2.2.1 (σ := s_i (fun _ _ => 0, fun _ _ => 0, fun _ _ => false) 41 9 (iZ B)) (si_eq _ _ _ _)
  have := ct_len hc
  rw [← ct_cd h hc, List.length_map]; exact this
/-- halvings -/
def hlv (v : Nat) : Nat := bln v - 1
theorem bool_eq {x y : Bool} (h : x = true ↔ y = true) : x = y := by
  cases x with
  | false => cases y with
    | false => rfl
    | true => exact absurd (h.mpr rfl) ff_tt
  | true => exact (h.mp rfl).symm
theorem many_k {N : Nat} {A B : Int} (hL : (cdN B.natAbs).length ≤ 32) {τ : aSt} (h : MTb A B τ) {w : Nat} (hw : w < 4) : ∀ (j k n : Nat), k + j = 2 * (cdN B.natAbs).length → j + 1 ≤ n → f_M_manyOfKind_l4 N τ n (iZ (w : Int)) (iZ ((cnB (kdF A B w) k : Nat) : Int)) (iZ (k : Int)) = some (iZ ((kdC A B w : Nat) : Int)) := by
  obtain ⟨h1, h2, h3⟩ := h
  intro j
  induction j with
  | zero =>
    intro k n hk hn
    obtain ⟨n, rfl, _⟩ := fuel hn
    have e : k = 2 * (cdN B.natAbs).length := by omega
    subst e
    rw [f_M_manyOfKind_l4, h2.1, if_pos (by rw [iZ_le ⟨by omega, by omega⟩ ⟨by omega, by omega⟩]; omega)]
    rfl
  | succ j ih =>
    intro k n hk hn
    obtain ⟨n, rfl, hn'⟩ := fuel hn
    have hk2 : k < 2 * (cdN B.natAbs).length := by omega
    obtain ⟨⟨r1, r2, r3⟩, r4⟩ := h3 k hk2
    have r4' : τ.2.2 78 k = mdB A B k := bool_eq (r4.trans mdB_iff.symm)
    have ci : 0 ≤ iZ (k : Int) ∧ iZ (k : Int) < (64 : Int32) := by rw [show (0 : Int32) = iZ 0 from rfl, show (64 : Int32) = iZ 64 from rfl, iZ_le (bd_lit _ rfl) ⟨by omega, by omega⟩, iZ_lt ⟨by omega, by omega⟩ (bd_lit _ rfl)]; omega
    have nx := ih (k + 1) n (by omega) hn'
    rw [cnB_s] at nx
    have z0 : ∀ x : Nat, iZ (x : Int) + (0 : Int32) = iZ ((x + 0 : Nat) : Int) := fun x => by rw [show (0 : Int32) = iZ 0 from rfl, iZ_add]; rfl
    rw [f_M_manyOfKind_l4, h2.1, if_neg (by rw [iZ_le ⟨by omega, by omega⟩ ⟨by omega, by omega⟩]; omega), if_pos ci, iZ_idx (by omega) (by omega), Int.toNat_natCast, i1, i1, z0, r1, r3, r4']
    match w, hw with
    | 0, _ =>
      rw [if_pos (show iZ ((0 : Nat) : Int) = 0 from rfl)]
      exact nx
    | 1, _ =>
      rw [if_neg (show ¬ iZ ((1 : Nat) : Int) = 0 by decide), if_neg (show ¬ iZ ((1 : Nat) : Int) ≠ (1 : Int32) from fun z => z rfl), if_pos ci]
      have nx' : f_M_manyOfKind_l4 N τ n (iZ ((1 : Nat) : Int)) (iZ ((cnB (kdF A B 1) k + (if fdK A B (cdN B.natAbs) k = true then 1 else 0) : Nat) : Int)) (iZ ((k + 1 : Nat) : Int)) = some (iZ ((kdC A B 1 : Nat) : Int)) := nx
      by_cases c : fdK A B (cdN B.natAbs) k = true
      · rw [if_pos c] at nx' ⊢; exact nx'
      · rw [if_neg c] at nx' ⊢
        rw [if_pos (show iZ ((1 : Nat) : Int) ≠ (2 : Int32) by decide), if_pos (show iZ ((1 : Nat) : Int) ≠ (3 : Int32) by decide)]
        exact nx'
    | 2, _ =>
      rw [if_neg (show ¬ iZ ((2 : Nat) : Int) = 0 by decide), if_pos (show iZ ((2 : Nat) : Int) ≠ (1 : Int32) by decide), if_neg (show ¬ iZ ((2 : Nat) : Int) ≠ (2 : Int32) from fun z => z rfl), if_pos ci]
      have nx' : f_M_manyOfKind_l4 N τ n (iZ ((2 : Nat) : Int)) (iZ ((cnB (kdF A B 2) k + (if psB A B (dvK (cdN B.natAbs) k) = true then 1 else 0) : Nat) : Int)) (iZ ((k + 1 : Nat) : Int)) = some (iZ ((kdC A B 2 : Nat) : Int)) := nx
      by_cases c : psB A B (dvK (cdN B.natAbs) k) = true
      · rw [if_pos c] at nx' ⊢; exact nx'
      · rw [if_neg c] at nx' ⊢
        rw [if_pos (show iZ ((2 : Nat) : Int) ≠ (3 : Int32) by decide)]
        exact nx'
    | 3, _ =>
      rw [if_neg (show ¬ iZ ((3 : Nat) : Int) = 0 by decide), if_pos (show iZ ((3 : Nat) : Int) ≠ (1 : Int32) by decide), if_pos (show iZ ((3 : Nat) : Int) ≠ (2 : Int32) by decide), if_neg (show ¬ iZ ((3 : Nat) : Int) ≠ (3 : Int32) from fun z => z rfl)]
      have nx' : f_M_manyOfKind_l4 N τ n (iZ ((3 : Nat) : Int)) (iZ ((cnB (kdF A B 3) k + (if mdB A B k = true then 1 else 0) : Nat) : Int)) (iZ ((k + 1 : Nat) : Int)) = some (iZ ((kdC A B 3 : Nat) : Int)) := nx
      by_cases c : mdB A B k = true
      · rw [if_pos c] at nx' ⊢; exact nx'
      · rw [if_neg c] at nx' ⊢; exact nx'
    | n + 4, h => exact absurd h (by omega)
theorem manyOf_k {N : Nat} (hN : 10000 ≤ N) {A B : Int} (hL : (cdN B.natAbs).length ≤ 32) {τ : aSt} (h : MTb A B τ) {w : Nat} (hw : w < 4) : f_M_manyOfKind N (iZ (w : Int)) τ = some (iZ ((kdC A B w : Nat) : Int)) := by
  unfold f_M_manyOfKind
  exact many_k hL h hw (2 * (cdN B.natAbs).length) 0 N (by omega) (by omega)
theorem shr_tab : ∀ v, v < 65 → ∀ s, s < 8 → ((iZ ((v : Nat) : Int) >>> (iZ ((s + 1 : Nat) : Int) &&& 31)) ≤ 0 ↔ bln v ≤ s + 1) := by decide +kernel
theorem twos_l {N v : Nat} (hv : v ≤ 64) : ∀ (j s n : Nat), s + j = 7 → j + 1 ≤ n → s ≤ hlv v → f_M_twosIn_l2 N n (iZ (v : Int)) (iZ (s : Int)) = some (iZ ((hlv v : Nat) : Int)) := by
  have b7 : bln v ≤ 7 := by
    rcases Nat.lt_or_ge 7 (bln v) with q | q
    · have := bln_iff.mp q; omega
    · exact q
  unfold hlv
  intro j
  induction j with
  | zero =>
    intro s n hs hn hl
    omega
  | succ j ih =>
    intro s n hs hn hl
    obtain ⟨n, rfl, hn'⟩ := fuel hn
    have t := shr_tab v (by omega) s (by omega)
    rw [f_M_twosIn_l2, i1]
    by_cases c : bln v ≤ s + 1
    · rw [if_pos (t.mpr c), show bln v - 1 = s by omega]
    · rw [if_neg (fun z => c (t.mp z))]
      exact ih (s + 1) n (by omega) hn' (by omega)
theorem twosIn_k {N : Nat} (hN : 10000 ≤ N) {v : Nat} (hv : v ≤ 64) : f_M_twosIn N (iZ (v : Int)) = some (iZ ((hlv v : Nat) : Int)) := by
  unfold f_M_twosIn
  exact twos_l hv 7 0 N (by omega) (by omega) (Nat.zero_le _)
theorem VC_0 {a b : Int} {M E : Nat} (h : CVc a b M E) : VC a b := ⟨bd_mono h.1 (by decide), bd_mono h.2.1 (by decide), h.2.2.1, h.2.2.2.1⟩
theorem VC_1 {a b : Int} (h1 : bd 60 a) (h2 : bd 200 b) (h3 : b ≠ 0) (h4 : a * a - 4 * b ≠ 0) : VC (-2 * a) (a * a - 4 * b) := by
  have q1 := h1.1; have q2 := h1.2; have q3 := h2.1; have q4 := h2.2
  have ab := bd_mul h1 h1
  have q5 := ab.1; have q6 := ab.2
  refine ⟨⟨by omega, by omega⟩, ⟨by omega, by omega⟩, h4, ?_⟩
  have e : -2 * a * (-2 * a) - 4 * (a * a - 4 * b) = 16 * b := by grind
  rw [e]; omega
