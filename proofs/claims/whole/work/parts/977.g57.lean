/-! CLASSES: the class's table 57, its divisors (printed by g977.py) -/
def XA_57 (L : List (Nat × Nat)) (σ : aSt) : Prop := ∀ k, k < L.length → σ.1 58 k = iZ ((L.getD k (0, 0)).1 : Int) ∧ σ.1 59 k = iZ ((L.getD k (0, 0)).2 : Int)
def frE_57 : Nat → Nat → Bool := fun o _ => Nat.beq o 58 || Nat.beq o 59
def frD_57 : Nat → Nat → Bool := fun o k => Nat.beq o 58 || Nat.beq o 59 || (Nat.beq o 57 && Nat.beq k 7)
theorem frE_57_D {σ σ' : aSt} (h : fr frE_57 σ σ') : fr frD_57 σ σ' := fr_mono h (fun o k q => by
  unfold frD_57 at q
  rw [Bool.or_eq_false_iff] at q
  exact q.1)
theorem stD_57 {τ : aSt} {v : Int32} {k : Nat} (h : k < 32) : f_store τ 58 (iZ (k : Int)) v = s_i τ 58 k v := stN (n := 32) (by decide) rfl (by omega) h
theorem stK_57 {τ : aSt} {v : Int32} {k : Nat} (h : k < 32) : f_store τ 59 (iZ (k : Int)) v = s_i τ 59 k v := stN (n := 32) (by decide) rfl (by omega) h
theorem pkD_57 {τ : aSt} {k : Nat} (h : k < 32) : f_pick τ 58 (iZ (k : Int)) = τ.1 58 k := pkN (n := 32) (by decide) rfl (by omega) h
theorem pkK_57 {τ : aSt} {k : Nat} (h : k < 32) : f_pick τ 59 (iZ (k : Int)) = τ.1 59 k := pkN (n := 32) (by decide) rfl (by omega) h
theorem XA_57_fr {S : Nat → Nat → Bool} {L : List (Nat × Nat)} {σ σ' : aSt} (hf : fr S σ σ') (h1 : ∀ k, S 58 k = false) (h2 : ∀ k, S 59 k = false) (h : XA_57 L σ) : XA_57 L σ' := fun k hk => ⟨by rw [(hf 58 k (h1 k)).1]; exact (h k hk).1, by rw [(hf 59 k (h2 k)).1]; exact (h k hk).2⟩
theorem XA_57_set {P R : List (Nat × Nat)} {z : Nat × Nat} {σ : aSt} (z' : Nat × Nat) (h : XA_57 (P ++ z :: R) σ) : XA_57 (P ++ z' :: R) (s_i (s_i σ 58 P.length (iZ (z'.1 : Int))) 59 P.length (iZ (z'.2 : Int))) := fun k hk => by
  have hk' : k < (P ++ z :: R).length := by rw [List.length_append] at hk ⊢; exact hk
  have h0 := h k hk'
  rw [gA] at h0 ⊢
  by_cases c : k = P.length
  · subst c
    rw [if_neg (Nat.lt_irrefl _), if_pos rfl]
    exact ⟨by rw [si_ne (Or.inl (by decide)), si_eq], si_eq _ _ _ _⟩
  · rw [if_neg c] at h0 ⊢
    exact ⟨by rw [si_ne (Or.inl (by decide)), si_ne (Or.inr c)]; exact h0.1, by rw [si_ne (Or.inr c), si_ne (Or.inl (by decide))]; exact h0.2⟩
theorem XA_57_push {M : List (Nat × Nat)} {σ : aSt} (z : Nat × Nat) (h : XA_57 M σ) : XA_57 (M ++ [z]) (s_i (s_i σ 58 M.length (iZ (z.1 : Int))) 59 M.length (iZ (z.2 : Int))) := fun k hk => by
  rw [List.length_append] at hk
  have hk' : k < M.length + 1 := hk
  rw [gA]
  by_cases c : k = M.length
  · subst c
    rw [if_neg (Nat.lt_irrefl _), if_pos rfl]
    exact ⟨by rw [si_ne (Or.inl (by decide)), si_eq], si_eq _ _ _ _⟩
  · rw [if_pos (show k < M.length by omega)]
    have h0 := h k (by omega)
    exact ⟨by rw [si_ne (Or.inl (by decide)), si_ne (Or.inr c)]; exact h0.1, by rw [si_ne (Or.inr c), si_ne (Or.inl (by decide))]; exact h0.2⟩
theorem srt18_57 {N i : Nat} {x : Nat × Nat} (hx : x.1 ≤ 20000000) {K : Int32 → Int32 → Int32 → Int32 → aSt → Option aSt} {R : List (Nat × Nat)} : ∀ (k n : Nat) (P Q : List (Nat × Nat)) (z : Nat × Nat) (σ : aSt), P.length = k → k + 1 ≤ n → k + Q.length + 1 ≤ 32 → (∀ y ∈ P, y.1 ≤ 20000000) → (∀ y ∈ Q, x.1 < y.1) → srtW (P ++ Q) → XA_57 (P ++ z :: (Q ++ R)) σ → ∃ P' Q' z' σ', f_ClassTable_sortDivisors_57_l18 N K n (iZ i) (iZ (x.1 : Int)) (iZ (x.2 : Int)) (iZ k) σ = K (iZ i) (iZ (x.1 : Int)) (iZ (x.2 : Int)) (iZ (P'.length : Int)) σ' ∧ P' ++ Q' = P ++ Q ∧ P' ++ x :: Q' = insP x (P ++ Q) ∧ P'.length < 32 ∧ XA_57 (P' ++ z' :: (Q' ++ R)) σ' ∧ fr frE_57 σ σ' := by
  intro k
  induction k with
  | zero =>
    intro n P Q z σ hP hn hl hb hQ hs hX
    obtain ⟨n, rfl, _⟩ := fuel hn
    have e : P = [] := List.length_eq_zero_iff.mp hP
    subst e
    rw [f_ClassTable_sortDivisors_57_l18, if_pos (by rw [show (0 : Int32) = iZ 0 from rfl, iZ_le (bd_lit _ rfl) (bd_lit _ rfl)]; exact Int.le_refl _)]
    exact ⟨[], Q, z, σ, rfl, rfl, (insP_at x Q hQ [] (fun y hy => (by cases hy))).symm, by show 0 < 32; omega, hX, fr_refl _ _⟩
  | succ k ih =>
    intro n P Q z σ hP hn hl hb hQ hs hX
    obtain ⟨n, rfl, hn'⟩ := fuel hn
    obtain ⟨P0, y, rfl, hP0⟩ := snoc hP
    have hy := hb y (List.mem_append.mpr (Or.inr (List.mem_singleton.mpr rfl)))
    have ey : (P0 ++ [y]) ++ z :: (Q ++ R) = P0 ++ y :: (z :: (Q ++ R)) := by rw [List.append_assoc]; rfl
    have hy0 := hX k (by rw [List.length_append, hP]; omega)
    rw [ey, gA, if_neg (by omega), if_pos hP0.symm] at hy0
    have m1 : iZ ((k + 1 : Nat) : Int) - (1 : Int32) = iZ (k : Int) := by rw [show (1 : Int32) = iZ 1 from rfl, iZ_sub]; congr 1; omega
    have m2 : iZ ((k + 1 : Nat) : Int) + (-1 : Int32) = iZ (k : Int) := by rw [show (-1 : Int32) = iZ (-1) from by decide, iZ_add]; congr 1; omega
    have pd : ∀ τ : aSt, f_pick τ 58 (iZ (k : Int)) = τ.1 58 k := fun τ => pkD_57 (by omega)
    have pk : ∀ τ : aSt, f_pick τ 59 (iZ (k : Int)) = τ.1 59 k := fun τ => pkK_57 (by omega)
    rw [f_ClassTable_sortDivisors_57_l18, if_neg (by rw [show (0 : Int32) = iZ 0 from rfl, iZ_le ⟨by omega, by omega⟩ (bd_lit _ rfl)]; omega), m1, m2, pd, hy0.1]
    have c : (iZ (y.1 : Int) ≤ iZ (x.1 : Int)) = (y.1 ≤ x.1) := by rw [iZ_le ⟨by omega, by omega⟩ ⟨by omega, by omega⟩]; apply propext; omega
    simp only [c, lt_eq]
    by_cases d : y.1 ≤ x.1
    · rw [if_pos d]
      refine ⟨P0 ++ [y], Q, z, σ, by rw [hP], rfl, (insP_at x Q hQ _ (fun w hw => ?_)).symm, by rw [hP]; omega, hX, fr_refl _ _⟩
      rcases List.mem_append.mp hw with q | q
      · have e2 : (P0 ++ [y]) ++ Q = P0 ++ y :: Q := by rw [List.append_assoc]; rfl
        rw [e2] at hs
        exact Nat.le_trans (srtW_last y Q P0 hs w q) d
      · have : w = y := List.mem_singleton.mp q
        subst this; exact d
    · rw [if_neg d, stD_57 (show k + 1 < 32 by omega), pk, si_ne (Or.inl (by decide)), hy0.2, stK_57 (show k + 1 < 32 by omega)]
      have X1 := XA_57_set (P := P0 ++ [y]) y hX
      rw [hP] at X1
      have e3 : (P0 ++ [y]) ++ y :: (Q ++ R) = P0 ++ y :: ((y :: Q) ++ R) := by rw [List.append_assoc]; rfl
      have e4 : (P0 ++ [y]) ++ Q = P0 ++ y :: Q := by rw [List.append_assoc]; rfl
      rw [e3] at X1
      rw [e4] at hs
      obtain ⟨P', Q', z', σ', g1, g2, g3, g4, g5, g6⟩ := ih n P0 (y :: Q) y _ hP0 hn' (by have : (y :: Q).length = Q.length + 1 := rfl; omega) (fun w hw => hb w (List.mem_append.mpr (Or.inl hw))) (fun w hw => by
        rcases List.mem_cons.mp hw with q | q
        · subst q; omega
        · exact hQ w q) hs X1
      exact ⟨P', Q', z', σ', g1, by rw [e4]; exact g2, by rw [e4]; exact g3, g4, g5, fr_trans (fr_trans (fr_si rfl) (fr_si rfl)) g6⟩
theorem srt2_57 {N C : Nat} (hN : 10000 ≤ N) (hC : C ≤ 32) : ∀ (j i n : Nat) (S R : List (Nat × Nat)) (σ : aSt), i + j = C → j + 1 ≤ n → S.length = i → R.length = j → (∀ y ∈ S, y.1 ≤ 20000000) → (∀ y ∈ R, y.1 ≤ 20000000) → srtW S → σ.1 57 7 = iZ (C : Int) → XA_57 (S ++ R) σ → ∃ σ', f_ClassTable_sortDivisors_57_l2 N n (iZ (i : Int)) σ = some σ' ∧ XA_57 (isrP S R) σ' ∧ fr frE_57 σ σ' := by
  intro j
  induction j with
  | zero =>
    intro i n S R σ hi hn hS hR b1 b2 hs hc hX
    obtain ⟨n, rfl, _⟩ := fuel hn
    have e : R = [] := List.length_eq_zero_iff.mp hR
    subst e
    rw [List.append_nil] at hX
    rw [f_ClassTable_sortDivisors_57_l2, hc, if_pos (by rw [iZ_le ⟨by omega, by omega⟩ ⟨by omega, by omega⟩]; omega)]
    exact ⟨σ, rfl, hX, fr_refl _ _⟩
  | succ j ih =>
    intro i n S R σ hi hn hS hR b1 b2 hs hc hX
    obtain ⟨n, rfl, hn'⟩ := fuel hn
    cases R with
    | nil => exact absurd hR (by show ¬ 0 = j + 1; omega)
    | cons x R =>
    have hR' : R.length = j := by have : (x :: R).length = R.length + 1 := rfl; omega
    have hx := b2 x (List.mem_cons.mpr (Or.inl rfl))
    have hy0 := hX i (by rw [List.length_append, hS, hR]; omega)
    rw [gA, if_neg (by omega), if_pos hS.symm] at hy0
    have pd : ∀ τ : aSt, f_pick τ 58 (iZ (i : Int)) = τ.1 58 i := fun τ => pkD_57 (by omega)
    have pk : ∀ τ : aSt, f_pick τ 59 (iZ (i : Int)) = τ.1 59 i := fun τ => pkK_57 (by omega)
    rw [f_ClassTable_sortDivisors_57_l2, hc, if_neg (by rw [iZ_le ⟨by omega, by omega⟩ ⟨by omega, by omega⟩]; omega), pd, pk, hy0.1, hy0.2]
    obtain ⟨P', Q', z', σ1, g1, g2, g3, g4, g5, g6⟩ := srt18_57 (N := N) (i := i) hx (K := fun (y6 : Int32) (y7 : Int32) (y8 : Int32) (y9 : Int32) σ10 => (lt (f_store σ10 58 y9 y7) fun x11 => (lt (f_store x11 59 y9 y8) fun x12 => f_ClassTable_sortDivisors_57_l2 N n (y6 + (1 : Int32)) x12))) (R := R) i N S [] x σ hS (by omega) (by show i + 0 + 1 ≤ 32; omega) b1 (fun y hy => (by cases hy)) (by rw [List.append_nil]; exact hs) hX
    rw [List.append_nil] at g2 g3
    have X2 := XA_57_set x g5
    have f2 : fr frE_57 σ1 (s_i (s_i σ1 58 P'.length (iZ (x.1 : Int))) 59 P'.length (iZ (x.2 : Int))) := fr_trans (fr_si rfl) (fr_si rfl)
    have e5 : P' ++ x :: (Q' ++ R) = insP x S ++ R := by rw [← g3, List.append_assoc]; rfl
    rw [e5] at X2
    obtain ⟨σ', k1, k2, k4⟩ := ih (i + 1) n (insP x S) R (s_i (s_i σ1 58 P'.length (iZ (x.1 : Int))) 59 P'.length (iZ (x.2 : Int))) (by omega) hn' (by rw [insP_len, hS]) hR' (fun y hy => by
      rcases (insP_mem x y S).mp hy with q | q
      · subst q; exact hx
      · exact b1 y q) (fun y hy => b2 y (List.mem_cons.mpr (Or.inr hy))) (insP_W x S hs) (by rw [si_ne (Or.inl (by decide)), si_ne (Or.inl (by decide))]; rw [(g6 57 7 rfl).1]; exact hc) X2
    refine ⟨σ', ?_, k2, fr_trans (fr_trans g6 f2) k4⟩
    refine Eq.trans g1 ?_
    show lt (f_store σ1 58 (iZ (P'.length : Int)) (iZ (x.1 : Int))) (fun x11 => (lt (f_store x11 59 (iZ (P'.length : Int)) (iZ (x.2 : Int))) fun x12 => f_ClassTable_sortDivisors_57_l2 N n (iZ (i : Int) + (1 : Int32)) x12)) = some σ'
    simp only [lt_eq]
    rw [stD_57 g4, stK_57 g4, i1]
    exact k1
theorem addP11_57 {N : Nat} (hN : 10000 ≤ N) {f bit : Nat} (hf : f ≤ 4400) {L : List (Nat × Nat)} (h0 : L ≠ []) (hl : 2 * L.length ≤ 32) (hs : srtP L) (hb : ∀ y ∈ L, y.1 ≤ 4400) : ∀ (j n : Nat) (A Bs : List (Nat × Nat)) (σ : aSt), Bs.length = j → j + 1 ≤ n → A ++ Bs = L → XA_57 (L ++ A.map (upP f bit)) σ → ∃ σ', f_ClassTable_addPrime_57_l11 N n (iZ (f : Int)) (iZ (bit : Int)) (iZ (L.length : Int)) (iZ (A.length : Int)) σ = some σ' ∧ XA_57 (isrP L (L.map (upP f bit))) σ' ∧ σ'.1 57 7 = iZ ((2 * L.length : Nat) : Int) ∧ fr frD_57 σ σ' := by
  have ub : ∀ y ∈ L.map (upP f bit), y.1 ≤ 20000000 := fun y hy => by
    obtain ⟨z, z1, z2⟩ := List.mem_map.mp hy
    subst z2
    have := Nat.mul_le_mul (hb z z1) hf
    show z.1 * f ≤ 20000000
    omega
  intro j
  induction j with
  | zero =>
    intro n A Bs σ hB hn hA hX
    obtain ⟨n, rfl, _⟩ := fuel hn
    have e : Bs = [] := List.length_eq_zero_iff.mp hB
    subst e
    rw [List.append_nil] at hA
    subst hA
    rw [f_ClassTable_addPrime_57_l11, if_pos (by rw [iZ_le ⟨by omega, by omega⟩ ⟨by omega, by omega⟩]; omega)]
    unfold f_ClassTable_sortDivisors_57
    have e2 : (2 : Int32) * iZ (A.length : Int) = iZ ((2 * A.length : Nat) : Int) := by rw [show (2 : Int32) = iZ 2 from rfl, iZ_mul]; congr 1
    rw [e2]
    cases hA : A with
    | nil => exact absurd hA h0
    | cons x R =>
      rw [← hA]
      have el : A.length = R.length + 1 := by rw [hA]; rfl
      have X1 : XA_57 ([x] ++ (R ++ A.map (upP f bit))) (s_i σ 57 7 (iZ ((2 * A.length : Nat) : Int))) := by
        have e3 : [x] ++ (R ++ A.map (upP f bit)) = A ++ A.map (upP f bit) := by
          show x :: (R ++ A.map (upP f bit)) = A ++ A.map (upP f bit)
          rw [← List.cons_append, ← hA]
        rw [e3]
        exact fun k hk => ⟨by rw [si_ne (Or.inl (by decide))]; exact (hX k hk).1, by rw [si_ne (Or.inl (by decide))]; exact (hX k hk).2⟩
      obtain ⟨σ', g1, g2, g3⟩ := srt2_57 (N := N) (C := 2 * A.length) hN hl (2 * A.length - 1) 1 N [x] (R ++ A.map (upP f bit)) (s_i σ 57 7 (iZ ((2 * A.length : Nat) : Int))) (by omega) (by omega) rfl (by rw [List.length_append, List.length_map]; omega) (fun y hy => by
          have : y = x := List.mem_singleton.mp hy
          subst this
          have := hb y (by rw [hA]; exact List.mem_cons.mpr (Or.inl rfl))
          omega) (fun y hy => by
          rcases List.mem_append.mp hy with q | q
          · have := hb y (by rw [hA]; exact List.mem_cons.mpr (Or.inr q))
            omega
          · exact ub y q) ⟨fun y hy => (by cases hy), trivial⟩ (si_eq _ _ _ _) X1
      rw [isrP_whole hs hA] at g2
      have g1' : f_ClassTable_sortDivisors_57_l2 N N (1 : Int32) (s_i σ 57 7 (iZ ((2 * A.length : Nat) : Int))) = some σ' := g1
      refine ⟨σ', by rw [g1', Option.bind_some], g2, by rw [(g3 57 7 rfl).1]; exact si_eq _ _ _ _, fr_trans (fr_si rfl) (frE_57_D g3)⟩
  | succ j ih =>
    intro n A Bs σ hB hn hA hX
    obtain ⟨n, rfl, hn'⟩ := fuel hn
    cases Bs with
    | nil => exact absurd hB (by show ¬ 0 = j + 1; omega)
    | cons b Bs =>
    have hB' : Bs.length = j := by have : (b :: Bs).length = Bs.length + 1 := rfl; omega
    have el : L.length = A.length + (j + 1) := by rw [← hA, List.length_append, hB]
    have e1 : L ++ A.map (upP f bit) = A ++ b :: (Bs ++ A.map (upP f bit)) := by rw [← hA, List.append_assoc]; rfl
    have hy0 := hX A.length (by rw [List.length_append]; omega)
    rw [e1, gA, if_neg (by omega), if_pos rfl] at hy0
    have pd : ∀ τ : aSt, f_pick τ 58 (iZ (A.length : Int)) = τ.1 58 A.length := fun τ => pkD_57 (by omega)
    have pk : ∀ τ : aSt, f_pick τ 59 (iZ (A.length : Int)) = τ.1 59 A.length := fun τ => pkK_57 (by omega)
    have e2 : iZ (L.length : Int) + iZ (A.length : Int) = iZ ((L.length + A.length : Nat) : Int) := by rw [iZ_add]; congr 1
    rw [f_ClassTable_addPrime_57_l11, if_neg (by rw [iZ_le ⟨by omega, by omega⟩ ⟨by omega, by omega⟩]; omega)]
    simp only [lt_eq]
    rw [pd, hy0.1, e2, iZ_mul, stD_57 (show L.length + A.length < 32 by omega), pk, si_ne (Or.inl (by decide)), hy0.2, iZ_add, stK_57 (show L.length + A.length < 32 by omega), i1]
    have X1 := XA_57_push (upP f bit b) hX
    have e3 : (L ++ A.map (upP f bit)) ++ [upP f bit b] = L ++ (A ++ [b]).map (upP f bit) := by rw [List.map_append, List.append_assoc]; rfl
    have e4 : (L ++ A.map (upP f bit)).length = L.length + A.length := by rw [List.length_append, List.length_map]
    have e5 : (A ++ [b]).length = A.length + 1 := by rw [List.length_append]; rfl
    rw [e3, e4] at X1
    obtain ⟨σ', g1, g2, g3, g4⟩ := ih n (A ++ [b]) Bs _ hB' hn' (by rw [List.append_assoc]; exact hA) X1
    rw [e5] at g1
    refine ⟨σ', ?_, g2, g3, fr_trans (fr_trans (fr_si rfl) (fr_si rfl)) g4⟩
    refine Eq.trans ?_ g1
    congr 3
theorem addP_57 {N : Nat} (hN : 10000 ≤ N) {f bit : Nat} (hf : f ≤ 4400) {L : List (Nat × Nat)} (h0 : L ≠ []) (hl : 2 * L.length ≤ 32) (hs : srtP L) (hb : ∀ y ∈ L, y.1 ≤ 4400) {σ : aSt} (hc : σ.1 57 7 = iZ (L.length : Int)) (hX : XA_57 L σ) : ∃ σ', f_ClassTable_addPrime_57 N (iZ (f : Int)) (iZ (bit : Int)) σ = some σ' ∧ XA_57 (isrP L (L.map (upP f bit))) σ' ∧ σ'.1 57 7 = iZ ((2 * L.length : Nat) : Int) ∧ fr frD_57 σ σ' := by
  unfold f_ClassTable_addPrime_57
  rw [hc, if_pos (by rw [show (2 : Int32) = iZ 2 from rfl, show (32 : Int32) = iZ 32 from rfl, iZ_mul, iZ_le ⟨by omega, by omega⟩ (bd_lit _ rfl)]; omega)]
  exact addP11_57 (N := N) (bit := bit) hN hf h0 hl hs hb L.length N [] L σ rfl (by omega) rfl (by rw [List.map_nil, List.append_nil]; exact hX)
theorem gat33_57 {N f : Nat} (hf : 2 ≤ f) (hf2 : f ≤ 4400) {b : Int32} {σ : aSt} {K : Int32 → Int32 → Int32 → aSt → Option aSt} : ∀ (j c n l : Nat), c + j = 32 → j + 1 ≤ n → l < 2 ^ j → 1 ≤ l → l ≤ 4400 → ∃ (l' k : Nat), f_ClassTable_gatherDivisors_57_l33 N K n (iZ (l : Int)) b (iZ (f : Int)) (iZ (c : Int)) σ = K (iZ (l' : Int)) b (iZ (f : Int)) σ ∧ l = l' * f ^ k ∧ ¬ f ∣ l' ∧ 1 ≤ l' := by
  intro j
  induction j with
  | zero => intro c n l hc hn h1 h2 h3; exact absurd h1 (by show ¬ l < 1; omega)
  | succ j ih =>
    intro c n l hc hn h1 h2 h3
    obtain ⟨n, rfl, hn'⟩ := fuel hn
    have lt : l % f < f := Nat.mod_lt _ (by omega)
    have em : (l : Int) % (f : Int) = ((l % f : Nat) : Int) := (Int.natCast_emod l f).symm
    have c1 : (iZ ((l % f : Nat) : Int) ≠ 0) = ¬ (l % f = 0) := by rw [ne_eq, show (0 : Int32) = iZ 0 from rfl, iZ_eq ⟨by omega, by omega⟩ (bd_lit _ rfl)]; apply propext; omega
    rw [f_ClassTable_gatherDivisors_57_l33, if_neg (by rw [show (32 : Int32) = iZ 32 from rfl, iZ_le (bd_lit _ rfl) ⟨by omega, by omega⟩]; omega), if_pos (by rw [show (0 : Int32) = iZ 0 from rfl, iZ_eq ⟨by omega, by omega⟩ (bd_lit _ rfl)]; omega), irem_nn (by omega) (by omega) (by omega) (by omega), em, iZ_div ⟨by omega, by omega⟩ ⟨by omega, by omega⟩, nat_div, i1]
    simp only [c1]
    by_cases d : l % f = 0
    · rw [if_neg (fun z => z d)]
      have e : f * (l / f) = l := Nat.mul_div_cancel' (Nat.dvd_of_mod_eq_zero d)
      have p1 : 1 ≤ l / f := by
        rcases Nat.eq_zero_or_pos (l / f) with z | z
        · rw [z] at e; omega
        · exact z
      have h2f : 2 * (l / f) ≤ f * (l / f) := Nat.mul_le_mul_right _ hf
      obtain ⟨l', k, g1, g2, g3, g4⟩ := ih (c + 1) n (l / f) (by omega) hn' (by rw [Nat.pow_succ] at h1; omega) p1 (by omega)
      refine ⟨l', k + 1, g1, ?_, g3, g4⟩
      rw [Nat.pow_succ, ← Nat.mul_assoc, ← g2, Nat.mul_comm]; exact e.symm
    · rw [if_pos d]
      exact ⟨l, 0, rfl, by rw [Nat.pow_zero, Nat.mul_one], fun z => d (Nat.mod_eq_zero_of_dvd z), h2⟩
theorem gat21_57 {N B : Nat} (hN : 10000 ≤ N) (hB1 : 1 ≤ B) (hB : B ≤ 4400) : ∀ (j f n l u : Nat) (ps : List Nat) (L : List (Nat × Nat)) (σ : aSt), f + j = 100 → j + 1 ≤ n → GV B f l ps u L → XA_57 L σ → σ.1 57 7 = iZ (L.length : Int) → ∃ L' σ', f_ClassTable_gatherDivisors_57_l21 N n (iZ (l : Int)) (iZ ((2 ^ ps.length : Nat) : Int)) (iZ (f : Int)) σ = some σ' ∧ CT B L' ∧ XA_57 L' σ' ∧ σ'.1 57 7 = iZ (L'.length : Int) ∧ fr frD_57 σ σ' := by
  have facts : ∀ {f l u : Nat} {ps : List Nat} {L : List (Nat × Nat)}, GV B f l ps u L → L ≠ [] ∧ L.length = 2 ^ ps.length ∧ srtP L ∧ (∀ y ∈ L, y.1 ≤ 4400) ∧ l ≤ 4400 := fun {f l u ps L} h => by
    obtain ⟨h1, h2, h3, h4, h5, h6, h7, h8, h9, h10, h11⟩ := h
    have u0 : 1 ≤ u := by
      rcases Nat.eq_zero_or_pos u with z | z
      · subst z; rw [Nat.zero_mul] at h1; omega
      · exact z
    have ul : u ≤ B := by rw [← h1]; exact Nat.le_mul_of_pos_right _ (by omega)
    have ll : l ≤ B := by rw [← h1]; exact Nat.le_mul_of_pos_left _ (by omega)
    refine ⟨fun z => ?_, h3.2.1, h3.1, fun y hy => ?_, by omega⟩
    · have := h3.2.1
      rw [z] at this
      have p := Nat.pow_pos (n := ps.length) (show 0 < 2 by omega)
      have : 0 = 2 ^ ps.length := this
      omega
    · have d := (h3.2.2.1 y.1).mp ⟨y.2, hy⟩
      have := Nat.le_of_dvd (by omega) d.2
      omega
  have addl : ∀ {f l u l' g k : Nat} {ps : List Nat} {L : List (Nat × Nat)} {σ : aSt}, GV B f l ps u L → XA_57 L σ → σ.1 57 7 = iZ (L.length : Int) → prN g → f ≤ g → l = l' * g ^ k → 1 ≤ k → 1 ≤ l' → (∀ j, 2 ≤ j → j < g + 1 → ¬ j ∣ l') → g ≤ 4400 → ∃ L' σ', f_ClassTable_addPrime_57 N (iZ (g : Int)) (iZ ((2 ^ ps.length : Nat) : Int)) σ = some σ' ∧ GV B (g + 1) l' (ps ++ [g]) (u * g ^ k) L' ∧ XA_57 L' σ' ∧ σ'.1 57 7 = iZ (L'.length : Int) ∧ fr frD_57 σ σ' := fun {f l u l' g k ps L σ} h hX hc hg hfg hl hk hl1 hn hg2 => by
    obtain ⟨a1, a2, a3, a4, a5⟩ := facts h
    obtain ⟨b1, b2⟩ := GV_add hB hB1 h hg hfg hl hk hl1 hn
    have two : 2 ^ ps.length ≤ 16 := Nat.pow_le_pow_right (n := 2) (by omega) b1
    obtain ⟨σ', g1, g2, g3, g4⟩ := addP_57 (N := N) (bit := 2 ^ ps.length) hN hg2 a1 (by omega) a3 a4 hc hX
    refine ⟨_, σ', g1, b2, g2, ?_, g4⟩
    rw [g3, isrP_len, List.length_map]
    congr 2
    omega
  have exit : ∀ {f n l u : Nat} {ps : List Nat} {L : List (Nat × Nat)} {σ : aSt}, 1 ≤ n → f ≤ 100 → l < f * f → GV B f l ps u L → XA_57 L σ → σ.1 57 7 = iZ (L.length : Int) → ∃ L' σ', f_ClassTable_gatherDivisors_57_l21 N n (iZ (l : Int)) (iZ ((2 ^ ps.length : Nat) : Int)) (iZ (f : Int)) σ = some σ' ∧ CT B L' ∧ XA_57 L' σ' ∧ σ'.1 57 7 = iZ (L'.length : Int) ∧ fr frD_57 σ σ' := fun {f n l u ps L σ} hn hf hl h hX hc => by
    obtain ⟨n, rfl, _⟩ := fuel (k := 0) hn
    obtain ⟨a1, a2, a3, a4, a5⟩ := facts h
    have ff : f * f ≤ 10000 := Nat.mul_le_mul hf hf
    have e1 : iZ (f : Int) * iZ (f : Int) = iZ ((f * f : Nat) : Int) := by rw [iZ_mul, Int.natCast_mul]
    rw [f_ClassTable_gatherDivisors_57_l21, e1, if_pos (by rw [iZ_lt ⟨by omega, by omega⟩ ⟨by omega, by omega⟩]; omega)]
    have l1 := h.2.1
    have c : (iZ (l : Int) ≤ (1 : Int32)) = (l ≤ 1) := by rw [show (1 : Int32) = iZ 1 from rfl, iZ_le ⟨by omega, by omega⟩ (bd_lit _ rfl)]; apply propext; omega
    simp only [c]
    by_cases d : l ≤ 1
    · rw [if_pos d]
      have e : l = 1 := by omega
      subst e
      exact ⟨L, σ, rfl, GV_CT h, hX, hc, fr_refl _ _⟩
    · rw [if_neg d]
      obtain ⟨p1, p2⟩ := GV_prime h hl (by omega)
      obtain ⟨L', σ', g1, g2, g3, g4, g5⟩ := addl (l' := 1) (k := 1) h hX hc p1 p2 (by rw [Nat.pow_one, Nat.one_mul]) (Nat.le_refl _) (Nat.le_refl _) (fun j hj _ hd => by have := Nat.dvd_one.mp hd; omega) a5
      rw [g1, Option.bind_some]
      exact ⟨L', σ', rfl, GV_CT g2, g3, g4, g5⟩
  intro j
  induction j with
  | zero =>
    intro f n l u ps L σ hf hn h hX hc
    have := (facts h).2.2.2.2
    have e : f = 100 := by omega
    subst e
    exact exit hn (by omega) (by omega) h hX hc
  | succ j ih =>
    intro f n l u ps L σ hf hn h hX hc
    by_cases q : l < f * f
    · exact exit (by omega) (by omega) q h hX hc
    · obtain ⟨n, rfl, hn'⟩ := fuel hn
      obtain ⟨a1, a2, a3, a4, a5⟩ := facts h
      have h8 : 2 ≤ f := h.2.2.2.2.2.2.2.1
      have ff : f * f ≤ 10000 := Nat.mul_le_mul (show f ≤ 100 by omega) (show f ≤ 100 by omega)
      have e1 : iZ (f : Int) * iZ (f : Int) = iZ ((f * f : Nat) : Int) := by rw [iZ_mul, Int.natCast_mul]
      have lt : l % f < f := Nat.mod_lt _ (by omega)
      have em : (l : Int) % (f : Int) = ((l % f : Nat) : Int) := (Int.natCast_emod l f).symm
      have c1 : (iZ ((l % f : Nat) : Int) = 0) = (l % f = 0) := by rw [show (0 : Int32) = iZ 0 from rfl, iZ_eq ⟨by omega, by omega⟩ (bd_lit _ rfl)]; apply propext; omega
      rw [f_ClassTable_gatherDivisors_57_l21, e1, if_neg (by rw [iZ_lt ⟨by omega, by omega⟩ ⟨by omega, by omega⟩]; omega), if_pos (by rw [show (0 : Int32) = iZ 0 from rfl, iZ_eq ⟨by omega, by omega⟩ (bd_lit _ rfl)]; omega), irem_nn (by omega) (by omega) (by omega) (by omega), em, i1]
      simp only [c1]
      by_cases d : l % f = 0
      · rw [if_pos d]
        have hd := Nat.dvd_of_mod_eq_zero d
        have l1 := h.2.1
        obtain ⟨l', k, g1, g2, g3, g4⟩ := gat33_57 (N := N) (f := f) h8 (by omega) (b := iZ ((2 ^ ps.length : Nat) : Int)) (σ := σ) (K := fun (y11 : Int32) (y12 : Int32) (y13 : Int32) σ14 => ((f_ClassTable_addPrime_57 N y13 y12 σ14).bind fun x15 => f_ClassTable_gatherDivisors_57_l21 N n y11 (y12 * (2 : Int32)) (y13 + (1 : Int32)) x15)) 32 0 N l (by omega) (by omega) (Nat.lt_of_le_of_lt a5 (by decide)) l1 a5
        have k1 : 1 ≤ k := by
          rcases Nat.eq_zero_or_pos k with z | z
          · subst z; rw [Nat.pow_zero, Nat.mul_one] at g2; rw [g2] at hd; exact absurd hd g3
          · exact z
        obtain ⟨L1, σ1, b1, b2, b3, b4, b5⟩ := addl h hX hc (GV_pr h hd) (Nat.le_refl _) g2 k1 g4 (fun j hj hlt hdv => by
          by_cases e : j = f
          · subst e; exact g3 hdv
          · exact h.2.2.2.2.2.2.1 j hj (by omega) (Nat.dvd_trans hdv ⟨f ^ k, g2⟩)) (by omega)
        obtain ⟨L2, σ2, d1, d2, d3, d4, d5⟩ := ih (f + 1) n l' _ _ L1 σ1 (by omega) hn' b2 b3 b4
        refine ⟨L2, σ2, ?_, d2, d3, d4, fr_trans b5 d5⟩
        refine Eq.trans g1 ?_
        show ((f_ClassTable_addPrime_57 N (iZ (f : Int)) (iZ ((2 ^ ps.length : Nat) : Int)) σ).bind fun x15 => f_ClassTable_gatherDivisors_57_l21 N n (iZ (l' : Int)) (iZ ((2 ^ ps.length : Nat) : Int) * (2 : Int32)) (iZ (f : Int) + (1 : Int32)) x15) = some σ2
        have e6 : iZ ((2 ^ ps.length : Nat) : Int) * (2 : Int32) = iZ ((2 ^ (ps ++ [f]).length : Nat) : Int) := by
          rw [show (2 : Int32) = iZ 2 from rfl, iZ_mul, List.length_append]
          show iZ (((2 ^ ps.length : Nat) : Int) * 2) = iZ ((2 ^ (ps.length + 1) : Nat) : Int)
          rw [Nat.pow_succ, Int.natCast_mul]; rfl
        rw [b1, Option.bind_some, e6, i1]
        exact d1
      · rw [if_neg d]
        exact ih (f + 1) n l u ps L σ (by omega) hn' (GV_next h (fun z => d (Nat.mod_eq_zero_of_dvd z))) hX hc
theorem gather_57 {N : Nat} (hN : 10000 ≤ N) {B : Int} (hB : bd 4400 B) (hB0 : B ≠ 0) {σ : aSt} (h9 : σ.1 57 9 = iZ B) : ∃ L σ', f_ClassTable_gatherDivisors_57 N σ = some σ' ∧ CT B.natAbs L ∧ XA_57 L σ' ∧ σ'.1 57 7 = iZ (L.length : Int) ∧ fr frD_57 σ σ' := by
  have := hB.1; have := hB.2
  unfold f_ClassTable_gatherDivisors_57
  simp only [lt_eq]
  have s1 : ∀ (τ : aSt) (v : Int32), f_store τ 58 (0 : Int32) v = s_i τ 58 0 v := fun τ v => stD_57 (k := 0) (by omega)
  have s2 : ∀ (τ : aSt) (v : Int32), f_store τ 59 (0 : Int32) v = s_i τ 59 0 v := fun τ v => stK_57 (k := 0) (by omega)
  rw [s1, s2, si_ne (Or.inl (by decide)), si_ne (Or.inl (by decide)), h9, iabs_Z ⟨by omega, by omega⟩]
  obtain ⟨L', σ', g1, g2, g3, g4, g5⟩ := gat21_57 (N := N) (B := B.natAbs) hN (by omega) (by omega) 98 2 N B.natAbs 1 [] [(1, 0)] (s_i (s_i (s_i σ 58 0 (1 : Int32)) 59 0 (0 : Int32)) 57 7 (1 : Int32)) (by omega) (by omega) (GV_0 (by omega)) (fun k hk => by
    have : k = 0 := by
      have : [((1 : Nat), (0 : Nat))].length = 1 := rfl
      omega
    subst this
    exact ⟨by rw [si_ne (Or.inl (by decide)), si_ne (Or.inl (by decide)), si_eq]; rfl, by rw [si_ne (Or.inl (by decide)), si_eq]; rfl⟩) (by rw [si_eq]; rfl)
  exact ⟨L', σ', g1, g2, g3, g4, fr_trans (fr_trans (fr_trans (fr_si rfl) (fr_si rfl)) (fr_si rfl)) g5⟩
