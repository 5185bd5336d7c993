/-! CLASSES: divisors in order, pure -/
theorem gA (P R : List (Nat × Nat)) (z : Nat × Nat) : ∀ k, (P ++ z :: R).getD k (0, 0) = if k < P.length then P.getD k (0, 0) else if k = P.length then z else R.getD (k - P.length - 1) (0, 0) := by
  induction P with
  | nil =>
    intro k
    show (z :: R).getD k (0, 0) = _
    rw [if_neg (by show ¬ k < 0; omega)]
    cases k with
    | zero => rw [if_pos (show 0 = ([] : List (Nat × Nat)).length from rfl)]; rfl
    | succ k => rw [if_neg (show ¬ k + 1 = ([] : List (Nat × Nat)).length from by show ¬ k + 1 = 0; omega)]; rfl
  | cons x P ih =>
    intro k
    have el : (x :: P).length = P.length + 1 := rfl
    cases k with
    | zero => rw [if_pos (by omega)]; rfl
    | succ k =>
      show (P ++ z :: R).getD k (0, 0) = _
      rw [ih k, el]
      by_cases c : k < P.length
      · rw [if_pos c, if_pos (show k + 1 < P.length + 1 by omega)]; rfl
      · rw [if_neg c, if_neg (show ¬ k + 1 < P.length + 1 by omega)]
        by_cases c2 : k = P.length
        · rw [if_pos c2, if_pos (show k + 1 = P.length + 1 by omega)]
        · rw [if_neg c2, if_neg (show ¬ k + 1 = P.length + 1 by omega), show k + 1 - (P.length + 1) - 1 = k - P.length - 1 by omega]
theorem snoc {P : List (Nat × Nat)} {k : Nat} (h : P.length = k + 1) : ∃ P' y, P = P' ++ [y] ∧ P'.length = k := by
  rcases List.eq_nil_or_concat P with e | ⟨P', y, e⟩
  · rw [e] at h; exact absurd h (by show ¬ 0 = k + 1; omega)
  · rw [List.concat_eq_append] at e
    refine ⟨P', y, e, ?_⟩
    rw [e, List.length_append] at h
    have : [y].length = 1 := rfl
    omega
def srtW : List (Nat × Nat) → Prop
  | [] => True
  | x :: L => (∀ y ∈ L, x.1 ≤ y.1) ∧ srtW L
theorem srtW_P : ∀ L, srtP L → srtW L := by
  intro L
  induction L with
  | nil => intro _; trivial
  | cons x L ih => intro h; exact ⟨fun y hy => Nat.le_of_lt (h.1 y hy), ih h.2⟩
theorem insP_W (x : Nat × Nat) : ∀ L, srtW L → srtW (insP x L) := by
  intro L
  induction L with
  | nil => intro _; exact ⟨fun y h => (by cases h), trivial⟩
  | cons y ys ih =>
    intro h
    unfold insP
    by_cases c : y.1 ≤ x.1
    · rw [if_pos c]
      refine ⟨fun z hz => ?_, ih h.2⟩
      rcases (insP_mem x z ys).mp hz with e | e
      · subst e; exact c
      · exact h.1 z e
    · rw [if_neg c]
      refine ⟨fun z hz => ?_, h⟩
      rcases List.mem_cons.mp hz with e | e
      · subst e; omega
      · have := h.1 z e; omega
theorem insP_at (x : Nat × Nat) (Q : List (Nat × Nat)) (hQ : ∀ y ∈ Q, x.1 < y.1) : ∀ P, (∀ y ∈ P, y.1 ≤ x.1) → insP x (P ++ Q) = P ++ x :: Q := by
  intro P
  induction P with
  | nil =>
    intro _
    show insP x Q = x :: Q
    cases Q with
    | nil => rfl
    | cons y Q =>
      have := hQ y (List.mem_cons.mpr (Or.inl rfl))
      unfold insP
      rw [if_neg (by omega)]
  | cons y P ih =>
    intro h
    show insP x (y :: (P ++ Q)) = y :: (P ++ x :: Q)
    unfold insP
    rw [if_pos (h y (List.mem_cons.mpr (Or.inl rfl))), ih (fun z hz => h z (List.mem_cons.mpr (Or.inr hz)))]
theorem srtW_last (y : Nat × Nat) (Q : List (Nat × Nat)) : ∀ P, srtW (P ++ y :: Q) → ∀ w ∈ P, w.1 ≤ y.1 := by
  intro P
  induction P with
  | nil => intro _ w hw; cases hw
  | cons x P ih =>
    intro h w hw
    have h' : (∀ z ∈ P ++ y :: Q, x.1 ≤ z.1) ∧ srtW (P ++ y :: Q) := h
    rcases List.mem_cons.mp hw with e | e
    · subst e; exact h'.1 y (List.mem_append.mpr (Or.inr (List.mem_cons.mpr (Or.inl rfl))))
    · exact ih h'.2 w e
theorem isrP_app : ∀ A S B, isrP S (A ++ B) = isrP (isrP S A) B := by
  intro A
  induction A with
  | nil => intro S B; rfl
  | cons x A ih => intro S B; exact ih (insP x S) B
theorem srtP_l (y : Nat × Nat) (Q : List (Nat × Nat)) : ∀ P, srtP (P ++ y :: Q) → ∀ w ∈ P, w.1 ≤ y.1 := fun P h => srtW_last y Q P (srtW_P _ h)
theorem isrP_id : ∀ R S, srtP (S ++ R) → isrP S R = S ++ R := by
  intro R
  induction R with
  | nil => intro S _; exact (List.append_nil S).symm
  | cons x R ih =>
    intro S h
    show isrP (insP x S) R = _
    have e : insP x S = S ++ [x] := by
      have := insP_at x [] (fun y hy => by cases hy) S (srtP_l x R S h)
      rw [List.append_nil] at this
      exact this
    have e2 : S ++ x :: R = (S ++ [x]) ++ R := by rw [List.append_assoc]; rfl
    rw [e2] at h
    rw [e, ih (S ++ [x]) h, e2]
theorem isrP_whole {L : List (Nat × Nat)} (h : srtP L) {x : Nat × Nat} {R : List (Nat × Nat)} (e : L = x :: R) (U : List (Nat × Nat)) : isrP [x] (R ++ U) = isrP L U := by
  rw [isrP_app, isrP_id R [x] (by show srtP (x :: R); rw [← e]; exact h), e]; rfl
def fcN : Nat → Nat
  | 0 => 1
  | n + 1 => (n + 1) * fcN n
/-- while primes are sought: f is next, l is left -/
def GV (B f l : Nat) (ps : List Nat) (u : Nat) (L : List (Nat × Nat)) : Prop := u * l = B ∧ 1 ≤ l ∧ GL ps u L ∧ MkJ L ∧ (∀ p ∈ ps, prN p ∧ p ∣ u) ∧ (∀ q, prN q → q ∣ u → q < f) ∧ (∀ k, 2 ≤ k → k < f → ¬ k ∣ l) ∧ 2 ≤ f ∧ fcN (ps.length + 1) ≤ u ∧ ps.length + 2 ≤ f ∧ ps.length ≤ 5
theorem GV_0 {B : Nat} (hB : 1 ≤ B) : GV B 2 B [] 1 [(1, 0)] := by
  have s1 : sqf 1 := fun k hk z => by have := Nat.le_of_dvd Nat.one_pos z; have := Nat.mul_le_mul hk hk; omega
  refine ⟨Nat.one_mul B, hB, ⟨⟨fun y hy => (by cases hy), trivial⟩, rfl, fun x => ?_, fun x m hm => ?_⟩, fun x y m hx hy => ?_, fun p hp => (by cases hp), fun q hq hd => ?_, fun k h1 h2 => by omega, Nat.le_refl _, Nat.le_refl _, Nat.le_refl _, Nat.zero_le _⟩
  · constructor
    · intro ⟨m, hm⟩
      have e : (x, m) = (1, 0) := List.mem_singleton.mp hm
      have e1 : x = 1 := congrArg Prod.fst e
      subst e1
      exact ⟨s1, Nat.dvd_refl _⟩
    · intro ⟨_, hd⟩
      have e1 : x = 1 := Nat.dvd_one.mp hd
      subst e1
      exact ⟨0, List.mem_singleton.mpr rfl⟩
  · have e : (x, m) = (1, 0) := List.mem_singleton.mp hm
    exact congrArg Prod.snd e
  · have e : (x, m) = (1, 0) := List.mem_singleton.mp hx
    have e' : (y, m) = (1, 0) := List.mem_singleton.mp hy
    exact (congrArg Prod.fst e).trans (congrArg Prod.fst e').symm
  · have e1 : q = 1 := Nat.dvd_one.mp hd
    have := hq.1
    omega
theorem prN_pow {p g : Nat} (hp : prN p) (hg : prN g) : ∀ k, p ∣ g ^ k → p = g := by
  have hp1 := hp.1
  intro k
  induction k with
  | zero => intro h; have := Nat.dvd_one.mp h; omega
  | succ k ih =>
    intro h
    rw [Nat.pow_succ] at h
    rcases prN_mul hp h with z | z
    · exact ih z
    · have := Nat.le_of_dvd (by have := hg.1; omega) z
      rcases Nat.lt_or_ge p g with q | q
      · exact absurd z (hg.2 p hp1 q)
      · omega
theorem GV_add {B f l u l' g k : Nat} {ps : List Nat} {L : List (Nat × Nat)} (hB : B ≤ 4400) (hB1 : 1 ≤ B) (h : GV B f l ps u L) (hg : prN g) (hfg : f ≤ g) (hl : l = l' * g ^ k) (hk : 1 ≤ k) (hl1 : 1 ≤ l') (hn : ∀ j, 2 ≤ j → j < g + 1 → ¬ j ∣ l') : ps.length ≤ 4 ∧ GV B (g + 1) l' (ps ++ [g]) (u * g ^ k) (isrP L (L.map (upP g (2 ^ ps.length)))) := by
  obtain ⟨h1, h2, h3, h4, h5, h6, h7, h8, h9, h10, h11⟩ := h
  have gp : g ≤ g ^ k := by
    obtain ⟨j, rfl⟩ : ∃ j, k = j + 1 := ⟨k - 1, by omega⟩
    rw [Nat.pow_succ]
    exact Nat.le_mul_of_pos_left g (Nat.pow_pos (by omega))
  have gu : ¬ g ∣ u := fun z => by have := h6 g hg z; omega
  have e1 : u * g ^ k * l' = B := by rw [← h1, hl, Nat.mul_assoc, Nat.mul_comm (g ^ k) l']
  have ul : u * g ^ k ≤ B := by rw [← e1]; exact Nat.le_mul_of_pos_right _ (by omega)
  have len : ps.length ≤ 4 := by
    rcases Nat.lt_or_ge ps.length 5 with q | q
    · omega
    · have e5 : ps.length = 5 := by omega
      rw [e5] at h9
      have f6 : fcN (5 + 1) = 720 := by decide
      have := Nat.mul_le_mul h9 (show 7 ≤ g ^ k by omega)
      omega
  have el : (ps ++ [g]).length = ps.length + 1 := by rw [List.length_append]; rfl
  refine ⟨len, e1, hl1, GL_new h3 hg gu hk h5, MkJ_new h3 h4, fun p hp => ?_, fun q hq hd => ?_, hn, by omega, ?_, by rw [el]; omega, by rw [el]; omega⟩
  · rcases List.mem_append.mp hp with z | z
    · exact ⟨(h5 p z).1, Nat.dvd_trans (h5 p z).2 ⟨g ^ k, rfl⟩⟩
    · have : p = g := List.mem_singleton.mp z
      subst this
      refine ⟨hg, Nat.dvd_trans ?_ ⟨u, Nat.mul_comm _ _⟩⟩
      obtain ⟨j, rfl⟩ : ∃ j, k = j + 1 := ⟨k - 1, by omega⟩
      exact ⟨p ^ j, by rw [Nat.pow_succ, Nat.mul_comm]⟩
  · rcases prN_mul hq hd with z | z
    · have := h6 q hq z; omega
    · have := prN_pow hq hg k z; omega
  · rw [el]
    show (ps.length + 1 + 1) * fcN (ps.length + 1) ≤ u * g ^ k
    rw [Nat.mul_comm]
    exact Nat.mul_le_mul h9 (by omega)
theorem GV_CT {B f u : Nat} {ps : List Nat} {L : List (Nat × Nat)} (h : GV B f 1 ps u L) : CT B L := by
  obtain ⟨h1, h2, h3, h4, h5, h6, h7, h8, h9, h10, h11⟩ := h
  rw [Nat.mul_one] at h1
  subst h1
  exact ⟨ps, h3, h4, h11, fun p hp => (h5 p hp).1⟩
theorem GV_prime {B f l u : Nat} {ps : List Nat} {L : List (Nat × Nat)} (h : GV B f l ps u L) (hl : l < f * f) (h1 : 1 < l) : prN l ∧ f ≤ l := by
  obtain ⟨_, _, _, _, _, _, h7, h8, _⟩ := h
  have ge : ∀ k, 2 ≤ k → k ∣ l → f ≤ k := fun k hk hd => by
    rcases Nat.lt_or_ge k f with q | q
    · exact absurd hd (h7 k hk q)
    · exact q
  refine ⟨⟨by omega, fun k hk hlt hd => ?_⟩, ge l (by omega) (Nat.dvd_refl _)⟩
  have g1 := ge k hk hd
  obtain ⟨t, ht⟩ := hd
  have t2 : 2 ≤ t := by
    rcases Nat.lt_or_ge t 2 with q | q
    · have : t = 0 ∨ t = 1 := by omega
      rcases this with e | e
      · subst e; rw [Nat.mul_zero] at ht; omega
      · subst e; rw [Nat.mul_one] at ht; omega
    · exact q
  have g2 := ge t t2 ⟨k, by rw [ht, Nat.mul_comm]⟩
  have := Nat.mul_le_mul g1 g2
  omega
theorem GV_next {B f l u : Nat} {ps : List Nat} {L : List (Nat × Nat)} (h : GV B f l ps u L) (hn : ¬ f ∣ l) : GV B (f + 1) l ps u L := by
  obtain ⟨h1, h2, h3, h4, h5, h6, h7, h8, h9, h10, h11⟩ := h
  refine ⟨h1, h2, h3, h4, h5, fun q hq hd => by have := h6 q hq hd; omega, fun k hk hlt hd => ?_, by omega, h9, by omega, h11⟩
  by_cases e : k = f
  · subst e; exact hn hd
  · exact h7 k hk (by omega) hd
theorem GV_pr {B f l u : Nat} {ps : List Nat} {L : List (Nat × Nat)} (h : GV B f l ps u L) (hd : f ∣ l) : prN f := by
  obtain ⟨_, _, _, _, _, _, h7, h8, _⟩ := h
  exact ⟨h8, fun k hk hlt hk2 => h7 k hk hlt (Nat.dvd_trans hk2 hd)⟩
