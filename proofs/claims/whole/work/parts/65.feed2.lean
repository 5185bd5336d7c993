/-! feed -/
def frXT : Nat → Nat → Bool := fun o k => (Nat.beq o 1 && Nat.beq k 2) || Nat.beq o 2
def frMT : Nat → Nat → Bool := fun o k => (Nat.beq o 66 && Nat.beq k 11) || Nat.beq o 70 || Nat.beq o 71
theorem frT2 (k : Nat) : frXT 2 k = true := by unfold frXT; simp
theorem frU70 (k : Nat) : frMT 70 k = true := by unfold frMT; simp
theorem frU71 (k : Nat) : frMT 71 k = true := by unfold frMT; simp
theorem push_l {N : Nat} {T : Nat → Int} {len : Nat} {p : Int32} (hl : len + 4 ≤ 200) (hT : ∀ j, j < 4 → T (len + j) = ((uN p / 2 ^ (24 - 8 * j) % 256 : Nat) : Int)) : ∀ (j i n : Nat) (σ : aSt), i + j = 4 → j + 1 ≤ n → XT T (len + i) σ → ∃ σ', f_Reader_push_l2 N n p (iZ (24 - 8 * (i : Int))) σ = some σ' ∧ XT T (len + 4) σ' ∧ fr frXT σ σ' := by
  intro j
  induction j with
  | zero =>
    intro i n σ hi hn hx
    obtain ⟨n, rfl, _⟩ := fuel hn
    have e : i = 4 := by omega
    subst e
    rw [f_Reader_push_l2, if_pos (by rw [iZ_lit, iZ_lt ⟨by omega, by omega⟩ (bd_lit _ rfl)]; omega)]
    exact ⟨σ, rfl, hx, fr_refl _ _⟩
  | succ j ih =>
    intro i n σ hi hn hx
    obtain ⟨n, rfl, hn'⟩ := fuel hn
    obtain ⟨h1, h2, h3⟩ := hx
    have es : (24 - 8 * (i : Int)) = ((24 - 8 * i : Nat) : Int) := by omega
    rw [f_Reader_push_l2, if_neg (by rw [iZ_lit, iZ_lt ⟨by omega, by omega⟩ (bd_lit _ rfl)]; omega), lt_eq, h1, store_in (by decide) (by decide) (by omega) (by show ((len + i : Nat) : Int) < ((200 : Nat) : Int); omega), Int.toNat_natCast]
    rw [es, byteX p (by omega), ← es]
    obtain ⟨σ1, hσ1⟩ : ∃ σ1, σ1 = s_i σ 2 (len + i) (iZ ((uN p / 2 ^ (24 - 8 * i) % 256 : Nat) : Int)) := ⟨_, rfl⟩
    rw [← hσ1]
    have e1 : σ1.1 1 2 = iZ ((len + i : Nat) : Int) := by rw [hσ1, si_ne (Or.inl (by decide))]; exact h1
    have e2 : iZ ((len + i : Nat) : Int) + (1 : Int32) = iZ ((len + (i + 1) : Nat) : Int) := by rw [iZ_lit, iZ_add]; congr 1
    have e3 : iZ (24 - 8 * (i : Int)) + (-8 : Int32) = iZ (24 - 8 * ((i + 1 : Nat) : Int)) := by rw [show (-8 : Int32) = iZ (-8) from rfl, iZ_add]; congr 1; omega
    rw [e1, e2, e3]
    obtain ⟨σ', g1, g2, g3⟩ := ih (i + 1) n (s_i σ1 1 2 (iZ ((len + (i + 1) : Nat) : Int))) (by omega) hn' ⟨si_eq _ _ _ _, by omega, fun k hk => by
      rw [si_ne (Or.inl (by decide)), hσ1]
      by_cases c : k = len + i
      · subst c
        rw [si_eq, hT i (by omega)]
      · rw [si_ne (Or.inr c)]; exact h3 k (by omega)⟩
    exact ⟨σ', g1, g2, fr_trans (fr_trans (by rw [hσ1]; exact fr_si (frT2 _)) (fr_si rfl)) g3⟩
theorem push_ok {N : Nat} (hN : 5 ≤ N) {T : Nat → Int} {len : Nat} {p : Int32} (hl : len + 4 ≤ 200) (hT : ∀ j, j < 4 → T (len + j) = ((uN p / 2 ^ (24 - 8 * j) % 256 : Nat) : Int)) {σ : aSt} (hx : XT T len σ) : ∃ σ', f_Reader_push N p σ = some σ' ∧ XT T (len + 4) σ' ∧ fr frXT σ σ' := by
  unfold f_Reader_push
  exact push_l hl hT 4 0 N σ rfl hN hx
theorem feed_l {N : Nat} {T : Nat → Int} {len : Nat} {v : Nat → Int32} (hl : len + 20 ≤ 200) (hT : ∀ i, i < 20 → T (len + i) = ((uN (v (i / 4)) / 2 ^ (24 - 8 * (i % 4)) % 256 : Nat) : Int)) : ∀ (j i n : Nat) (τ : aSt), i + j = 20 → j + 1 ≤ n → τ.1 66 11 = iZ len → (∀ q, q < 5 → τ.1 71 q = v q) → (∀ k, k < len + i → τ.1 70 k = iZ (sb8 (T k))) → ∃ τ', f_M_feed_l35 N n (iZ (i : Int)) τ = some (iZ ((len + 20 : Nat) : Int), τ') ∧ MT' T (len + 20) τ' ∧ fr frMT τ τ' := by
  intro j
  induction j with
  | zero =>
    intro i n τ hi hn h1 h2 h3
    obtain ⟨n, rfl, _⟩ := fuel hn
    have e : i = 20 := by omega
    subst e
    have e2 : iZ (len : Int) + (20 : Int32) = iZ ((len + 20 : Nat) : Int) := by rw [iZ_lit, iZ_add]; congr 1
    rw [f_M_feed_l35, if_pos (by rw [iZ_lit, iZ_le (bd_lit _ rfl) ⟨by omega, by omega⟩]; omega), h1, e2]
    exact ⟨_, rfl, ⟨si_eq _ _ _ _, fun k hk => by rw [si_ne (Or.inl (by decide))]; exact h3 k hk⟩, fr_si rfl⟩
  | succ j ih =>
    intro i n τ hi hn h1 h2 h3
    obtain ⟨n, rfl, hn'⟩ := fuel hn
    have e1 : iZ (i : Int) / (4 : Int32) = iZ ((i / 4 : Nat) : Int) := by
      rw [iZ_lit, iZ_div ⟨by omega, by omega⟩ (bd_lit _ rfl)]; congr 1
    have e2 : irem (iZ (i : Int)) (4 : Int32) = iZ ((i % 4 : Nat) : Int) := by
      rw [iZ_lit, iZ_rem ⟨by omega, by omega⟩ (bd_lit _ rfl)]; congr 1
    have e3 : (24 : Int32) - (8 : Int32) * iZ ((i % 4 : Nat) : Int) = iZ ((24 - 8 * (i % 4) : Nat) : Int) := by
      rw [show (24 : Int32) = iZ 24 from rfl, show (8 : Int32) = iZ 8 from rfl, iZ_mul, iZ_sub]; congr 1; omega
    have e4 : iZ (len : Int) + iZ (i : Int) = iZ ((len + i : Nat) : Int) := by rw [iZ_add]; congr 1
    have e5 : iZ (i : Int) + (1 : Int32) = iZ ((i + 1 : Nat) : Int) := by rw [iZ_lit, iZ_add]; congr 1
    have c1 : 0 ≤ iZ ((i / 4 : Nat) : Int) ∧ iZ ((i / 4 : Nat) : Int) < (5 : Int32) := by
      rw [show (0 : Int32) = iZ 0 from rfl, show (5 : Int32) = iZ 5 from rfl, iZ_le (bd_lit _ rfl) ⟨by omega, by omega⟩, iZ_lt ⟨by omega, by omega⟩ (bd_lit _ rfl)]; omega
    have c2 : 0 ≤ iZ ((len + i : Nat) : Int) ∧ iZ ((len + i : Nat) : Int) < (200 : Int32) := by
      rw [show (0 : Int32) = iZ 0 from rfl, show (200 : Int32) = iZ 200 from rfl, iZ_le (bd_lit _ rfl) ⟨by omega, by omega⟩, iZ_lt ⟨by omega, by omega⟩ (bd_lit _ rfl)]; omega
    rw [f_M_feed_l35, if_neg (by rw [iZ_lit, iZ_le (bd_lit _ rfl) ⟨by omega, by omega⟩]; omega), e1, e2, e3, h1, e4, e5, if_pos c1, if_pos c2, iZ_idx (by omega) (by omega), iZ_idx (by omega) (by omega), Int.toNat_natCast, Int.toNat_natCast, h2 (i / 4) (by omega), byteM (v (i / 4)) (by omega), ← hT i (by omega)]
    obtain ⟨τ', g1, g2, g3⟩ := ih (i + 1) n (s_i τ 70 (len + i) (iZ (sb8 (T (len + i))))) (by omega) hn' (by rw [si_ne (Or.inl (by decide))]; exact h1) (fun q hq => by rw [si_ne (Or.inl (by decide))]; exact h2 q hq) (fun k hk => by
      by_cases c : k = len + i
      · subst c; rw [si_eq]
      · rw [si_ne (Or.inr c)]; exact h3 k (by omega))
    exact ⟨τ', g1, g2, fr_trans (fr_si (frU70 _)) g3⟩
def fdT (T : Nat → Int) (len : Nat) (v : Nat → Int32) (i : Nat) : Int := if i < len then T i else ((uN (v ((i - len) / 4)) / 2 ^ (24 - 8 * ((i - len) % 4)) % 256 : Nat) : Int)
def fv (p0 p1 p2 p3 p4 : Int32) (q : Nat) : Int32 := if q = 0 then p0 else if q = 1 then p1 else if q = 2 then p2 else if q = 3 then p3 else p4
theorem fdT_new {T : Nat → Int} {len : Nat} {v : Nat → Int32} (i : Nat) : fdT T len v (len + i) = ((uN (v (i / 4)) / 2 ^ (24 - 8 * (i % 4)) % 256 : Nat) : Int) := by
  unfold fdT
  rw [if_neg (by omega), Nat.add_sub_cancel_left]
theorem feed_eq {N : Nat} (hN : 100 ≤ N) {T : Nat → Int} {len : Nat} {σ τ : aSt} (hx : XT T len σ) (hm : MT' T len τ) (ho : okT T len) (p0 p1 p2 p3 p4 : Int32) : ∃ (r : Int32) (σ' τ' : aSt) (T' : Nat → Int) (len' : Nat), f_X_feed N p0 p1 p2 p3 p4 σ = some (r, σ') ∧ f_M_feed N p0 p1 p2 p3 p4 τ = some (r, τ') ∧ okT T' len' ∧ XT T' len' σ' ∧ MT' T' len' τ' ∧ fr frXT σ σ' ∧ fr frMT τ τ' := by
  obtain ⟨h1, h2, h3⟩ := id hx
  obtain ⟨m1, m2⟩ := id hm
  unfold f_X_feed f_M_feed f_Reader_length
  rw [h1, m1]
  have c : (iZ (len : Int) + (20 : Int32) ≤ (200 : Int32)) = (len + 20 ≤ 200) := by
    rw [show (20 : Int32) = iZ 20 from rfl, show (200 : Int32) = iZ 200 from rfl, iZ_add, iZ_le ⟨by omega, by omega⟩ (bd_lit _ rfl)]
    apply propext; omega
  simp only [c]
  by_cases hl : len + 20 ≤ 200
  · rw [if_pos hl, if_pos hl]
    obtain ⟨v, hv⟩ : ∃ v, v = fv p0 p1 p2 p3 p4 := ⟨_, rfl⟩
    obtain ⟨T', hT'⟩ : ∃ T', T' = fdT T len v := ⟨_, rfl⟩
    have nw : ∀ i, T' (len + i) = ((uN (v (i / 4)) / 2 ^ (24 - 8 * (i % 4)) % 256 : Nat) : Int) := fun i => by rw [hT']; exact fdT_new i
    have od : ∀ i, i < len → T' i = T i := fun i hi => by rw [hT']; unfold fdT; rw [if_pos hi]
    have nq : ∀ q, q < 5 → ∀ j, j < 4 → T' (len + 4 * q + j) = ((uN (v q) / 2 ^ (24 - 8 * j) % 256 : Nat) : Int) := fun q hq j hj => by
      rw [Nat.add_assoc, nw, show (4 * q + j) / 4 = q from by omega, show (4 * q + j) % 4 = j from by omega]
    have x0 : XT T' len σ := ⟨h1, h2, fun i hi => by rw [od i hi]; exact h3 i hi⟩
    obtain ⟨σ1, a1, a2, a3⟩ := push_ok (N := N) (p := p0) (by omega) (by omega) (fun j hj => by rw [show p0 = v 0 from by rw [hv]; rfl]; exact nq 0 (by omega) j hj) x0
    obtain ⟨σ2, b1, b2, b3⟩ := push_ok (N := N) (p := p1) (by omega) (by omega) (fun j hj => by rw [show p1 = v 1 from by rw [hv]; rfl]; exact nq 1 (by omega) j hj) a2
    obtain ⟨σ3, d1, d2, d3⟩ := push_ok (N := N) (p := p2) (by omega) (by omega) (fun j hj => by rw [show p2 = v 2 from by rw [hv]; rfl]; exact nq 2 (by omega) j hj) b2
    obtain ⟨σ4, k1, k2, k3⟩ := push_ok (N := N) (p := p3) (by omega) (by omega) (fun j hj => by rw [show p3 = v 3 from by rw [hv]; rfl]; exact nq 3 (by omega) j hj) d2
    obtain ⟨σ5, l1, l2, l3⟩ := push_ok (N := N) (p := p4) (by omega) (by omega) (fun j hj => by rw [show p4 = v 4 from by rw [hv]; rfl]; exact nq 4 (by omega) j hj) k2
    rw [a1, Option.bind_some, b1, Option.bind_some, d1, Option.bind_some, k1, Option.bind_some, l1, Option.bind_some]
    obtain ⟨τ1, hτ1⟩ : ∃ τ1, τ1 = s_i (s_i (s_i (s_i (s_i τ 71 0 p0) 71 1 p1) 71 2 p2) 71 3 p3) 71 4 p4 := ⟨_, rfl⟩
    rw [← hτ1]
    have f1 : fr frMT τ τ1 := by
      rw [hτ1]
      exact fr_trans (fr_trans (fr_trans (fr_trans (fr_si rfl) (fr_si rfl)) (fr_si rfl)) (fr_si rfl)) (fr_si rfl)
    have v1 : ∀ q, q < 5 → τ1.1 71 q = v q := fun q hq => by
      rw [hτ1, hv]
      rcases q with _ | _ | _ | _ | _ | q
      · rfl
      · rfl
      · rfl
      · rfl
      · rfl
      · omega
    obtain ⟨τ', g1, g2, g3⟩ := feed_l (N := N) hl (fun i _ => nw i) 20 0 N τ1 rfl (by omega) (by rw [hτ1]; exact m1) v1 (fun k hk => by
      rw [od k (by omega), show τ1.1 70 k = τ.1 70 k from by rw [hτ1]; rfl]; exact m2 k (by omega))
    refine ⟨iZ ((len + 20 : Nat) : Int), σ5, τ', T', len + 20, by rw [l2.1], g1, fun i hi => ?_, l2, g2, fr_trans (fr_trans (fr_trans (fr_trans a3 b3) d3) k3) l3, fr_trans f1 g3⟩
    by_cases c : i < len
    · rw [od i c]; exact ho i c
    · obtain ⟨k, rfl⟩ : ∃ k, i = len + k := ⟨i - len, by omega⟩
      rw [nw]
      have : uN (v (k / 4)) / 2 ^ (24 - 8 * (k % 4)) % 256 < 256 := Nat.mod_lt _ (by omega)
      omega
  · rw [if_neg hl, if_neg hl]
    exact ⟨_, _, _, T, len, rfl, rfl, ho, hx, hm, fr_refl _ _, fr_refl _ _⟩
