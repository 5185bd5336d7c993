/-! groupBy, bestBy -/
theorem ysF_mem {p r : Nat} : ∀ (j y z : Nat), z ∈ ysF p r j y → z * z % p = r ∧ y ≤ z ∧ z < y + j := by
  intro j
  induction j with
  | zero => intro y z h; cases h
  | succ j ih =>
    intro y z h
    rw [ysF_s] at h
    by_cases c : y * y % p = r
    · rw [if_pos c] at h
      rcases List.mem_cons.mp h with e | e
      · subst e; exact ⟨c, Nat.le_refl _, by omega⟩
      · have := ih (y + 1) z e; omega
    · rw [if_neg c] at h
      have := ih (y + 1) z h; omega
section BYP
variable {a b : Int}
theorem on_ys {p : Nat} (hp : p ∈ opr) {x y : Nat} (hx : x < p) (h : y ∈ ysF p (fvP p a b x) p 0) : onA p a b (x : Int) (y : Int) := by
  have hb := opr_bd p hp
  obtain ⟨h1, h2, h3⟩ := ysF_mem p 0 y h
  refine ⟨⟨by omega, by omega⟩, ⟨by omega, by omega⟩, ?_⟩
  have e1 : (y : Int) * y % p = (fvP p a b x : Int) := by rw [← Int.natCast_mul, ← Int.natCast_emod, h1]
  rw [fvP_int (by omega)] at e1
  exact Int.dvd_of_emod_eq_zero (Int.emod_eq_emod_iff_emod_sub_eq_zero.mp e1)
/-- the row of orders as far as it is filled -/
def OI (p : Nat) (a b : Int) (σ : aSt) : Prop := ∀ P : Int × Int, onE p a b (some P) → σ.1 37 (slE p (some P)) = 0 ∨ σ.1 37 (slE p (some P)) = iZ (ordP p a b (some P) : Int)
def frO3 : Nat → Nat → Bool := fun o k => Nat.beq o 37 || Nat.beq o 39 || (Nat.beq o 34 && (Nat.beq k 11 || Nat.beq k 12))
theorem frO_37 (k : Nat) : frO3 37 k = true := rfl
theorem frO_39 (k : Nat) : frO3 39 k = true := rfl
theorem TKN_O {p : Nat} {σ σ' : aSt} (hf : fr frO3 σ σ') (h : TKN p a b σ) : TKN p a b σ' := TKN_fr hf ⟨rfl, rfl, rfl⟩ (fun _ => rfl) (fun _ => rfl) h
def frO2 : Nat → Nat → Bool := fun o _ => Nat.beq o 37 || Nat.beq o 39
theorem frO2_37 (k : Nat) : frO2 37 k = true := rfl
theorem frO2_39 (k : Nat) : frO2 39 k = true := rfl
theorem frO2_3 {σ σ' : aSt} (h : fr frO2 σ σ') : fr frO3 σ σ' := fr_mono h (fun o k q => by
  unfold frO3 at q
  rw [Bool.or_eq_false_iff] at q
  exact q.1)
theorem TKN_O2 {p : Nat} {σ σ' : aSt} (hf : fr frO2 σ σ') (h : TKN p a b σ) : TKN p a b σ' := TKN_fr hf ⟨rfl, rfl, rfl⟩ (fun _ => rfl) (fun _ => rfl) h
theorem cd_some (x y : Int) : cdE (some (x, y)) = x * 128 + y := rfl
theorem fill30 {N : Nat} (hN : 10000 ≤ N) {p : Nat} (hp : p ∈ opr) (nb : ¬ (p : Int) ∣ b) (nd : ¬ (p : Int) ∣ a * a - 4 * b) {P : Int × Int} (hP : onE p a b (some P)) : ∀ (j k n : Nat) (σ : aSt), k + 1 + j = ordP p a b (some P) → j + 1 ≤ n → TKN p a b σ → OI p a b σ → (∀ i, i + 1 < ordP p a b (some P) → σ.1 39 i = iZ (cdE (mP p a b (some P) (i + 1)))) → (1 ≤ k → σ.1 37 (slE p (some P)) = iZ (ordP p a b (some P) : Int)) → ∃ σ', f_PrimeGroup_fillOrders_l30 N n (iZ ((ordP p a b (some P) : Int) - 1)) (iZ (ordP p a b (some P) : Int)) (iZ (k : Int)) σ = some σ' ∧ OI p a b σ' ∧ (2 ≤ ordP p a b (some P) → σ'.1 37 (slE p (some P)) = iZ (ordP p a b (some P) : Int)) ∧ fr frO2 σ σ' := by
  obtain ⟨o1, o2, o3, o4⟩ := ord_ok hp nb nd hP
  intro j
  induction j with
  | zero =>
    intro k n σ hk hn ht hO hch h1
    obtain ⟨n, rfl, _⟩ := fuel hn
    rw [f_PrimeGroup_fillOrders_l30, if_pos (by rw [iZ_le ⟨by omega, by omega⟩ ⟨by omega, by omega⟩]; omega)]
    exact ⟨σ, rfl, hO, fun h => h1 (by omega), fr_refl _ _⟩
  | succ j ih =>
    intro k n σ hk hn ht hO hch h1
    obtain ⟨n, rfl, hn'⟩ := fuel hn
    have on1 := mP_on hp hP (k + 1)
    have nn := o4 (k + 1) (by omega) (by omega)
    cases hr : mP p a b (some P) (k + 1) with
    | none => exact absurd hr nn
    | some R =>
      rw [hr] at on1
      have sl := slE_lt hp on1
      have sl2 : slE p (some R) < 194 := by
        have hb := opr_bd p hp
        obtain ⟨x, y⟩ := R
        have q := on1.1
        show 2 * x.toNat + (if (p : Int) < 2 * y then 1 else 0) < 194
        simp only at q
        split <;> omega
      have og := ord_mul hp nb nd hP (k + 1)
      rw [hr] at og
      rw [f_PrimeGroup_fillOrders_l30, if_neg (by rw [iZ_le ⟨by omega, by omega⟩ ⟨by omega, by omega⟩]; omega), i1, i2j ⟨by omega, by omega⟩, i2j ⟨by omega, by omega⟩, gcd_Z hN ⟨by omega, by omega⟩ ⟨by omega, by omega⟩, Option.bind_some, lt_eq, pick_in (by decide) (by decide) (by omega) (by show (k : Int) < ((200 : Nat) : Int); omega), Int.toNat_natCast, hch k (by omega), hr, slotX hp ht on1, store_in (by decide) (by decide) (by omega) (by show (slE p (some R) : Int) < ((194 : Nat) : Int); omega), Int.toNat_natCast]
      have eg : Int.gcd (ordP p a b (some P) : Int) ((k + 1 : Nat) : Int) = Nat.gcd (ordP p a b (some P)) (k + 1) := rfl
      have gl : Nat.gcd (ordP p a b (some P)) (k + 1) ≤ ordP p a b (some P) := Nat.le_of_dvd (by omega) (Nat.gcd_dvd_left _ _)
      have eq : (f_Whole_quotient (jZ (ordP p a b (some P) : Int)) (jZ (Int.gcd (ordP p a b (some P) : Int) ((k + 1 : Nat) : Int) : Int))).toInt32 = iZ (ordP p a b (some R) : Int) := by
        rw [eg, quot_Z ⟨by omega, by omega⟩ ⟨by omega, by omega⟩, j2i, nat_div, og]
      rw [eq]
      have f1 : fr frO2 σ (s_i σ 37 (slE p (some R)) (iZ (ordP p a b (some R) : Int))) := fr_si (frO2_37 _)
      have hO' : OI p a b (s_i σ 37 (slE p (some R)) (iZ (ordP p a b (some R) : Int))) := fun Q hQ => by
        by_cases c : slE p (some Q) = slE p (some R)
        · have e := slE_inj hp hQ on1 c
          rw [e, si_eq]; exact Or.inr rfl
        · rw [si_ne (Or.inr c)]; exact hO Q hQ
      obtain ⟨σ', g1, g2, g3, g4⟩ := ih (k + 1) n _ (by omega) hn' (TKN_O2 f1 ht) hO' (fun i hi => by rw [si_ne (Or.inl (by decide))]; exact hch i hi) (fun _ => by
        rcases hO' P hP with z | z
        · exfalso
          by_cases c : slE p (some P) = slE p (some R)
          · rw [c, si_eq] at z
            have := (ord_ok hp nb nd on1).1
            have := (ord_ok hp nb nd on1).2.1
            rw [show (0 : Int32) = iZ 0 from rfl, iZ_eq ⟨by omega, by omega⟩ (bd_lit _ rfl)] at z
            omega
          · rcases Nat.eq_zero_or_pos k with k0 | k0
            · subst k0
              have e1 : mP p a b (some P) (0 + 1) = some P := rfl
              rw [hr] at e1
              exact c (by rw [e1])
            · rw [si_ne (Or.inr c), h1 k0] at z
              rw [show (0 : Int32) = iZ 0 from rfl, iZ_eq ⟨by omega, by omega⟩ (bd_lit _ rfl)] at z
              omega
        · exact z)
      exact ⟨σ', g1, g2, g3, fr_trans f1 g4⟩
theorem fill6 {N : Nat} (hN : 10000 ≤ N) {p : Nat} (hp : p ∈ opr) (nb : ¬ (p : Int) ∣ b) (nd : ¬ (p : Int) ∣ a * a - 4 * b) {P : Int × Int} (hP : onE p a b (some P)) : ∀ (j k n : Nat) (σ : aSt), k + 1 + j = ordP p a b (some P) → j + 1 ≤ n → TKN p a b σ → OI p a b σ → (∀ i, i < k → σ.1 39 i = iZ (cdE (mP p a b (some P) (i + 1)))) → ∃ σ', f_PrimeGroup_fillOrders_l6 N n (iZ (cdE (some P))) (iZ (k : Int)) (iZ (cdE (mP p a b (some P) (k + 1)))) (iZ (k : Int)) σ = some σ' ∧ OI p a b σ' ∧ (2 ≤ ordP p a b (some P) → σ'.1 37 (slE p (some P)) = iZ (ordP p a b (some P) : Int)) ∧ fr frO2 σ σ' := by
  obtain ⟨o1, o2, o3, o4⟩ := ord_ok hp nb nd hP
  intro j
  induction j with
  | zero =>
    intro k n σ hk hn ht hO hch
    obtain ⟨n, rfl, _⟩ := fuel hn
    rw [f_PrimeGroup_fillOrders_l6, if_neg (by rw [show (200 : Int32) = iZ 200 from rfl, iZ_le (bd_lit _ rfl) ⟨by omega, by omega⟩]; omega), if_pos (by rw [(cdE_neg hp (mP_on hp hP _)).1, show k + 1 = ordP p a b (some P) by omega]; exact o3)]
    unfold f_PrimeGroup_fillOrders_b24
    rw [i1, show k + 1 = ordP p a b (some P) by omega, show (k : Int) = (ordP p a b (some P) : Int) - 1 by omega]
    exact fill30 hN hp nb nd hP (ordP p a b (some P) - 1) 0 N σ (by omega) (by omega) ht hO (fun i hi => hch i (by omega)) (fun h => by omega)
  | succ j ih =>
    intro k n σ hk hn ht hO hch
    obtain ⟨n, rfl, hn'⟩ := fuel hn
    rw [f_PrimeGroup_fillOrders_l6, if_neg (by rw [show (200 : Int32) = iZ 200 from rfl, iZ_le (bd_lit _ rfl) ⟨by omega, by omega⟩]; omega), if_neg (by rw [(cdE_neg hp (mP_on hp hP _)).1]; exact o4 _ (by omega) (by omega)), lt_eq, store_in (by decide) (by decide) (by omega) (by show (k : Int) < ((200 : Nat) : Int); omega), Int.toNat_natCast]
    have f1 : fr frO2 σ (s_i σ 39 k (iZ (cdE (mP p a b (some P) (k + 1))))) := fr_si (frO2_39 _)
    rw [addX hp (TKN_O2 f1 ht) (mP_on hp hP _) hP, Option.bind_some, i1, ← mP_s]
    obtain ⟨σ', g1, g2, g3, g4⟩ := ih (k + 1) n _ (by omega) hn' (TKN_O2 f1 ht) (fun Q hQ => by rw [si_ne (Or.inl (by decide))]; exact hO Q hQ) (fun i hi => by
      by_cases c : i = k
      · subst c; exact si_eq _ _ _ _
      · rw [si_ne (Or.inr c)]; exact hch i (by omega))
    exact ⟨σ', g1, g2, g3, fr_trans f1 g4⟩
/-- the best so far -/
def okB (s : Int × Int × Int) : Prop := 1 ≤ s.1 ∧ s.1 ≤ 195 ∧ ((s.2.1 = -1 ∧ s.2.2 = -1) ∨ ((0 ≤ s.2.1 ∧ s.2.1 < 97) ∧ (0 ≤ s.2.2 ∧ s.2.2 < 97)))
def XBs (s : Int × Int × Int) (σ : aSt) : Prop := σ.1 34 11 = iZ s.1 ∧ σ.1 34 12 = iZ (cdB s)
def MBs (s : Int × Int × Int) (τ : aSt) : Prop := τ.1 66 35 = iZ s.1 ∧ τ.1 66 36 = iZ s.2.1 ∧ τ.1 66 37 = iZ s.2.2
theorem okB_upd {p : Nat} (hp : p ∈ opr) (nb : ¬ (p : Int) ∣ b) (nd : ¬ (p : Int) ∣ a * a - 4 * b) {x y : Nat} (h : onA p a b (x : Int) (y : Int)) {s : Int × Int × Int} (hs : okB s) : okB (updE p a b x s y) := by
  have hb := opr_bd p hp
  have hP : onE p a b (some ((x : Int), (y : Int))) := h
  obtain ⟨o1, o2, _, _⟩ := ord_ok hp nb nd hP
  have q1 := h.1; have q2 := h.2.1
  unfold updE
  split
  · exact ⟨by show (1 : Int) ≤ _; omega, by show _ ≤ (195 : Int); omega, Or.inr ⟨⟨q1.1, by show (x : Int) < 97; omega⟩, ⟨q2.1, by show (y : Int) < 97; omega⟩⟩⟩
  · exact hs
theorem weighX {N : Nat} (hN : 10000 ≤ N) {p : Nat} (hp : p ∈ opr) (nb : ¬ (p : Int) ∣ b) (nd : ¬ (p : Int) ∣ a * a - 4 * b) {x y : Nat} (h : onA p a b (x : Int) (y : Int)) {s : Int × Int × Int} (hs : okB s) {σ : aSt} (ht : TKN p a b σ) (hO : OI p a b σ) (hB : XBs s σ) : ∃ σ', f_PrimeGroup_weigh N (iZ ((x : Int) * 128 + y)) σ = some σ' ∧ TKN p a b σ' ∧ OI p a b σ' ∧ XBs (updE p a b x s y) σ' ∧ fr frO3 σ σ' := by
  have hb := opr_bd p hp
  have hP : onE p a b (some ((x : Int), (y : Int))) := h
  obtain ⟨o1, o2, o3, o4⟩ := ord_ok hp nb nd hP
  have o5 : 2 ≤ ordP p a b (some ((x : Int), (y : Int))) := by
    rcases Nat.lt_or_ge (ordP p a b (some ((x : Int), (y : Int)))) 2 with q | q
    · rw [show ordP p a b (some ((x : Int), (y : Int))) = 1 by omega] at o3
      cases o3
    · exact q
  have sl := slE_lt hp hP
  have sl2 : slE p (some ((x : Int), (y : Int))) < 194 := by
    have q := h.1
    show 2 * ((x : Int)).toNat + (if (p : Int) < 2 * (y : Int) then 1 else 0) < 194
    split <;> omega
  have key : ∀ σ1, TKN p a b σ1 → OI p a b σ1 → XBs s σ1 → σ1.1 37 (slE p (some ((x : Int), (y : Int)))) = iZ (ordP p a b (some ((x : Int), (y : Int))) : Int) → ∃ σ', f_PrimeGroup_weigh_b10 N (iZ ((x : Int) * 128 + y)) σ1 = some σ' ∧ TKN p a b σ' ∧ OI p a b σ' ∧ XBs (updE p a b x s y) σ' ∧ fr frO3 σ1 σ' := fun σ1 t1 O1 B1 e1 => by
    unfold f_PrimeGroup_weigh_b10 updE
    have es : f_PrimeGroup_slotOf (iZ ((x : Int) * 128 + y)) σ1 = iZ (slE p (some ((x : Int), (y : Int))) : Int) := by rw [← cd_some]; exact slotX hp t1 hP
    have h1 := hs.1; have h2 := hs.2.1
    rw [es, pick_in (by decide) (by decide) (by omega) (by show (slE p (some ((x : Int), (y : Int))) : Int) < ((194 : Nat) : Int); omega), Int.toNat_natCast, e1, B1.1]
    have cc : (iZ (ordP p a b (some ((x : Int), (y : Int))) : Int) ≤ iZ s.1) = ((ordP p a b (some ((x : Int), (y : Int))) : Int) ≤ s.1) := iZ_le ⟨by omega, by omega⟩ ⟨by omega, by omega⟩
    simp only [cc]
    by_cases d : (ordP p a b (some ((x : Int), (y : Int))) : Int) ≤ s.1
    · rw [if_pos d, if_neg (by omega)]
      exact ⟨σ1, rfl, t1, O1, B1, fr_refl _ _⟩
    · rw [if_neg d, if_pos (by omega)]
      have f : fr frO3 σ1 (s_i (s_i σ1 34 11 (iZ (ordP p a b (some ((x : Int), (y : Int))) : Int))) 34 12 (iZ ((x : Int) * 128 + y))) := fr_trans (fr_si rfl) (fr_si rfl)
      refine ⟨_, rfl, TKN_O f t1, fun Q hQ => by rw [si_ne (Or.inl (by decide)), si_ne (Or.inl (by decide))]; exact O1 Q hQ, ⟨by rw [si_ne (Or.inr (by decide))]; exact si_eq _ _ _ _, ?_⟩, f⟩
      rw [si_eq]
      unfold cdB
      rw [if_neg (by show ¬ (x : Int) < 0; omega)]
  unfold f_PrimeGroup_weigh
  have es : f_PrimeGroup_slotOf (iZ ((x : Int) * 128 + y)) σ = iZ (slE p (some ((x : Int), (y : Int))) : Int) := by rw [← cd_some]; exact slotX hp ht hP
  rw [es, pick_in (by decide) (by decide) (by omega) (by show (slE p (some ((x : Int), (y : Int))) : Int) < ((194 : Nat) : Int); omega), Int.toNat_natCast]
  by_cases c : σ.1 37 (slE p (some ((x : Int), (y : Int)))) = 0
  · rw [if_neg (fun z => z c)]
    obtain ⟨σ1, g1, g2, g3, g4⟩ := fill6 (N := N) hN hp nb nd hP (ordP p a b (some ((x : Int), (y : Int))) - 1) 0 N σ (by omega) (by omega) ht hO (fun i hi => by omega)
    have g1' : f_PrimeGroup_fillOrders N (iZ ((x : Int) * 128 + y)) σ = some σ1 := by
      rw [← cd_some]; exact g1
    rw [g1', Option.bind_some]
    have B1 : XBs s σ1 := ⟨by rw [(g4 34 11 rfl).1]; exact hB.1, by rw [(g4 34 12 rfl).1]; exact hB.2⟩
    obtain ⟨σ', k1, k2, k3, k4, k5⟩ := key σ1 (TKN_O2 g4 ht) g2 B1 (g3 o5)
    exact ⟨σ', k1, k2, k3, k4, fr_trans (frO2_3 g4) k5⟩
  · rw [if_pos c]
    rcases hO _ hP with z | z
    · exact absurd z c
    · exact key σ ht hO hB z
end BYP
