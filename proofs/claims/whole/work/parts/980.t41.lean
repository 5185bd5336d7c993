/-! CLASSES: the class's table 41 is prepared (printed by g980.py) -/
def frJ_41 : Nat → Nat → Bool := fun o _ => Nat.beq o 44 || Nat.beq o 45 || Nat.beq o 46 || Nat.beq o 47 || Nat.beq o 48
def frX_41 : Nat → Nat → Bool := fun o k => frJ_41 o k || Nat.beq o 42 || Nat.beq o 43 || (Nat.beq o 41 && (Nat.beq k 7 || Nat.beq k 8 || Nat.beq k 9))
theorem frJ_41_X {σ σ' : aSt} (h : fr frJ_41 σ σ') : fr frX_41 σ σ' := fr_mono h (fun o k q => by
  unfold frX_41 at q
  rw [Bool.or_eq_false_iff, Bool.or_eq_false_iff, Bool.or_eq_false_iff] at q
  exact q.1.1.1)
theorem frM_41_J {σ σ' : aSt} (h : fr frM_41 σ σ') : fr frJ_41 σ σ' := fr_mono h (fun o k q => by
  unfold frJ_41 at q
  rw [Bool.or_eq_false_iff, Bool.or_eq_false_iff] at q
  exact q.1.2)
theorem frD_41_X {σ σ' : aSt} (h : fr frD_41 σ σ') : fr frX_41 σ σ' := fr_mono h (fun o k q => by
  unfold frX_41 at q
  unfold frD_41
  rw [Bool.or_eq_false_iff, Bool.or_eq_false_iff, Bool.or_eq_false_iff] at q
  rw [q.1.1.2, q.1.2]
  have := q.2
  cases h1 : Nat.beq o 41 with
  | false => rfl
  | true =>
    rw [h1] at this
    cases h2 : Nat.beq k 7 with
    | false => rfl
    | true => rw [h2] at this; exact absurd this (by simp))
/-- what the table holds of one CLASS -/
def JD_41 (A B : Int) (L : List Nat) (k : Nat) (σ : aSt) : Prop := σ.1 44 k = iZ (if psK A B L k = true then 1 else 0) ∧ (sqF A B (dvK L k) = none → σ.1 45 k = iZ (-1)) ∧ ∀ m e, sqF A B (dvK L k) = some (m, e) → σ.1 45 k = iZ ((m : Nat) : Int) ∧ σ.1 46 k = iZ ((e : Nat) : Int)
theorem JD_41_eq {A B : Int} {L : List Nat} {k : Nat} {σ σ' : aSt} (h1 : σ'.1 44 k = σ.1 44 k) (h2 : σ'.1 45 k = σ.1 45 k) (h3 : σ'.1 46 k = σ.1 46 k) (h : JD_41 A B L k σ) : JD_41 A B L k σ' := by
  unfold JD_41
  rw [h1, h2, h3]; exact h
/-- while CLASSES are judged -/
def JS_41 (A B : Int) (L : List (Nat × Nat)) (k : Nat) (S : Nat → Bool) (σ : aSt) : Prop := (σ.1 41 7 = iZ (L.length : Int) ∧ σ.1 41 8 = iZ A ∧ σ.1 41 9 = iZ B ∧ XA_41 L σ ∧ CM σ) ∧ (∀ i, i < k → JD_41 A B (L.map Prod.fst) i σ) ∧ MS_41 S σ ∧ SI L (fdK A B (L.map Prod.fst)) k S ∧ σ.1 48 1 = iZ ((cnB (fdK A B (L.map Prod.fst)) k : Nat) : Int) ∧ σ.1 48 2 = iZ ((cnB (psK A B (L.map Prod.fst)) k : Nat) : Int)
theorem base_41 {A B : Int} {L : List (Nat × Nat)} {σ σ' : aSt} (hf : fr frJ_41 σ σ') (h : σ.1 41 7 = iZ (L.length : Int) ∧ σ.1 41 8 = iZ A ∧ σ.1 41 9 = iZ B ∧ XA_41 L σ ∧ CM σ) : σ'.1 41 7 = iZ (L.length : Int) ∧ σ'.1 41 8 = iZ A ∧ σ'.1 41 9 = iZ B ∧ XA_41 L σ' ∧ CM σ' := ⟨by rw [(hf 41 7 rfl).1]; exact h.1, by rw [(hf 41 8 rfl).1]; exact h.2.1, by rw [(hf 41 9 rfl).1]; exact h.2.2.1, XA_41_fr hf (fun _ => rfl) (fun _ => rfl) h.2.2.2.1, CM_fr hf (fun _ => rfl) (fun _ => rfl) (fun _ => rfl) h.2.2.2.2⟩
theorem judge_41 {N : Nat} (hN : 10000 ≤ N) {A B : Int} (hv : VC A B) {L : List (Nat × Nat)} (hc : CT B.natAbs L) {k : Nat} (hk : k < 2 * L.length) {S : Nat → Bool} {σ : aSt} (h : JS_41 A B L k S σ) : ∃ S' σ', f_ClassTable_judge_41 N (iZ (k : Int)) σ = some σ' ∧ JS_41 A B L (k + 1) S' σ' ∧ fr frJ_41 σ σ' := by
  have eL := ct_cd hv hc
  have hl := ct_len hc
  have hB1 := hv.2.1.1; have hB2 := hv.2.1.2; have hB0 := hv.2.2.1
  have kL : k < 2 * (cdN B.natAbs).length := by rw [← eL, List.length_map]; exact hk
  have hdv := dv_ok hv kL
  rw [← eL] at hdv
  obtain ⟨d0, db, ddv, dc0⟩ := hdv
  have nf : psK A B (L.map Prod.fst) k = false → sqF A B (dvK (L.map Prod.fst) k) = none := fun z => by
    rw [eL] at z ⊢; exact found_no hv kL z
  obtain ⟨hb, hJ, hS, hI, t1, t2⟩ := h
  obtain ⟨h7, h8, h9, hX, hM⟩ := hb
  unfold f_ClassTable_judge_41
  rw [dv_41 hX hl hk, may_41 hN hv.1 hv.2.1 db d0 dc0 h8 h9 hM, Option.bind_some]
  have sP : ∀ (τ : aSt) (v : Int32), f_store τ 44 (iZ (k : Int)) v = s_i τ 44 k v := fun τ v => stN (n := 64) (by decide) rfl (by omega) (by omega)
  have sF : ∀ (τ : aSt) (v : Int32), f_store τ 45 (iZ (k : Int)) v = s_i τ 45 k v := fun τ v => stN (n := 64) (by decide) rfl (by omega) (by omega)
  have sL : ∀ (τ : aSt) (i : Nat) (v : Int32), i < 4 → f_store τ 48 (iZ (i : Int)) v = s_i τ 48 i v := fun τ i v hi => stN (n := 4) (by decide) rfl (by omega) hi
  have pL : ∀ (τ : aSt) (i : Nat), i < 4 → f_ClassTable_tally_41 (iZ (i : Int)) τ = τ.1 48 i := fun τ i hi => pkN (n := 4) (by decide) rfl (by omega) hi
  have b1 := cnB_le (fdK A B (L.map Prod.fst)) k
  have b2 := cnB_le (psK A B (L.map Prod.fst)) k
  show ∃ S' σ', (if psB A B (dvK (L.map Prod.fst) k) = true then f_ClassTable_judge_41_b16 N (iZ (k : Int)) (iZ (dvK (L.map Prod.fst) k)) (psB A B (dvK (L.map Prod.fst) k)) (iZ (k : Int)) (1 : Int32) σ else f_ClassTable_judge_41_b16 N (iZ (k : Int)) (iZ (dvK (L.map Prod.fst) k)) (psB A B (dvK (L.map Prod.fst) k)) (iZ (k : Int)) (0 : Int32) σ) = some σ' ∧ _ ∧ _
  cases hp : psB A B (dvK (L.map Prod.fst) k) with
  | false =>
    rw [if_neg ff_tt]
    unfold f_ClassTable_judge_41_b16
    simp only [lt_eq]
    rw [sP, sF, if_neg ff_tt]
    have hn := nf hp
    have hfd : fdK A B (L.map Prod.fst) k = false := by unfold fdK; rw [hn]; rfl
    have f1 : fr frJ_41 σ (s_i (s_i σ 44 k (0 : Int32)) 45 k (-1 : Int32)) := fr_trans (fr_si rfl) (fr_si rfl)
    refine ⟨S, _, rfl, ⟨base_41 f1 ⟨h7, h8, h9, hX, hM⟩, fun i hi => ?_, fun m hm => ?_, SI_skip hI (fun z => by rw [hfd] at z; exact absurd z ff_tt), ?_, ?_⟩, f1⟩
    · by_cases e : i = k
      · subst e
        refine ⟨?_, fun _ => ?_, fun m e z => by rw [hn] at z; cases z⟩
        · rw [si_ne (Or.inl (by decide)), si_eq]
          unfold psK
          rw [hp]; rfl
        · rw [si_eq]; decide
      · exact JD_41_eq (by rw [si_ne (Or.inr e), si_ne (Or.inr e)]) (by rw [si_ne (Or.inr e), si_ne (Or.inr e)]) (by rw [si_ne (Or.inr e), si_ne (Or.inr e)]) (hJ i (by omega))
    · rw [si_ne (Or.inl (by decide)), si_ne (Or.inl (by decide))]; exact hS m hm
    · rw [si_ne (Or.inl (by decide)), si_ne (Or.inl (by decide)), cnB_s, hfd, if_neg ff_tt]; exact t1
    · rw [si_ne (Or.inl (by decide)), si_ne (Or.inl (by decide)), cnB_s, show psK A B (L.map Prod.fst) k = false from hp, if_neg ff_tt]; exact t2
  | true =>
    rw [if_pos rfl]
    unfold f_ClassTable_judge_41_b16
    simp only [lt_eq]
    rw [sP, sF, if_pos trivial]
    have e2 : ∀ τ : aSt, f_ClassTable_tally_41 (2 : Int32) τ = τ.1 48 2 := fun τ => pL τ 2 (by omega)
    have e1 : ∀ τ : aSt, f_ClassTable_tally_41 (1 : Int32) τ = τ.1 48 1 := fun τ => pL τ 1 (by omega)
    have s2 : ∀ (τ : aSt) (v : Int32), f_store τ 48 (2 : Int32) v = s_i τ 48 2 v := fun τ v => sL τ 2 v (by omega)
    have s1 : ∀ (τ : aSt) (v : Int32), f_store τ 48 (1 : Int32) v = s_i τ 48 1 v := fun τ v => sL τ 1 v (by omega)
    rw [e2, s2, si_ne (Or.inl (by decide)), si_ne (Or.inl (by decide)), t2, i1]
    have hps : psK A B (L.map Prod.fst) k = true := hp
    have c2 : cnB (psK A B (L.map Prod.fst)) (k + 1) = cnB (psK A B (L.map Prod.fst)) k + 1 := by rw [cnB_s, hps, if_pos rfl]
    obtain ⟨τ, hτ⟩ : ∃ τ, τ = s_i (s_i (s_i σ 44 k (1 : Int32)) 45 k (-1 : Int32)) 48 2 (iZ ((cnB (psK A B (L.map Prod.fst)) k + 1 : Nat) : Int)) := ⟨_, rfl⟩
    rw [← hτ]
    have f1 : fr frJ_41 σ τ := by rw [hτ]; exact fr_trans (fr_trans (fr_si rfl) (fr_si rfl)) (fr_si rfl)
    have B1 := base_41 f1 ⟨h7, h8, h9, hX, hM⟩
    have oP : ∀ i, i ≠ k → τ.1 44 i = σ.1 44 i := fun i e => by rw [hτ, si_ne (Or.inl (by decide)), si_ne (Or.inl (by decide)), si_ne (Or.inr e)]
    have oF : ∀ i, i ≠ k → τ.1 45 i = σ.1 45 i := fun i e => by rw [hτ, si_ne (Or.inl (by decide)), si_ne (Or.inr e), si_ne (Or.inl (by decide))]
    have oE : ∀ i, τ.1 46 i = σ.1 46 i := fun i => by rw [hτ, si_ne (Or.inl (by decide)), si_ne (Or.inl (by decide)), si_ne (Or.inl (by decide))]
    have kP : τ.1 44 k = 1 := by rw [hτ, si_ne (Or.inl (by decide)), si_ne (Or.inl (by decide)), si_eq]
    have kF : τ.1 45 k = (-1 : Int32) := by rw [hτ, si_ne (Or.inl (by decide)), si_eq]
    have kS : MS_41 S τ := fun m hm => by rw [hτ, si_ne (Or.inl (by decide)), si_ne (Or.inl (by decide)), si_ne (Or.inl (by decide))]; exact hS m hm
    have k1 : τ.1 48 1 = iZ ((cnB (fdK A B (L.map Prod.fst)) k : Nat) : Int) := by rw [hτ, si_ne (Or.inr (by decide)), si_ne (Or.inl (by decide)), si_ne (Or.inl (by decide))]; exact t1
    have k2 : τ.1 48 2 = iZ ((cnB (psK A B (L.map Prod.fst)) (k + 1) : Nat) : Int) := by rw [hτ, si_eq, c2]
    rw [sr_41 hN hv.1 hv.2.1 db (by omega) B1.2.1 B1.2.2.1]
    have pF : ∀ ρ : aSt, f_ClassTable_isFound_41 (iZ (k : Int)) ρ = if ρ.1 45 k < 0 then false else true := fun ρ => by
      unfold f_ClassTable_isFound_41
      rw [pkN (n := 64) (by decide) rfl (by omega) (by omega)]
    cases hq : sqF A B (dvK (L.map Prod.fst) k) with
    | none =>
      have hfd : fdK A B (L.map Prod.fst) k = false := by unfold fdK; rw [hq]; rfl
      show ∃ S' σ', (if f_ClassTable_isFound_41 (iZ (k : Int)) τ = true then _ else some τ) = some σ' ∧ _ ∧ _
      rw [pF, kF, if_pos (show (-1 : Int32) < 0 by decide), if_neg ff_tt]
      refine ⟨S, τ, rfl, ⟨B1, fun i hi => ?_, kS, SI_skip hI (fun z => by rw [hfd] at z; exact absurd z ff_tt), ?_, k2⟩, f1⟩
      · by_cases e : i = k
        · subst e
          refine ⟨by rw [kP, hps]; rfl, fun _ => by rw [kF]; decide, fun m e z => by rw [hq] at z; cases z⟩
        · exact JD_41_eq (oP i e) (oF i e) (oE i) (hJ i (by omega))
      · rw [cnB_s, hfd, if_neg ff_tt]; exact k1
    | some me =>
      obtain ⟨m, e⟩ := me
      have hin := sqF_in hq
      have hfd : fdK A B (L.map Prod.fst) k = true := by unfold fdK; rw [hq]; rfl
      obtain ⟨ρ, hρ⟩ : ∃ ρ, ρ = s_i (s_i τ 45 k (iZ (m : Int))) 46 k (iZ (e : Int)) := ⟨_, rfl⟩
      show ∃ S' σ', (if f_ClassTable_isFound_41 (iZ (k : Int)) (s_i (s_i τ 45 k (iZ (m : Int))) 46 k (iZ (e : Int))) = true then _ else _) = some σ' ∧ _ ∧ _
      rw [← hρ]
      have f2 : fr frJ_41 τ ρ := by rw [hρ]; exact fr_trans (fr_si rfl) (fr_si rfl)
      have rF : ρ.1 45 k = iZ (m : Int) := by rw [hρ, si_ne (Or.inl (by decide)), si_eq]
      have rE : ρ.1 46 k = iZ (e : Int) := by rw [hρ, si_eq]
      rw [pF, rF, if_neg (c := iZ (m : Int) < 0) (by rw [show (0 : Int32) = iZ 0 from rfl, iZ_lt ⟨by omega, by omega⟩ (bd_lit _ rfl)]; omega), if_pos rfl, e1, s1]
      have r1 : ρ.1 48 1 = iZ ((cnB (fdK A B (L.map Prod.fst)) k : Nat) : Int) := by rw [hρ, si_ne (Or.inl (by decide)), si_ne (Or.inl (by decide))]; exact k1
      rw [r1, i1]
      obtain ⟨υ, hυ⟩ : ∃ υ, υ = s_i ρ 48 1 (iZ ((cnB (fdK A B (L.map Prod.fst)) k + 1 : Nat) : Int)) := ⟨_, rfl⟩
      rw [← hυ]
      have f3 : fr frJ_41 ρ υ := by rw [hυ]; exact fr_si rfl
      have f13 := fr_trans f1 (fr_trans f2 f3)
      have B3 := base_41 f13 ⟨h7, h8, h9, hX, hM⟩
      have uS : MS_41 S υ := fun x hx => by rw [hυ, si_ne (Or.inl (by decide)), hρ, si_ne (Or.inl (by decide)), si_ne (Or.inl (by decide))]; exact kS x hx
      rw [mk_41 B3.2.2.2.1 hl hk]
      obtain ⟨σ', g1, g2, g3⟩ := mp_41 (N := N) hN (msk_lt hc hk) uS
      rw [g1, Option.bind_some]
      have f4 := fr_trans f13 (frM_41_J g3)
      have rP : ∀ i, ρ.1 44 i = τ.1 44 i := fun i => by rw [hρ, si_ne (Or.inl (by decide)), si_ne (Or.inl (by decide))]
      have uP : ∀ i, σ'.1 44 i = τ.1 44 i := fun i => by rw [(g3 44 i rfl).1, hυ, si_ne (Or.inl (by decide)), rP]
      have uF : ∀ i, σ'.1 45 i = ρ.1 45 i := fun i => by rw [(g3 45 i rfl).1, hυ, si_ne (Or.inl (by decide))]
      have uE : ∀ i, σ'.1 46 i = ρ.1 46 i := fun i => by rw [(g3 46 i rfl).1, hυ, si_ne (Or.inl (by decide))]
      have nF : ∀ i, i ≠ k → ρ.1 45 i = τ.1 45 i := fun i z => by rw [hρ, si_ne (Or.inl (by decide)), si_ne (Or.inr z)]
      have nE : ∀ i, i ≠ k → ρ.1 46 i = τ.1 46 i := fun i z => by rw [hρ, si_ne (Or.inr z), si_ne (Or.inl (by decide))]
      refine ⟨_, σ', rfl, ⟨base_41 f4 ⟨h7, h8, h9, hX, hM⟩, fun i hi => ?_, g2, ?_, ?_, ?_⟩, f4⟩
      · by_cases z : i = k
        · subst z
          refine ⟨by rw [uP, kP, hps]; rfl, fun w => (by rw [hq] at w; cases w), fun m' e' w => ?_⟩
          rw [hq] at w
          have w' := Option.some.inj w
          have w1 : m = m' := congrArg Prod.fst w'
          have w2 : e = e' := congrArg Prod.snd w'
          subst w1; subst w2
          exact ⟨by rw [uF, rF], by rw [uE, rE]⟩
        · exact JD_41_eq (by rw [uP, oP i z]) (by rw [uF, nF i z, oF i z]) (by rw [uE, nE i z, oE i]) (hJ i (by omega))
      · by_cases z : S (mskK L k) = true
        · rw [if_pos z]; exact SI_skip hI (fun _ => z)
        · rw [if_neg z]; exact SI_add hc (by omega) hI hk hfd
      · rw [(g3 48 1 rfl).1, hυ, si_eq, cnB_s, hfd, if_pos rfl]
      · rw [(g3 48 2 rfl).1, hυ, si_ne (Or.inr (by decide)), hρ, si_ne (Or.inl (by decide)), si_ne (Or.inl (by decide))]; exact k2
/-- the table as it stands when it is prepared -/
def XTb_41 (A B : Int) (σ : aSt) : Prop := ∃ L S, CT B.natAbs L ∧ VC A B ∧ (σ.1 41 7 = iZ (L.length : Int) ∧ σ.1 41 8 = iZ A ∧ σ.1 41 9 = iZ B ∧ XA_41 L σ) ∧ (∀ i, i < 2 * L.length → JD_41 A B (L.map Prod.fst) i σ) ∧ MS_41 S σ ∧ SI L (fdK A B (L.map Prod.fst)) (2 * L.length) S ∧ σ.1 48 0 = iZ ((2 * L.length : Nat) : Int) ∧ σ.1 48 1 = iZ ((cnB (fdK A B (L.map Prod.fst)) (2 * L.length) : Nat) : Int) ∧ σ.1 48 2 = iZ ((cnB (psK A B (L.map Prod.fst)) (2 * L.length) : Nat) : Int) ∧ σ.1 48 3 = iZ ((cnB S 64 : Nat) : Int)
theorem XTb_41_fr {S : Nat → Nat → Bool} {A B : Int} {σ σ' : aSt} (hf : fr S σ σ') (q1 : S 41 7 = false) (q2 : S 41 8 = false) (q3 : S 41 9 = false) (q4 : ∀ k, S 42 k = false) (q5 : ∀ k, S 43 k = false) (q6 : ∀ k, S 44 k = false) (q7 : ∀ k, S 45 k = false) (q8 : ∀ k, S 46 k = false) (q9 : ∀ k, S 47 k = false) (q10 : ∀ k, S 48 k = false) (h : XTb_41 A B σ) : XTb_41 A B σ' := by
  obtain ⟨L, S0, h1, h2, h3, h4, h5, h6, h7, h8, h9, h10⟩ := h
  exact ⟨L, S0, h1, h2, ⟨by rw [(hf 41 7 q1).1]; exact h3.1, by rw [(hf 41 8 q2).1]; exact h3.2.1, by rw [(hf 41 9 q3).1]; exact h3.2.2.1, XA_41_fr hf q4 q5 h3.2.2.2⟩, fun i hi => JD_41_eq (hf 44 i (q6 i)).1 (hf 45 i (q7 i)).1 (hf 46 i (q8 i)).1 (h4 i hi), fun m hm => by rw [(hf 47 m (q9 m)).1]; exact h5 m hm, h6, by rw [(hf 48 0 (q10 0)).1]; exact h7, by rw [(hf 48 1 (q10 1)).1]; exact h8, by rw [(hf 48 2 (q10 2)).1]; exact h9, by rw [(hf 48 3 (q10 3)).1]; exact h10⟩
theorem pr51_41 {N : Nat} {A B : Int} {L : List (Nat × Nat)} {S : Nat → Bool} {σ : aSt} (h7 : σ.1 41 7 = iZ (L.length : Int)) (hS : MS_41 S σ) : ∀ (i j n : Nat), j + i = 64 → i + 1 ≤ n → f_ClassTable_prepare_41_l51 N n (iZ ((cnB S j : Nat) : Int)) (64 : Int32) (iZ (j : Int)) σ = some (s_i (s_i σ 48 0 (iZ ((2 * L.length : Nat) : Int))) 48 3 (iZ ((cnB S 64 : Nat) : Int))) := by
  intro i
  induction i with
  | zero =>
    intro j n hj hn
    obtain ⟨n, rfl, _⟩ := fuel hn
    have e : j = 64 := by omega
    subst e
    rw [f_ClassTable_prepare_41_l51, if_pos (by decide)]
    simp only [lt_eq]
    have sz : f_ClassTable_size_41 σ = iZ ((2 * L.length : Nat) : Int) := by
      unfold f_ClassTable_size_41
      rw [h7, show (2 : Int32) = iZ 2 from rfl, iZ_mul]; congr 1
    rw [sz, show f_store σ 48 (0 : Int32) (iZ ((2 * L.length : Nat) : Int)) = s_i σ 48 0 (iZ ((2 * L.length : Nat) : Int)) from stN (k := 0) (n := 4) (by decide) rfl (by omega) (by omega)]
    exact congrArg some (stN (k := 3) (n := 4) (by decide) rfl (by omega) (by omega))
  | succ i ih =>
    intro j n hj hn
    obtain ⟨n, rfl, hn'⟩ := fuel hn
    rw [f_ClassTable_prepare_41_l51, if_neg (by rw [show (64 : Int32) = iZ 64 from rfl, iZ_le (bd_lit _ rfl) ⟨by omega, by omega⟩]; omega), if_pos (by rw [show (0 : Int32) = iZ 0 from rfl, show (64 : Int32) = iZ 64 from rfl, iZ_le (bd_lit _ rfl) ⟨by omega, by omega⟩, iZ_lt ⟨by omega, by omega⟩ (bd_lit _ rfl)]; omega), iZ_idx (by omega) (by omega), Int.toNat_natCast, hS j (by omega), iZ_add, i1]
    have e : ((cnB S j : Nat) : Int) + (if S j = true then 1 else 0) = ((cnB S (j + 1) : Nat) : Int) := by
      rw [cnB_s]
      split <;> omega
    rw [e]
    exact ih (j + 1) n (by omega) hn'
theorem pr32_41 {N : Nat} (hN : 10000 ≤ N) {A B : Int} (hv : VC A B) {L : List (Nat × Nat)} (hc : CT B.natAbs L) : ∀ (i k n : Nat) (S : Nat → Bool) (σ : aSt), k + i = 2 * L.length → i + 1 ≤ n → JS_41 A B L k S σ → ∃ σ', f_ClassTable_prepare_41_l32 N n (iZ (k : Int)) σ = some σ' ∧ XTb_41 A B σ' ∧ fr frJ_41 σ σ' := by
  have hl := ct_len hc
  intro i
  induction i with
  | zero =>
    intro k n S σ hk hn h
    obtain ⟨n, rfl, _⟩ := fuel hn
    have e : k = 2 * L.length := by omega
    subst e
    obtain ⟨hb, hJ, hS, hI, t1, t2⟩ := h
    have sz : f_ClassTable_size_41 σ = iZ ((2 * L.length : Nat) : Int) := by
      unfold f_ClassTable_size_41
      rw [hb.1, show (2 : Int32) = iZ 2 from rfl, iZ_mul]; congr 1
    rw [f_ClassTable_prepare_41_l32, sz, if_pos (by rw [iZ_le ⟨by omega, by omega⟩ ⟨by omega, by omega⟩]; omega)]
    have g := pr51_41 (N := N) (A := A) (B := B) (L := L) hb.1 hS 64 0 N (by omega) (by omega)
    have f1 : fr frJ_41 σ (s_i (s_i σ 48 0 (iZ ((2 * L.length : Nat) : Int))) 48 3 (iZ ((cnB S 64 : Nat) : Int))) := fr_trans (fr_si rfl) (fr_si rfl)
    have B1 := base_41 f1 hb
    refine ⟨_, g, ⟨L, S, hc, hv, ⟨B1.1, B1.2.1, B1.2.2.1, B1.2.2.2.1⟩, fun i hi => JD_41_eq ?_ ?_ ?_ (hJ i hi), fun m hm => ?_, hI, ?_, ?_, ?_, si_eq _ _ _ _⟩, f1⟩
    · rw [si_ne (Or.inl (by decide)), si_ne (Or.inl (by decide))]
    · rw [si_ne (Or.inl (by decide)), si_ne (Or.inl (by decide))]
    · rw [si_ne (Or.inl (by decide)), si_ne (Or.inl (by decide))]
    · rw [si_ne (Or.inl (by decide)), si_ne (Or.inl (by decide))]; exact hS m hm
    · rw [si_ne (Or.inr (by decide)), si_eq]
    · rw [si_ne (Or.inr (by decide)), si_ne (Or.inr (by decide))]; exact t1
    · rw [si_ne (Or.inr (by decide)), si_ne (Or.inr (by decide))]; exact t2
  | succ i ih =>
    intro k n S σ hk hn h
    obtain ⟨n, rfl, hn'⟩ := fuel hn
    have sz : f_ClassTable_size_41 σ = iZ ((2 * L.length : Nat) : Int) := by
      unfold f_ClassTable_size_41
      rw [h.1.1, show (2 : Int32) = iZ 2 from rfl, iZ_mul]; congr 1
    obtain ⟨S', σ1, g1, g2, g3⟩ := judge_41 hN hv hc (k := k) (by omega) h
    obtain ⟨σ', k1, k2, k3⟩ := ih (k + 1) n S' σ1 (by omega) hn' g2
    rw [f_ClassTable_prepare_41_l32, sz, if_neg (by rw [iZ_le ⟨by omega, by omega⟩ ⟨by omega, by omega⟩]; omega), g1, Option.bind_some, i1]
    exact ⟨σ', k1, k2, fr_trans g3 k3⟩
theorem pr9_41 {N : Nat} (hN : 10000 ≤ N) {A B : Int} (hv : VC A B) {σ : aSt} (hM : CM σ) : ∃ σ', f_ClassTable_prepare_41_b9 N (iZ A) (iZ B) σ = some σ' ∧ XTb_41 A B σ' ∧ fr frX_41 σ σ' := by
  have hB1 := hv.2.1.1; have hB2 := hv.2.1.2; have hB0 := hv.2.2.1
  unfold f_ClassTable_prepare_41_b9
  have f1 : fr frX_41 σ (s_i (s_i σ 41 8 (iZ A)) 41 9 (iZ B)) := fr_trans (fr_si rfl) (fr_si rfl)
  obtain ⟨L, σ1, g1, g2, g3, g4, g5⟩ := gather_41 hN hv.2.1 hB0 (σ := s_i (s_i σ 41 8 (iZ A)) 41 9 (iZ B)) (si_eq _ _ _ _)
  rw [g1, Option.bind_some]
  simp only [lt_eq]
  have z0 : ∀ (τ : aSt) (v : Int32), f_store τ 47 (0 : Int32) v = s_i τ 47 0 v := fun τ v => stN (k := 0) (n := 64) (by decide) rfl (by omega) (by omega)
  rw [z0]
  obtain ⟨τ, hτ⟩ : ∃ τ, τ = s_i (f_fill (f_fill σ1 48 (0 : Int32)) 47 (0 : Int32)) 47 0 (1 : Int32) := ⟨_, rfl⟩
  rw [← hτ]
  have fa : fr frJ_41 σ1 (f_fill σ1 48 (0 : Int32)) := fr_fill (fun _ => rfl)
  have fb : fr frM_41 (f_fill σ1 48 (0 : Int32)) (f_fill (f_fill σ1 48 (0 : Int32)) 47 (0 : Int32)) := fr_fill (fun _ => rfl)
  have fc : fr frM_41 (f_fill (f_fill σ1 48 (0 : Int32)) 47 (0 : Int32)) τ := by rw [hτ]; exact fr_si rfl
  have fbc := fr_trans fb fc
  have f2 : fr frJ_41 σ1 τ := fr_trans fa (frM_41_J fbc)
  have b8 : σ1.1 41 8 = iZ A := by rw [(g5 41 8 rfl).1, si_ne (Or.inr (by decide)), si_eq]
  have b9 : σ1.1 41 9 = iZ B := by rw [(g5 41 9 rfl).1, si_eq]
  have cm : CM σ1 := CM_fr (fr_trans f1 (frD_41_X g5)) (fun _ => rfl) (fun _ => rfl) (fun _ => rfl) hM
  obtain ⟨σ', k1, k2, k3⟩ := pr32_41 (N := N) hN hv g2 (2 * L.length) 0 N (fun k => Nat.beq k 0) τ (by omega) (by have := ct_len g2; omega) ⟨base_41 f2 ⟨g4, b8, b9, g3, cm⟩, fun i hi => by omega, fun m hm => by
    rw [hτ]
    by_cases e : m = 0
    · subst e; rw [si_eq]; rfl
    · rw [si_ne (Or.inr e), fill_get (show m < oln 47 from hm), if_neg (show ¬ Nat.beq m 0 = true by rw [beqN e]; exact ff_tt)]; rfl, SI_0 g2 (by omega) (by omega) _, by
    rw [(fbc 48 1 rfl).1, fill_get (by decide)]; rfl, by
    rw [(fbc 48 2 rfl).1, fill_get (by decide)]; rfl⟩
  exact ⟨σ', k1, k2, fr_trans (fr_trans f1 (frD_41_X g5)) (frJ_41_X (fr_trans f2 k3))⟩
/-- kept: nothing yet, or the table of some curve -/
def KT_41 (σ : aSt) : Prop := σ.1 41 9 = 0 ∨ ∃ A B, XTb_41 A B σ
theorem prep_41 {N : Nat} (hN : 10000 ≤ N) {A B : Int} (hv : VC A B) {σ : aSt} (hM : CM σ) (hk : KT_41 σ) : ∃ σ', f_ClassTable_prepare_41 N (iZ A) (iZ B) σ = some σ' ∧ XTb_41 A B σ' ∧ fr frX_41 σ σ' := by
  obtain ⟨a1, a2, a3, a4⟩ := hv
  have := a1.1; have := a1.2; have := a2.1; have := a2.2
  unfold f_ClassTable_prepare_41
  by_cases c : iZ A ≠ σ.1 41 8
  · rw [if_pos c]; exact pr9_41 hN ⟨a1, a2, a3, a4⟩ hM
  · rw [if_neg c]
    by_cases d : iZ B ≠ σ.1 41 9
    · rw [if_pos d]; exact pr9_41 hN ⟨a1, a2, a3, a4⟩ hM
    · rw [if_neg d]
      refine ⟨σ, rfl, ?_, fr_refl _ _⟩
      have c' : iZ A = σ.1 41 8 := Classical.byContradiction c
      have d' : iZ B = σ.1 41 9 := Classical.byContradiction d
      rcases hk with z | ⟨A', B', h⟩
      · rw [z, show (0 : Int32) = iZ 0 from rfl, iZ_eq ⟨by omega, by omega⟩ (bd_lit _ rfl)] at d'
        exact absurd d' a3
      · have h' := h
        obtain ⟨L, S, h1, h2, h3, _⟩ := h
        have := h2.1.1; have := h2.1.2; have := h2.2.1.1; have := h2.2.1.2
        rw [h3.2.1, iZ_eq ⟨by omega, by omega⟩ ⟨by omega, by omega⟩] at c'
        rw [h3.2.2.1, iZ_eq ⟨by omega, by omega⟩ ⟨by omega, by omega⟩] at d'
        subst c'; subst d'; exact h'
