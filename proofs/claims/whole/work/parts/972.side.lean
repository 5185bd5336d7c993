/-! CLASSES: the reference's table is laid -/
theorem cdF_chk (b : Nat) : ∀ j d, chk d (cdF b j d) = true := by
  intro j
  induction j with
  | zero => intro d; rfl
  | succ j ih =>
    intro d
    rw [cdF_s]
    by_cases c : b % d = 0 ∧ freeB d = true
    · rw [if_pos c]
      show (Nat.ble d d && chk (d + 1) (cdF b j (d + 1))) = true
      rw [ih (d + 1), Bool.and_true, Nat.ble_eq]; exact Nat.le_refl _
    · rw [if_neg c]
      have h := ih (d + 1)
      cases hr : cdF b j (d + 1) with
      | nil => rfl
      | cons q L =>
        rw [hr] at h
        have h' : (Nat.ble (d + 1) q && chk (q + 1) L) = true := h
        rw [Bool.and_eq_true, Nat.ble_eq] at h'
        show (Nat.ble d q && chk (q + 1) L) = true
        rw [Bool.and_eq_true, Nat.ble_eq]
        exact ⟨by omega, h'.2⟩
theorem getD_mem {L : List Nat} {i : Nat} (h : i < L.length) : L.getD i 0 ∈ L := by
  rw [List.getD_eq_getElem?_getD, List.getElem?_eq_getElem h]; exact List.getElem_mem h
theorem chk_lt : ∀ (L : List Nat) (k i j : Nat), chk k L = true → i < j → j < L.length → L.getD i 0 < L.getD j 0 := by
  intro L
  induction L with
  | nil => intro k i j _ _ h; exact absurd h (Nat.not_lt_zero _)
  | cons q L ih =>
    intro k i j h hij hj
    have h' : (Nat.ble k q && chk (q + 1) L) = true := h
    rw [Bool.and_eq_true] at h'
    cases j with
    | zero => omega
    | succ j =>
      have hj' : j < L.length := by
        have : (q :: L).length = L.length + 1 := rfl
        omega
      show (q :: L).getD i 0 < L.getD j 0
      cases i with
      | zero =>
        show q < L.getD j 0
        have := chk_ge _ _ h'.2 _ (getD_mem hj')
        omega
      | succ i =>
        show L.getD i 0 < L.getD j 0
        exact ih (q + 1) i j h'.2 (by omega) hj'
theorem okL_cd {b : Nat} (hb : b ≤ 4400) : okL (cdN b) := by
  have ck := cdF_chk b b 1
  have mem : ∀ q ∈ cdN b, 1 ≤ q ∧ q ≤ 4400 := fun q hq => by
    have := (cdF_mem b 1 q).mp hq
    omega
  refine ⟨mem, fun i j hi hj e => ?_⟩
  have m1 := mem _ (getD_mem (show i / 2 < (cdN b).length by omega))
  have m2 := mem _ (getD_mem (show j / 2 < (cdN b).length by omega))
  have inj : (cdN b).getD (i / 2) 0 = (cdN b).getD (j / 2) 0 → i / 2 = j / 2 := fun z => by
    rcases Nat.lt_or_ge (i / 2) (j / 2) with q | q
    · have := chk_lt (cdN b) 1 (i / 2) (j / 2) ck q (by omega); omega
    · rcases Nat.lt_or_ge (j / 2) (i / 2) with q2 | q2
      · have := chk_lt (cdN b) 1 (j / 2) (i / 2) ck q2 (by omega); omega
      · omega
  unfold dvK at e
  by_cases p1 : i % 2 = 0
  · rw [if_pos p1] at e
    by_cases p2 : j % 2 = 0
    · rw [if_pos p2] at e
      have := inj (by omega)
      omega
    · rw [if_neg p2] at e; omega
  · rw [if_neg p1] at e
    by_cases p2 : j % 2 = 0
    · rw [if_pos p2] at e; omega
    · rw [if_neg p2] at e
      have := inj (by omega)
      omega
def psB (A B d : Int) : Bool := sgB A B d && rmA A B d
def fdK (A B : Int) (L : List Nat) (k : Nat) : Bool := (sqF A B (dvK L k)).isSome
/-- what the reference holds of one CLASS -/
def MR (A B : Int) (L : List Nat) (k : Nat) (τ : aSt) : Prop := τ.2.2 74 k = fdK A B L k ∧ (∀ m e, sqF A B (dvK L k) = some (m, e) → τ.1 75 k = iZ ((m : Nat) : Int) ∧ τ.1 76 k = iZ ((e : Nat) : Int)) ∧ τ.2.2 77 k = psB A B (dvK L k)
def MTb (A B : Int) (τ : aSt) : Prop := SD A B τ ∧ MD (cdN B.natAbs) τ ∧ (∀ k, k < 2 * (cdN B.natAbs).length → MR A B (cdN B.natAbs) k τ ∧ (τ.2.2 78 k = true ↔ Md (cdN B.natAbs) (fdK A B (cdN B.natAbs)) k))
def frS7 : Nat → Nat → Bool := fun o k => Nat.beq o 74 || Nat.beq o 75 || Nat.beq o 76 || Nat.beq o 77 || Nat.beq o 78 || Nat.beq o 79
def frSi : Nat → Nat → Bool := fun o k => frS7 o k || Nat.beq o 73 || (Nat.beq o 66 && (Nat.beq k 38 || Nat.beq k 39 || Nat.beq k 46))
theorem frS7_S {σ σ' : aSt} (h : fr frS7 σ σ') : fr frSi σ σ' := fr_mono h (fun o k q => by
  unfold frSi at q
  rw [Bool.or_eq_false_iff, Bool.or_eq_false_iff] at q
  exact q.1.1)
theorem fr79_7 {σ σ' : aSt} (h : fr fr79 σ σ') : fr frS7 σ σ' := fr_mono h (fun o k q => by
  unfold frS7 at q
  rw [Bool.or_eq_false_iff] at q
  exact q.2)
theorem fr78_7 {σ σ' : aSt} (h : fr fr78 σ σ') : fr frS7 σ σ' := fr_mono h (fun o k q => by
  unfold frS7 at q
  rw [Bool.or_eq_false_iff, Bool.or_eq_false_iff] at q
  exact q.1.2)
theorem SD_7 {A B : Int} {τ τ' : aSt} (hf : fr frS7 τ τ') (h : SD A B τ) : SD A B τ' := ⟨by rw [(hf 66 38 rfl).2.1]; exact h.1, by rw [(hf 66 39 rfl).2.1]; exact h.2⟩
theorem MD_7 {L : List Nat} {τ τ' : aSt} (hf : fr frS7 τ τ') (h : MD L τ) : MD L τ' := MD_fr hf rfl (fun _ => rfl) h
section SID
variable {A B : Int}
theorem MR_fr {S : Nat → Nat → Bool} {L : List Nat} {k : Nat} {τ τ' : aSt} (hf : fr S τ τ') (h74 : S 74 k = false) (h75 : S 75 k = false) (h76 : S 76 k = false) (h77 : S 77 k = false) (h : MR A B L k τ) : MR A B L k τ' := ⟨by rw [(hf 74 k h74).2.2]; exact h.1, fun m e z => by rw [(hf 75 k h75).1, (hf 76 k h76).1]; exact h.2.1 m e z, by rw [(hf 77 k h77).2.2]; exact h.2.2⟩
theorem side84 {N : Nat} (hN : 10000 ≤ N) (hA : bd 120 A) (hB : bd 4400 B) (hL : (cdN B.natAbs).length ≤ 32) : ∀ (j k n : Nat) (τ : aSt), k + j = 2 * (cdN B.natAbs).length → j + 1 ≤ n → SD A B τ → MD (cdN B.natAbs) τ → (∀ i, i < k → MR A B (cdN B.natAbs) i τ) → ∃ τ', f_M_laysSide_l84 N n (iZ (k : Int)) τ = some τ' ∧ MTb A B τ' ∧ fr frS7 τ τ' := by
  have hb1 := hB.1; have hb2 := hB.2
  have ho : okL (cdN B.natAbs) := okL_cd (by omega)
  obtain ⟨L, hLL⟩ : ∃ L, L = cdN B.natAbs := ⟨_, rfl⟩
  rw [← hLL] at hL ho ⊢
  intro j
  induction j with
  | zero =>
    intro k n τ hk hn hS hM hR
    obtain ⟨n, rfl, _⟩ := fuel hn
    rw [f_M_laysSide_l84, hM.1, if_pos (by rw [iZ_le ⟨by omega, by omega⟩ ⟨by omega, by omega⟩]; omega)]
    unfold f_M_laysMade
    obtain ⟨τ', g1, g2, g3⟩ := made2 (N := N) (L := L) (fd := fdK A B L) hN ho (2 * L.length) 0 N τ (by omega) (by omega) hM (fun i hi => (hR i (by omega)).1) (fun i hi => by omega)
    have g1' : f_M_laysMade_l2 N N (0 : Int32) τ = some τ' := g1
    rw [g1', Option.bind_some]
    refine ⟨τ', rfl, ⟨SD_7 (fr78_7 g2) hS, by rw [← hLL]; exact MD_7 (fr78_7 g2) hM, fun i hi => ?_⟩, fr78_7 g2⟩
    rw [← hLL] at hi ⊢
    exact ⟨MR_fr g2 rfl rfl rfl rfl (hR i (by omega)), g3 i hi⟩
  | succ j ih =>
    intro k n τ hk hn hS hM hR
    obtain ⟨n, rfl, hn'⟩ := fuel hn
    have db := dvK_bd ho (k := k) (by omega)
    have q1 := db.2.1; have q2 := db.2.2
    have h73 := hM.2.2 k (by omega)
    rw [f_M_laysSide_l84, hM.1, if_neg (by rw [iZ_le ⟨by omega, by omega⟩ ⟨by omega, by omega⟩]; omega)]
    -- what seeking leaves
    obtain ⟨bf, τ1, e1, f1, e74, e75⟩ : ∃ (bf : Bool) (τ1 : aSt), f_M_seeks N (iZ (k : Int)) τ = some (bf, τ1) ∧ fr frS7 τ τ1 ∧ bf = fdK A B L k ∧ (∀ i, i ≠ k → τ1.1 75 i = τ.1 75 i ∧ τ1.1 76 i = τ.1 76 i) ∧ (∀ m e, sqF A B (dvK L k) = some (m, e) → τ1.1 75 k = iZ ((m : Nat) : Int) ∧ τ1.1 76 k = iZ ((e : Nat) : Int)) ∧ τ1.2 = τ.2 := by
      rw [seeks_ok hN hA hB db.2 db.1 (by omega) hS h73]
      unfold fdK
      cases hr : sqF A B (dvK L k) with
      | none => exact ⟨false, τ, rfl, fr_refl _ _, rfl, fun i _ => ⟨rfl, rfl⟩, fun m e z => (by cases z), rfl⟩
      | some me =>
        obtain ⟨m, f⟩ := me
        refine ⟨true, _, rfl, fr_trans (fr_si (by unfold frS7; simp)) (fr_si (by unfold frS7; simp)), rfl, fun i hi => ⟨?_, ?_⟩, fun m' e' z => ?_, rfl⟩
        · rw [si_ne (Or.inl (by decide)), si_ne (Or.inr hi)]
        · rw [si_ne (Or.inr hi), si_ne (Or.inl (by decide))]
        · have z' := Option.some.inj z
          have z1 : m = m' := congrArg Prod.fst z'
          have z2 : f = e' := congrArg Prod.snd z'
          subst z1; subst z2
          exact ⟨by rw [si_ne (Or.inl (by decide))]; exact si_eq _ _ _ _, si_eq _ _ _ _⟩
    obtain ⟨e75, e76, e77⟩ := e75
    rw [e1, Option.bind_some, if_pos (by rw [show (0 : Int32) = iZ 0 from rfl, show (64 : Int32) = iZ 64 from rfl, iZ_le (bd_lit _ rfl) ⟨by omega, by omega⟩, iZ_lt ⟨by omega, by omega⟩ (bd_lit _ rfl)]; omega)]
    have M1 := MD_7 f1 hM
    show ∃ τ', ((f_M_bySigns N (τ1.1 73 (iZ (k : Int)).toNatClampNeg).toInt64 (s_b τ1 74 (iZ (k : Int)).toNatClampNeg bf)).bind _) = some τ' ∧ _ ∧ _
    rw [iZ_idx (by omega) (by omega), Int.toNat_natCast, M1.2.2 k (by omega), i2j ⟨by omega, by omega⟩]
    obtain ⟨τ2, hτ2⟩ : ∃ s, s = s_b τ1 74 k bf := ⟨_, rfl⟩
    have f2 : fr frS7 τ1 τ2 := by rw [hτ2]; exact fr_sb (by unfold frS7; simp)
    have f12 := fr_trans f1 f2
    have S2 := SD_7 f12 hS
    rw [← hτ2, signs_ok hA hB db.2 db.1 S2, Option.bind_some, i1]
    have g74 : τ2.2.2 74 k = fdK A B L k := by rw [hτ2, sb_eq]; exact e74
    -- the rest, whatever comes of it
    have go : ∀ (τ3 : aSt) (bb : Bool), fr fr79 τ2 τ3 → bb = psB A B (dvK L k) → ∃ τ', f_M_laysSide_l84 N n (iZ ((k + 1 : Nat) : Int)) (s_b τ3 77 k bb) = some τ' ∧ MTb A B τ' ∧ fr frS7 τ τ' := fun τ3 bb f3 hbb => by
      have f4 : fr frS7 τ3 (s_b τ3 77 k bb) := fr_sb (by unfold frS7; simp)
      have f14 := fr_trans f12 (fr_trans (fr79_7 f3) f4)
      obtain ⟨τ', g1, g2, g3⟩ := ih (k + 1) n (s_b τ3 77 k bb) (by omega) hn' (SD_7 f14 hS) (MD_7 f14 hM) (fun i hi => by
        have x74 : ∀ i, (s_b τ3 77 k bb).2.2 74 i = τ2.2.2 74 i := fun i => by rw [sb_ne (Or.inl (by decide)), (f3 74 i rfl).2.2]
        have x75 : ∀ i, (s_b τ3 77 k bb).1 75 i = τ1.1 75 i := fun i => by
          show τ3.1 75 i = _
          rw [(f3 75 i rfl).1, hτ2]; rfl
        have x76 : ∀ i, (s_b τ3 77 k bb).1 76 i = τ1.1 76 i := fun i => by
          show τ3.1 76 i = _
          rw [(f3 76 i rfl).1, hτ2]; rfl
        by_cases e : i = k
        · subst e
          exact ⟨by rw [x74]; exact g74, fun m e z => by rw [x75, x76]; exact e76 m e z, by rw [sb_eq]; exact hbb⟩
        · obtain ⟨r1, r2, r3⟩ := hR i (by omega)
          refine ⟨?_, fun m f z => ?_, ?_⟩
          · rw [x74, hτ2, sb_ne (Or.inr e), e77]; exact r1
          · rw [x75, x76, (e75 i e).1, (e75 i e).2]; exact r2 m f z
          · rw [sb_ne (Or.inr e), (f3 77 i rfl).2.2, hτ2, sb_ne (Or.inl (by decide)), e77]; exact r3)
      exact ⟨τ', g1, g2, fr_trans f14 g3⟩
    cases hs : sgB A B (dvK L k) with
    | false =>
      rw [if_neg ff_tt]
      have := go τ2 false (fr_refl _ _) (by unfold psB; rw [hs]; rfl)
      exact this
    | true =>
      rw [if_pos rfl]
      obtain ⟨τ3, k1, k2⟩ := rem_ok hN hA hB db.2 db.1 S2
      rw [k1, Option.bind_some]
      cases hr : rmA A B (dvK L k) with
      | false =>
        rw [if_neg ff_tt]
        exact go τ3 false k2 (by unfold psB; rw [hs, hr]; rfl)
      | true =>
        rw [if_pos rfl]
        exact go τ3 true k2 (by unfold psB; rw [hs, hr]; rfl)
theorem dvK_app {P : List Nat} {d k : Nat} (hk : k < 2 * P.length) : dvK (P ++ [d]) k = dvK P k := by
  unfold dvK
  have : (P ++ [d]).getD (k / 2) 0 = P.getD (k / 2) 0 := by
    rw [List.getD_eq_getElem?_getD, List.getD_eq_getElem?_getD, List.getElem?_append_left (by omega)]
  rw [this]
theorem dvK_end {P : List Nat} {d : Nat} : dvK (P ++ [d]) (2 * P.length) = d ∧ dvK (P ++ [d]) (2 * P.length + 1) = -(d : Int) := by
  have : (P ++ [d]).getD P.length 0 = d := by
    rw [List.getD_eq_getElem?_getD, List.getElem?_append_right (Nat.le_refl _), Nat.sub_self]; rfl
  unfold dvK
  rw [if_pos (by omega), if_neg (by omega), show 2 * P.length / 2 = P.length by omega, show (2 * P.length + 1) / 2 = P.length by omega, this]
  exact ⟨rfl, rfl⟩
def frS3 : Nat → Nat → Bool := fun o k => Nat.beq o 73 || (Nat.beq o 66 && Nat.beq k 46)
theorem side39 {N : Nat} (hN : 10000 ≤ N) (hA : bd 120 A) (hB : bd 4400 B) (hL : (cdN B.natAbs).length ≤ 32) : ∀ (j d n : Nat) (P : List Nat) (τ : aSt), d + j = B.natAbs + 1 → 1 ≤ d → j + 1 ≤ n → SD A B τ → MD P τ → P ++ cdF B.natAbs j d = cdN B.natAbs → ∃ τ', f_M_laysSide_l39 N n (iZ (d : Int)) τ = some τ' ∧ MTb A B τ' ∧ fr frSi τ τ' := by
  have hb1 := hB.1; have hb2 := hB.2
  intro j
  induction j with
  | zero =>
    intro d n P τ hd h1 hn hS hM hP
    obtain ⟨n, rfl, _⟩ := fuel hn
    rw [f_M_laysSide_l39, hS.2, labs_Z ⟨by omega, by omega⟩, i2j ⟨by omega, by omega⟩, if_pos (by rw [jZ_lt ⟨by omega, by omega⟩ ⟨by omega, by omega⟩]; omega)]
    have e : P = cdN B.natAbs := by rw [← hP]; exact (List.append_nil P).symm
    rw [e] at hM
    obtain ⟨τ', g1, g2, g3⟩ := side84 (N := N) hN hA hB hL (2 * (cdN B.natAbs).length) 0 N τ (by omega) (by omega) hS hM (fun i hi => by omega)
    exact ⟨τ', g1, g2, frS7_S g3⟩
  | succ j ih =>
    intro d n P τ hd h1 hn hS hM hP
    obtain ⟨n, rfl, hn'⟩ := fuel hn
    have hPl := hM.2.1
    rw [f_M_laysSide_l39, hS.2, labs_Z ⟨by omega, by omega⟩, i2j ⟨by omega, by omega⟩, if_neg (by rw [jZ_lt ⟨by omega, by omega⟩ ⟨by omega, by omega⟩]; omega), if_pos (by rw [show (0 : Int64) = jZ 0 from rfl, jZ_eq ⟨by omega, by omega⟩ (bd_lit _ rfl)]; omega), jZ_rem ⟨by omega, by omega⟩ ⟨by omega, by omega⟩, isFree_Z hN (by omega) (by omega), Option.bind_some, i1]
    have na : (B.tmod (d : Int)).natAbs = B.natAbs % d := by rw [Int.natAbs_tmod, Int.natAbs_natCast]
    have lt : B.natAbs % d < d := Nat.mod_lt _ (by omega)
    have c1 : (jZ (B.tmod (d : Int)) ≠ (0 : Int64)) = ¬ (B.natAbs % d = 0) := by
      rw [ne_eq, show (0 : Int64) = jZ 0 from rfl, jZ_eq ⟨by omega, by omega⟩ (bd_lit _ rfl)]; apply propext; omega
    simp only [c1]
    rw [cdF_s] at hP
    by_cases m1 : B.natAbs % d = 0
    · rw [if_neg (fun z => z m1)]
      by_cases m2 : freeB d = true
      · rw [if_pos (c := B.natAbs % d = 0 ∧ freeB d = true) ⟨m1, m2⟩] at hP
        have hlen : P.length + 1 ≤ 32 := by
          have : (cdN B.natAbs).length = P.length + (d :: cdF B.natAbs j (d + 1)).length := by rw [← hP, List.length_append]
          have e2 : (d :: cdF B.natAbs j (d + 1)).length = (cdF B.natAbs j (d + 1)).length + 1 := rfl
          omega
        rw [if_pos m2, hM.1, show iZ ((2 * P.length : Nat) : Int) + (1 : Int32) = iZ ((2 * P.length + 1 : Nat) : Int) from i1 _, show iZ ((2 * P.length : Nat) : Int) + (2 : Int32) = iZ ((2 * P.length + 2 : Nat) : Int) from by rw [show (2 : Int32) = iZ 2 from rfl, iZ_add]; congr 1, if_pos (by rw [show (0 : Int32) = iZ 0 from rfl, show (64 : Int32) = iZ 64 from rfl, iZ_le (bd_lit _ rfl) ⟨by omega, by omega⟩, iZ_lt ⟨by omega, by omega⟩ (bd_lit _ rfl)]; omega), if_pos (by rw [show (0 : Int32) = iZ 0 from rfl, show (64 : Int32) = iZ 64 from rfl, iZ_le (bd_lit _ rfl) ⟨by omega, by omega⟩, iZ_lt ⟨by omega, by omega⟩ (bd_lit _ rfl)]; omega), iZ_idx (by omega) (by omega), iZ_idx (by omega) (by omega), Int.toNat_natCast, Int.toNat_natCast, iZ_neg]
        obtain ⟨τ1, hτ1⟩ : ∃ s, s = s_i (s_i (s_i τ 73 (2 * P.length) (iZ (d : Int))) 73 (2 * P.length + 1) (iZ (-(d : Int)))) 66 46 (iZ ((2 * P.length + 2 : Nat) : Int)) := ⟨_, rfl⟩
        rw [← hτ1]
        have f1 : fr frSi τ τ1 := by rw [hτ1]; exact fr_trans (fr_trans (fr_si (by unfold frSi; simp)) (fr_si (by unfold frSi; simp))) (fr_si rfl)
        have M1 : MD (P ++ [d]) τ1 := by
          have el : (P ++ [d]).length = P.length + 1 := by rw [List.length_append]; rfl
          refine ⟨by rw [hτ1, si_eq, el]; congr 1, by omega, fun k hk => ?_⟩
          rw [el] at hk
          rw [hτ1, si_ne (Or.inl (by decide))]
          by_cases k1 : k = 2 * P.length + 1
          · subst k1; rw [si_eq, dvK_end.2]
          · rw [si_ne (Or.inr k1)]
            by_cases k2 : k = 2 * P.length
            · subst k2; rw [si_eq, dvK_end.1]
            · rw [si_ne (Or.inr k2), dvK_app (by omega)]; exact hM.2.2 k (by omega)
        obtain ⟨τ', g1, g2, g3⟩ := ih (d + 1) n (P ++ [d]) τ1 (by omega) (by omega) hn' ⟨by rw [hτ1]; exact hS.1, by rw [hτ1]; exact hS.2⟩ M1 (by rw [← hP, List.append_assoc]; rfl)
        exact ⟨τ', g1, g2, fr_trans f1 g3⟩
      · rw [if_neg (c := B.natAbs % d = 0 ∧ freeB d = true) (fun z => m2 z.2)] at hP
        rw [if_neg m2]
        exact ih (d + 1) n P τ (by omega) (by omega) hn' hS hM hP
    · rw [if_neg (c := B.natAbs % d = 0 ∧ freeB d = true) (fun z => m1 z.1)] at hP
      rw [if_pos m1]
      exact ih (d + 1) n P τ (by omega) (by omega) hn' hS hM hP
/-- the reference's laysSide -/
theorem laysS {N : Nat} (hN : 10000 ≤ N) {a b : Int} (ha : bd 60 a) (hb : bd 200 b) (side : Int32) {τ : aSt} (h2 : τ.1 66 2 = iZ a) (h3 : τ.1 66 3 = iZ b) (eA : A = if side = 0 then a else -2 * a) (eB : B = if side = 0 then b else a * a - 4 * b) (hL : (cdN B.natAbs).length ≤ 32) : ∃ τ', f_M_laysSide N side τ = some τ' ∧ MTb A B τ' ∧ fr frSi τ τ' := by
  have q1 := ha.1; have q2 := ha.2; have q3 := hb.1; have q4 := hb.2
  have haa := bd_mul ha ha
  have q5 := haa.1; have q6 := haa.2
  have hA : bd 120 A := by rw [eA]; split <;> exact ⟨by omega, by omega⟩
  have hB : bd 4400 B := by rw [eB]; split <;> exact ⟨by omega, by omega⟩
  have q7 := hB.1; have q8 := hB.2
  have key : ∀ τ0 : aSt, τ0.2.1 66 38 = jZ A → ∃ τ', f_M_laysSide_b33 N (jZ B) τ0 = some τ' ∧ MTb A B τ' ∧ fr frSi τ0 τ' := fun τ0 h38 => by
    unfold f_M_laysSide_b33
    have f1 : fr frSi τ0 (s_i (s_l τ0 66 39 (jZ B)) 66 46 (0 : Int32)) := fr_trans (fr_sl rfl) (fr_si rfl)
    obtain ⟨τ', g1, g2, g3⟩ := side39 (N := N) hN hA hB hL B.natAbs 1 N [] (s_i (s_l τ0 66 39 (jZ B)) 66 46 (0 : Int32)) (by omega) (by omega) (by omega) ⟨by show (s_l τ0 66 39 (jZ B)).2.1 66 38 = _; rw [sl_ne (Or.inr (by decide))]; exact h38, sl_eq _ _ _ _⟩ ⟨rfl, by show 0 ≤ 32; omega, fun k hk => absurd hk (Nat.not_lt_zero _)⟩ rfl
    exact ⟨τ', g1, g2, fr_trans f1 g3⟩
  unfold f_M_laysSide f_M_laysSide_b12
  rw [h2, h3]
  by_cases c : side = 0
  · rw [if_neg (fun z => z c), if_neg (fun z => z c)]
    rw [if_pos c] at eA eB
    have e38 : (iZ a).toInt64 = jZ A := by rw [i2j ⟨by omega, by omega⟩, eA]
    have e39 : ((s_l τ 66 38 (iZ a).toInt64).1 66 3).toInt64 = jZ B := by
      show (τ.1 66 3).toInt64 = _
      rw [h3, i2j ⟨by omega, by omega⟩, eB]
    rw [e38]
    obtain ⟨τ', g1, g2, g3⟩ := key (s_l τ 66 38 (jZ A)) (sl_eq _ _ _ _)
    refine ⟨τ', ?_, g2, fr_trans (fr_sl rfl) g3⟩
    rw [show (iZ b).toInt64 = jZ B from by rw [i2j ⟨by omega, by omega⟩, eB]]
    exact g1
  · rw [if_pos c, if_pos c]
    rw [if_neg c] at eA eB
    rw [show (-2 : Int64) * (iZ a).toInt64 = jZ A from by rw [i2j ⟨by omega, by omega⟩, show (-2 : Int64) = jZ (-2) from rfl, jZ_mul, eA], show (iZ a).toInt64 * (iZ a).toInt64 - (4 : Int64) * (iZ b).toInt64 = jZ B from by rw [i2j ⟨by omega, by omega⟩, i2j ⟨by omega, by omega⟩, show (4 : Int64) = jZ 4 from rfl, jZ_mul, jZ_mul, jZ_sub, eB]]
    obtain ⟨τ', g1, g2, g3⟩ := key (s_l τ 66 38 (jZ A)) (sl_eq _ _ _ _)
    exact ⟨τ', g1, g2, fr_trans (fr_sl rfl) g3⟩
end SID
