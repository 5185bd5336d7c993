/-! TOKENS, both programs together -/
def tkL (T : Nat → Int) (n i : Nat) : Int := tkV T 2 1000000 (n - tkS T n i) (tkS T n i) 0
def TkX (T : Nat → Int) (n i : Nat) (σ : aSt) : Prop := σ.1 1 4 = iZ (tkS T n i) ∧ σ.1 1 5 = iZ (tkP T n i) ∧ σ.1 1 3 = iZ (tkK T n i) ∧ (tkK T n i = 2 → σ.1 1 6 = iZ (tkL T n i)) ∧ σ.1 1 7 = 0 ∧ σ.1 1 8 = (-1 : Int32)
def TkM (T : Nat → Int) (n i : Nat) (τ : aSt) : Prop := τ.1 66 15 = iZ (tkS T n i) ∧ τ.1 66 14 = iZ (tkP T n i) ∧ τ.1 66 16 = iZ (tkK T n i) ∧ (tkK T n i = 2 → τ.1 66 17 = iZ (min 99999 (tkL T n i))) ∧ (tkK T n i = 3 → τ.1 66 17 = iZ (T (tkS T n i))) ∧ τ.1 66 18 = 0 ∧ τ.1 66 19 = (-1 : Int32)
def TK (T : Nat → Int) (n i : Nat) (σ τ : aSt) : Prop := i ≤ n ∧ XT T n σ ∧ MS T n τ ∧ TkX T n i σ ∧ TkM T n i τ
/-- a fault was met -/
def TkF (σ τ : aSt) : Prop := σ.1 1 7 = τ.1 66 18 ∧ σ.1 1 8 = τ.1 66 19 ∧ τ.1 66 18 ≠ 0 ∧ σ.1 1 3 = 0
def frR : Nat → Nat → Bool := fun o k => (Nat.beq o 1 && (Nat.beq k 3 || Nat.beq k 4 || Nat.beq k 5 || Nat.beq k 6 || Nat.beq k 7 || Nat.beq k 8)) || Nat.beq o 3
def frQ : Nat → Nat → Bool := fun o k => Nat.beq o 66 && (Nat.beq k 14 || Nat.beq k 15 || Nat.beq k 16 || Nat.beq k 17 || Nat.beq k 18 || Nat.beq k 19 || Nat.beq k 20)
theorem frN1_R {σ σ' : aSt} (h : fr frN1 σ σ') : fr frR σ σ' := fr_mono h (fun o k q => by
  revert q; unfold frN1 frR
  cases Nat.beq o 1 <;> cases Nat.beq o 3 <;> cases Nat.beq k 3 <;> cases Nat.beq k 4 <;> cases Nat.beq k 5 <;> cases Nat.beq k 6 <;> cases Nat.beq k 7 <;> cases Nat.beq k 8 <;> decide)
theorem frN6_Q {σ σ' : aSt} (h : fr frN6 σ σ') : fr frQ σ σ' := fr_mono h (fun o k q => by
  revert q; unfold frN6 frQ
  cases Nat.beq o 66 <;> cases Nat.beq k 14 <;> cases Nat.beq k 15 <;> cases Nat.beq k 16 <;> cases Nat.beq k 17 <;> cases Nat.beq k 18 <;> cases Nat.beq k 19 <;> cases Nat.beq k 20 <;> decide)
theorem tkS_bd {T : Nat → Int} {n i : Nat} (h : i ≤ n) : i ≤ tkS T n i ∧ tkS T n i ≤ n := skE_bd (n - i) i (by omega)
theorem tkK_bd {T : Nat → Int} {n i : Nat} : 0 ≤ tkK T n i ∧ tkK T n i ≤ 3 := kdT_bd _
theorem tkS_lt {T : Nat → Int} {n i : Nat} (hk : tkK T n i ≠ 0) : tkS T n i < n := by
  apply Classical.byContradiction
  intro hc
  apply hk
  unfold tkK
  rw [tpb_out (by omega)]; rfl
theorem tkE_gt {T : Nat → Int} {n : Nat} {k : Int} {j i : Nat} (h : i + (j + 1) = n) (hk : kdT (T i) = k) : i < tkE T k (j + 1) i ∧ tkE T k (j + 1) i ≤ n := by
  unfold tkE
  rw [if_pos hk]
  have := tkE_bd (T := T) (k := k) (n := n) j (i + 1) (by omega)
  omega
theorem tkP_bd {T : Nat → Int} {n i : Nat} (h : i ≤ n) : tkS T n i ≤ tkP T n i ∧ tkP T n i ≤ n ∧ (tkK T n i ≠ 0 → i < tkP T n i) := by
  have hs := tkS_bd (T := T) h
  unfold tkP
  by_cases c0 : tkK T n i = 0
  · rw [if_pos c0]; exact ⟨Nat.le_refl _, hs.2, fun q => absurd c0 q⟩
  · have hl := tkS_lt c0
    rw [if_neg c0]
    by_cases c3 : tkK T n i = 3
    · rw [if_pos c3]; exact ⟨by omega, by omega, fun _ => by omega⟩
    · rw [if_neg c3]
      obtain ⟨j, hj⟩ : ∃ j, n - tkS T n i = j + 1 := ⟨n - tkS T n i - 1, by omega⟩
      have hk : kdT (T (tkS T n i)) = tkK T n i := by unfold tkK; rw [tpb_in hl]
      rw [hj]
      have := tkE_gt (T := T) (n := n) (i := tkS T n i) (j := j) (by omega) hk
      exact ⟨by omega, by omega, fun _ => by omega⟩
theorem tk_at {N : Nat} (hN : 1000 ≤ N) {T : Nat → Int} {n i : Nat} (ho : okT T n) (hi : i ≤ n) {σ τ : aSt} (hx : XT T n σ) (hm : MS T n τ) (h5 : σ.1 1 5 = iZ i) (h14 : τ.1 66 14 = iZ i) (h7 : σ.1 1 7 = 0) (h8 : σ.1 1 8 = (-1 : Int32)) (h18 : τ.1 66 18 = 0) (h19 : τ.1 66 19 = (-1 : Int32)) : ∃ σ' τ', f_Reader_next N σ = some σ' ∧ f_M_advance N τ = some τ' ∧ TK T n i σ' τ' ∧ fr frN1 σ σ' ∧ fr frN6 τ τ' := by
  obtain ⟨σ', a1, a2, a3, a4, a5, a6⟩ := next_x hN ho hi hx h5
  obtain ⟨τ', b1, b2, b3, b4, b5, b6, b7⟩ := next_m hN ho hi hm h14
  refine ⟨σ', τ', a1, b1, ⟨hi, XT_fr a6 rfl (fun _ => rfl) hx, MS_fr b7 rfl (fun _ => rfl) hm, ⟨a2, a3, a4, a5, by rw [(a6 1 7 rfl).1]; exact h7, by rw [(a6 1 8 rfl).1]; exact h8⟩, ⟨b2, b3, b4, fun q => ?_, b6, by rw [(b7 66 18 rfl).1]; exact h18, by rw [(b7 66 19 rfl).1]; exact h19⟩⟩, a6, b7⟩
  rw [b5 q, (tkV_min (T := T) (n - tkS T n i) (tkS T n i) 0 0 (by omega) (by omega) (by omega)).1]
  rfl
theorem tk_next {N : Nat} (hN : 1000 ≤ N) {T : Nat → Int} {n i : Nat} (ho : okT T n) {σ τ : aSt} (h : TK T n i σ τ) : ∃ σ' τ', f_Reader_next N σ = some σ' ∧ f_M_advance N τ = some τ' ∧ TK T n (tkP T n i) σ' τ' ∧ fr frN1 σ σ' ∧ fr frN6 τ τ' := by
  obtain ⟨hi, hx, hm, ⟨x1, x2, x3, x4, x5, x6⟩, ⟨y1, y2, y3, y4, y5, y6, y7⟩⟩ := h
  exact tk_at hN ho (tkP_bd hi).2.1 hx hm x2 y2 x5 x6 y6 y7
theorem tkL_bd {T : Nat → Int} {n i : Nat} : 0 ≤ tkL T n i ∧ tkL T n i ≤ 1000000 := (tkV_min (T := T) (n - tkS T n i) (tkS T n i) 0 0 (by omega) (by omega) (by omega)).2
theorem TK_fr {S R : Nat → Nat → Bool} {T : Nat → Int} {n i : Nat} {σ σ' τ τ' : aSt} (hf : fr S σ σ') (hg : fr R τ τ') (s1 : ∀ k, k ≤ 8 → S 1 k = false) (s2 : ∀ k, S 2 k = false) (r1 : ∀ k, 13 ≤ k → k ≤ 19 → R 66 k = false) (r2 : ∀ k, R 70 k = false) (h : TK T n i σ τ) : TK T n i σ' τ' := by
  obtain ⟨hi, hx, hm, ⟨x1, x2, x3, x4, x5, x6⟩, ⟨y1, y2, y3, y4, y5, y6, y7⟩⟩ := h
  exact ⟨hi, XT_fr hf (s1 2 (by omega)) s2 hx, MS_fr hg (r1 13 (by omega) (by omega)) r2 hm,
    ⟨by rw [(hf 1 4 (s1 4 (by omega))).1]; exact x1, by rw [(hf 1 5 (s1 5 (by omega))).1]; exact x2, by rw [(hf 1 3 (s1 3 (by omega))).1]; exact x3, fun q => by rw [(hf 1 6 (s1 6 (by omega))).1]; exact x4 q, by rw [(hf 1 7 (s1 7 (by omega))).1]; exact x5, by rw [(hf 1 8 (s1 8 (by omega))).1]; exact x6⟩,
    ⟨by rw [(hg 66 15 (r1 15 (by omega) (by omega))).1]; exact y1, by rw [(hg 66 14 (r1 14 (by omega) (by omega))).1]; exact y2, by rw [(hg 66 16 (r1 16 (by omega) (by omega))).1]; exact y3, fun q => by rw [(hg 66 17 (r1 17 (by omega) (by omega))).1]; exact y4 q, fun q => by rw [(hg 66 17 (r1 17 (by omega) (by omega))).1]; exact y5 q, by rw [(hg 66 18 (r1 18 (by omega) (by omega))).1]; exact y6, by rw [(hg 66 19 (r1 19 (by omega) (by omega))).1]; exact y7⟩⟩
theorem good_0 {τ : aSt} (h : τ.1 66 18 = 0) : f_M_good τ = true := by
  unfold f_M_good; rw [h, if_neg (fun q => q rfl)]
theorem good_1 {τ : aSt} (h : τ.1 66 18 ≠ 0) : f_M_good τ = false := by
  unfold f_M_good; rw [if_pos h]
theorem ff_tt : ¬ (false = true) := fun h => by cases h
/-- the words -/
def wdB (T : Nat → Int) (s w : Nat) : Nat → Nat → Bool
  | 0, _ => true
  | j + 1, k => if iZ (T (s + k)) = sch w (iZ k) then wdB T s w j (k + 1) else false
theorem wdB_s (T : Nat → Int) (s w j k : Nat) : wdB T s w (j + 1) k = if iZ (T (s + k)) = sch w (iZ k) then wdB T s w j (k + 1) else false := rfl
theorem sb_c {t : Int} (ht : 0 ≤ t ∧ t < 256) {c : Nat} (hc : c < 128) : (iZ (sb8 t) = iZ c) = (iZ t = iZ c) := by
  unfold sb8
  split
  · rfl
  · rw [iZ_eq ⟨by omega, by omega⟩ ⟨by omega, by omega⟩, iZ_eq ⟨by omega, by omega⟩ ⟨by omega, by omega⟩]
    apply propext; omega
theorem wc_200 : ∀ k, k < 5 → ∃ c, c < 128 ∧ sch 200 (iZ ((k : Nat) : Int)) = iZ ((c : Nat) : Int) := by decide +kernel
theorem wl_200x {N : Nat} {T : Nat → Int} {n s : Nat} {σ : aSt} (hx : XT T n σ) (h4 : σ.1 1 4 = iZ s) (hs : s + 5 ≤ n) : ∀ j k m, k + j = 5 → j + 1 ≤ m → f_Reader_isWord_200_l16 N σ m (iZ ((k : Nat) : Int)) = some (wdB T s 200 j k) := by
  have hn := hx.2.1
  intro j
  induction j with
  | zero =>
    intro k m hk hm
    obtain ⟨m, rfl, _⟩ := fuel hm
    rw [f_Reader_isWord_200_l16, if_pos (by rw [show (5 : Int32) = iZ 5 from rfl, iZ_le (bd_lit _ rfl) ⟨by omega, by omega⟩]; omega)]; rfl
  | succ j ih =>
    intro k m hk hm
    obtain ⟨m, rfl, hm'⟩ := fuel hm
    have e4 : iZ (s : Int) + iZ (k : Int) = iZ ((s + k : Nat) : Int) := by rw [iZ_add]; congr 1
    rw [f_Reader_isWord_200_l16, if_neg (by rw [show (5 : Int32) = iZ 5 from rfl, iZ_le (bd_lit _ rfl) ⟨by omega, by omega⟩]; omega), if_pos (by rw [show (0 : Int32) = iZ 0 from rfl, show (5 : Int32) = iZ 5 from rfl, iZ_le (bd_lit _ rfl) ⟨by omega, by omega⟩, iZ_lt ⟨by omega, by omega⟩ (bd_lit _ rfl)]; omega), h4, e4, byteAt_ok hx (by omega), tpb_in (by omega), i1, ih (k + 1) m (by omega) hm']
    rw [wdB_s]
    split <;> rfl
theorem wl_200m {N : Nat} {T : Nat → Int} {n s : Nat} (ho : okT T n) {τ : aSt} (hm : MS T n τ) (h4 : τ.1 66 15 = iZ s) (hs : s + 5 ≤ n) : ∀ j k m, k + j = 5 → j + 2 ≤ m → f_M_isWord_200_l21 N τ m true (iZ ((k : Nat) : Int)) = some (wdB T s 200 j k) := by
  have hn := hm.2.1
  intro j
  induction j with
  | zero =>
    intro k m hk hm
    obtain ⟨m, rfl, _⟩ := fuel (k := 1) hm
    rw [f_M_isWord_200_l21, if_pos (by rw [show (5 : Int32) = iZ 5 from rfl, iZ_le (bd_lit _ rfl) ⟨by omega, by omega⟩]; omega)]; rfl
  | succ j ih =>
    intro k m hk hmm
    obtain ⟨m, rfl, hm'⟩ := fuel (k := j + 2) hmm
    have e4 : iZ (s : Int) + iZ (k : Int) = iZ ((s + k : Nat) : Int) := by rw [iZ_add]; congr 1
    obtain ⟨c, c1, c2⟩ := wc_200 k (by omega)
    have hT := ho (s + k) (by omega)
    have fl : f_M_isWord_200_l21 N τ m false (iZ ((k + 1 : Nat) : Int)) = some false := by
      obtain ⟨m, rfl, _⟩ := fuel (k := j + 1) hm'
      rw [f_M_isWord_200_l21]
      split
      · rfl
      · rw [if_neg ff_tt]
    rw [f_M_isWord_200_l21, if_neg (by rw [show (5 : Int32) = iZ 5 from rfl, iZ_le (bd_lit _ rfl) ⟨by omega, by omega⟩]; omega), if_pos rfl, h4, e4, if_pos (by rw [show (0 : Int32) = iZ 0 from rfl, show (200 : Int32) = iZ 200 from rfl, iZ_le (bd_lit _ rfl) ⟨by omega, by omega⟩, iZ_lt ⟨by omega, by omega⟩ (bd_lit _ rfl)]; omega), if_pos (by rw [show (0 : Int32) = iZ 0 from rfl, show (5 : Int32) = iZ 5 from rfl, iZ_le (bd_lit _ rfl) ⟨by omega, by omega⟩, iZ_lt ⟨by omega, by omega⟩ (bd_lit _ rfl)]; omega), iZ_idx (by omega) (by omega), Int.toNat_natCast, hm.2.2 (s + k) (by omega), i1, ih (k + 1) m (by omega) hm', fl]
    rw [wdB_s, c2]
    have cc : (iZ (sb8 (T (s + k))) ≠ iZ (c : Int)) = ¬ (iZ (T (s + k)) = iZ (c : Int)) := by rw [ne_eq, sb_c hT c1]
    simp only [cc]
    by_cases d : iZ (T (s + k)) = iZ (c : Int)
    · rw [if_neg (fun q => q d), if_pos d]
    · rw [if_pos d, if_neg d]
theorem wb_200 {N : Nat} (hN : 1000 ≤ N) {τ : aSt} (h : τ.1 66 18 ≠ 0) : f_M_isWord_200 N τ = some false := by
  unfold f_M_isWord_200 f_M_isWord_200_b17 f_M_isWord_200_b18
  obtain ⟨m, rfl, _⟩ := fuel (k := 0) (n := N) (by omega)
  rw [good_1 h, if_neg ff_tt, f_M_isWord_200_l21]
  rw [if_neg ff_tt]
  split <;> rfl
theorem wd_200 {N : Nat} (hN : 1000 ≤ N) {T : Nat → Int} {n i : Nat} (ho : okT T n) {σ τ : aSt} (h : TK T n i σ τ) : ∃ b, f_Reader_isWord_200 N σ = some b ∧ f_M_isWord_200 N τ = some b ∧ (b = true → tkK T n i = 1) := by
  obtain ⟨hi, hx, hm, ⟨x1, x2, x3, x4, x5, x6⟩, ⟨y1, y2, y3, y4, y5, y6, y7⟩⟩ := h
  have hn := hx.2.1
  have kb := tkK_bd (T := T) (n := n) (i := i)
  have pb := tkP_bd (T := T) hi
  have fl : f_M_isWord_200_b17 N τ = some false := by
    unfold f_M_isWord_200_b17 f_M_isWord_200_b18
    obtain ⟨m, rfl, _⟩ := fuel (k := 0) (n := N) (by omega)
    rw [f_M_isWord_200_l21, if_neg ff_tt]
    split <;> rfl
  unfold f_Reader_isWord_200 f_M_isWord_200
  rw [good_0 y6, if_pos (c := true = true) rfl, x3, y3, x1, x2, y1, y2, fl]
  have c1 : (iZ (tkK T n i) ≠ (1 : Int32)) = (tkK T n i ≠ 1) := by rw [ne_eq, show (1 : Int32) = iZ 1 from rfl, iZ_eq ⟨by omega, by omega⟩ (bd_lit _ rfl)]
  have c2 : (iZ (tkP T n i : Int) - iZ (tkS T n i : Int) = (5 : Int32)) = (tkP T n i = tkS T n i + 5) := by
    rw [show (5 : Int32) = iZ 5 from rfl, iZ_sub, iZ_eq ⟨by omega, by omega⟩ (bd_lit _ rfl)]; apply propext; omega
  simp only [ne_eq] at c1 ⊢
  simp only [c1, c2]
  by_cases d1 : tkK T n i = 1
  · rw [if_neg (c := ¬ tkK T n i = 1) (fun q => q d1), if_neg (c := ¬ tkK T n i = 1) (fun q => q d1)]
    by_cases d2 : tkP T n i = tkS T n i + 5
    · rw [if_pos d2, if_neg (c := ¬ tkP T n i = tkS T n i + 5) (fun q => q d2)]
      exact ⟨wdB T (tkS T n i) 200 5 0, wl_200x hx x1 (by omega) 5 0 N (by omega) (by omega), wl_200m ho hm y1 (by omega) 5 0 N (by omega) (by omega), fun _ => d1⟩
    · rw [if_neg d2, if_pos d2]
      exact ⟨false, rfl, rfl, fun q => by cases q⟩
  · rw [if_pos d1, if_pos d1]
    exact ⟨false, rfl, rfl, fun q => by cases q⟩
theorem wc_201 : ∀ k, k < 6 → ∃ c, c < 128 ∧ sch 201 (iZ ((k : Nat) : Int)) = iZ ((c : Nat) : Int) := by decide +kernel
theorem wl_201x {N : Nat} {T : Nat → Int} {n s : Nat} {σ : aSt} (hx : XT T n σ) (h4 : σ.1 1 4 = iZ s) (hs : s + 6 ≤ n) : ∀ j k m, k + j = 6 → j + 1 ≤ m → f_Reader_isWord_201_l16 N σ m (iZ ((k : Nat) : Int)) = some (wdB T s 201 j k) := by
  have hn := hx.2.1
  intro j
  induction j with
  | zero =>
    intro k m hk hm
    obtain ⟨m, rfl, _⟩ := fuel hm
    rw [f_Reader_isWord_201_l16, if_pos (by rw [show (6 : Int32) = iZ 6 from rfl, iZ_le (bd_lit _ rfl) ⟨by omega, by omega⟩]; omega)]; rfl
  | succ j ih =>
    intro k m hk hm
    obtain ⟨m, rfl, hm'⟩ := fuel hm
    have e4 : iZ (s : Int) + iZ (k : Int) = iZ ((s + k : Nat) : Int) := by rw [iZ_add]; congr 1
    rw [f_Reader_isWord_201_l16, if_neg (by rw [show (6 : Int32) = iZ 6 from rfl, iZ_le (bd_lit _ rfl) ⟨by omega, by omega⟩]; omega), if_pos (by rw [show (0 : Int32) = iZ 0 from rfl, show (6 : Int32) = iZ 6 from rfl, iZ_le (bd_lit _ rfl) ⟨by omega, by omega⟩, iZ_lt ⟨by omega, by omega⟩ (bd_lit _ rfl)]; omega), h4, e4, byteAt_ok hx (by omega), tpb_in (by omega), i1, ih (k + 1) m (by omega) hm']
    rw [wdB_s]
    split <;> rfl
theorem wl_201m {N : Nat} {T : Nat → Int} {n s : Nat} (ho : okT T n) {τ : aSt} (hm : MS T n τ) (h4 : τ.1 66 15 = iZ s) (hs : s + 6 ≤ n) : ∀ j k m, k + j = 6 → j + 2 ≤ m → f_M_isWord_201_l21 N τ m true (iZ ((k : Nat) : Int)) = some (wdB T s 201 j k) := by
  have hn := hm.2.1
  intro j
  induction j with
  | zero =>
    intro k m hk hm
    obtain ⟨m, rfl, _⟩ := fuel (k := 1) hm
    rw [f_M_isWord_201_l21, if_pos (by rw [show (6 : Int32) = iZ 6 from rfl, iZ_le (bd_lit _ rfl) ⟨by omega, by omega⟩]; omega)]; rfl
  | succ j ih =>
    intro k m hk hmm
    obtain ⟨m, rfl, hm'⟩ := fuel (k := j + 2) hmm
    have e4 : iZ (s : Int) + iZ (k : Int) = iZ ((s + k : Nat) : Int) := by rw [iZ_add]; congr 1
    obtain ⟨c, c1, c2⟩ := wc_201 k (by omega)
    have hT := ho (s + k) (by omega)
    have fl : f_M_isWord_201_l21 N τ m false (iZ ((k + 1 : Nat) : Int)) = some false := by
      obtain ⟨m, rfl, _⟩ := fuel (k := j + 1) hm'
      rw [f_M_isWord_201_l21]
      split
      · rfl
      · rw [if_neg ff_tt]
    rw [f_M_isWord_201_l21, if_neg (by rw [show (6 : Int32) = iZ 6 from rfl, iZ_le (bd_lit _ rfl) ⟨by omega, by omega⟩]; omega), if_pos rfl, h4, e4, if_pos (by rw [show (0 : Int32) = iZ 0 from rfl, show (200 : Int32) = iZ 200 from rfl, iZ_le (bd_lit _ rfl) ⟨by omega, by omega⟩, iZ_lt ⟨by omega, by omega⟩ (bd_lit _ rfl)]; omega), if_pos (by rw [show (0 : Int32) = iZ 0 from rfl, show (6 : Int32) = iZ 6 from rfl, iZ_le (bd_lit _ rfl) ⟨by omega, by omega⟩, iZ_lt ⟨by omega, by omega⟩ (bd_lit _ rfl)]; omega), iZ_idx (by omega) (by omega), Int.toNat_natCast, hm.2.2 (s + k) (by omega), i1, ih (k + 1) m (by omega) hm', fl]
    rw [wdB_s, c2]
    have cc : (iZ (sb8 (T (s + k))) ≠ iZ (c : Int)) = ¬ (iZ (T (s + k)) = iZ (c : Int)) := by rw [ne_eq, sb_c hT c1]
    simp only [cc]
    by_cases d : iZ (T (s + k)) = iZ (c : Int)
    · rw [if_neg (fun q => q d), if_pos d]
    · rw [if_pos d, if_neg d]
theorem wb_201 {N : Nat} (hN : 1000 ≤ N) {τ : aSt} (h : τ.1 66 18 ≠ 0) : f_M_isWord_201 N τ = some false := by
  unfold f_M_isWord_201 f_M_isWord_201_b17 f_M_isWord_201_b18
  obtain ⟨m, rfl, _⟩ := fuel (k := 0) (n := N) (by omega)
  rw [good_1 h, if_neg ff_tt, f_M_isWord_201_l21]
  rw [if_neg ff_tt]
  split <;> rfl
theorem wd_201 {N : Nat} (hN : 1000 ≤ N) {T : Nat → Int} {n i : Nat} (ho : okT T n) {σ τ : aSt} (h : TK T n i σ τ) : ∃ b, f_Reader_isWord_201 N σ = some b ∧ f_M_isWord_201 N τ = some b ∧ (b = true → tkK T n i = 1) := by
  obtain ⟨hi, hx, hm, ⟨x1, x2, x3, x4, x5, x6⟩, ⟨y1, y2, y3, y4, y5, y6, y7⟩⟩ := h
  have hn := hx.2.1
  have kb := tkK_bd (T := T) (n := n) (i := i)
  have pb := tkP_bd (T := T) hi
  have fl : f_M_isWord_201_b17 N τ = some false := by
    unfold f_M_isWord_201_b17 f_M_isWord_201_b18
    obtain ⟨m, rfl, _⟩ := fuel (k := 0) (n := N) (by omega)
    rw [f_M_isWord_201_l21, if_neg ff_tt]
    split <;> rfl
  unfold f_Reader_isWord_201 f_M_isWord_201
  rw [good_0 y6, if_pos (c := true = true) rfl, x3, y3, x1, x2, y1, y2, fl]
  have c1 : (iZ (tkK T n i) ≠ (1 : Int32)) = (tkK T n i ≠ 1) := by rw [ne_eq, show (1 : Int32) = iZ 1 from rfl, iZ_eq ⟨by omega, by omega⟩ (bd_lit _ rfl)]
  have c2 : (iZ (tkP T n i : Int) - iZ (tkS T n i : Int) = (6 : Int32)) = (tkP T n i = tkS T n i + 6) := by
    rw [show (6 : Int32) = iZ 6 from rfl, iZ_sub, iZ_eq ⟨by omega, by omega⟩ (bd_lit _ rfl)]; apply propext; omega
  simp only [ne_eq] at c1 ⊢
  simp only [c1, c2]
  by_cases d1 : tkK T n i = 1
  · rw [if_neg (c := ¬ tkK T n i = 1) (fun q => q d1), if_neg (c := ¬ tkK T n i = 1) (fun q => q d1)]
    by_cases d2 : tkP T n i = tkS T n i + 6
    · rw [if_pos d2, if_neg (c := ¬ tkP T n i = tkS T n i + 6) (fun q => q d2)]
      exact ⟨wdB T (tkS T n i) 201 6 0, wl_201x hx x1 (by omega) 6 0 N (by omega) (by omega), wl_201m ho hm y1 (by omega) 6 0 N (by omega) (by omega), fun _ => d1⟩
    · rw [if_neg d2, if_pos d2]
      exact ⟨false, rfl, rfl, fun q => by cases q⟩
  · rw [if_pos d1, if_pos d1]
    exact ⟨false, rfl, rfl, fun q => by cases q⟩
theorem wc_202 : ∀ k, k < 4 → ∃ c, c < 128 ∧ sch 202 (iZ ((k : Nat) : Int)) = iZ ((c : Nat) : Int) := by decide +kernel
theorem wl_202x {N : Nat} {T : Nat → Int} {n s : Nat} {σ : aSt} (hx : XT T n σ) (h4 : σ.1 1 4 = iZ s) (hs : s + 4 ≤ n) : ∀ j k m, k + j = 4 → j + 1 ≤ m → f_Reader_isWord_202_l16 N σ m (iZ ((k : Nat) : Int)) = some (wdB T s 202 j k) := by
  have hn := hx.2.1
  intro j
  induction j with
  | zero =>
    intro k m hk hm
    obtain ⟨m, rfl, _⟩ := fuel hm
    rw [f_Reader_isWord_202_l16, if_pos (by rw [show (4 : Int32) = iZ 4 from rfl, iZ_le (bd_lit _ rfl) ⟨by omega, by omega⟩]; omega)]; rfl
  | succ j ih =>
    intro k m hk hm
    obtain ⟨m, rfl, hm'⟩ := fuel hm
    have e4 : iZ (s : Int) + iZ (k : Int) = iZ ((s + k : Nat) : Int) := by rw [iZ_add]; congr 1
    rw [f_Reader_isWord_202_l16, if_neg (by rw [show (4 : Int32) = iZ 4 from rfl, iZ_le (bd_lit _ rfl) ⟨by omega, by omega⟩]; omega), if_pos (by rw [show (0 : Int32) = iZ 0 from rfl, show (4 : Int32) = iZ 4 from rfl, iZ_le (bd_lit _ rfl) ⟨by omega, by omega⟩, iZ_lt ⟨by omega, by omega⟩ (bd_lit _ rfl)]; omega), h4, e4, byteAt_ok hx (by omega), tpb_in (by omega), i1, ih (k + 1) m (by omega) hm']
    rw [wdB_s]
    split <;> rfl
theorem wl_202m {N : Nat} {T : Nat → Int} {n s : Nat} (ho : okT T n) {τ : aSt} (hm : MS T n τ) (h4 : τ.1 66 15 = iZ s) (hs : s + 4 ≤ n) : ∀ j k m, k + j = 4 → j + 2 ≤ m → f_M_isWord_202_l21 N τ m true (iZ ((k : Nat) : Int)) = some (wdB T s 202 j k) := by
  have hn := hm.2.1
  intro j
  induction j with
  | zero =>
    intro k m hk hm
    obtain ⟨m, rfl, _⟩ := fuel (k := 1) hm
    rw [f_M_isWord_202_l21, if_pos (by rw [show (4 : Int32) = iZ 4 from rfl, iZ_le (bd_lit _ rfl) ⟨by omega, by omega⟩]; omega)]; rfl
  | succ j ih =>
    intro k m hk hmm
    obtain ⟨m, rfl, hm'⟩ := fuel (k := j + 2) hmm
    have e4 : iZ (s : Int) + iZ (k : Int) = iZ ((s + k : Nat) : Int) := by rw [iZ_add]; congr 1
    obtain ⟨c, c1, c2⟩ := wc_202 k (by omega)
    have hT := ho (s + k) (by omega)
    have fl : f_M_isWord_202_l21 N τ m false (iZ ((k + 1 : Nat) : Int)) = some false := by
      obtain ⟨m, rfl, _⟩ := fuel (k := j + 1) hm'
      rw [f_M_isWord_202_l21]
      split
      · rfl
      · rw [if_neg ff_tt]
    rw [f_M_isWord_202_l21, if_neg (by rw [show (4 : Int32) = iZ 4 from rfl, iZ_le (bd_lit _ rfl) ⟨by omega, by omega⟩]; omega), if_pos rfl, h4, e4, if_pos (by rw [show (0 : Int32) = iZ 0 from rfl, show (200 : Int32) = iZ 200 from rfl, iZ_le (bd_lit _ rfl) ⟨by omega, by omega⟩, iZ_lt ⟨by omega, by omega⟩ (bd_lit _ rfl)]; omega), if_pos (by rw [show (0 : Int32) = iZ 0 from rfl, show (4 : Int32) = iZ 4 from rfl, iZ_le (bd_lit _ rfl) ⟨by omega, by omega⟩, iZ_lt ⟨by omega, by omega⟩ (bd_lit _ rfl)]; omega), iZ_idx (by omega) (by omega), Int.toNat_natCast, hm.2.2 (s + k) (by omega), i1, ih (k + 1) m (by omega) hm', fl]
    rw [wdB_s, c2]
    have cc : (iZ (sb8 (T (s + k))) ≠ iZ (c : Int)) = ¬ (iZ (T (s + k)) = iZ (c : Int)) := by rw [ne_eq, sb_c hT c1]
    simp only [cc]
    by_cases d : iZ (T (s + k)) = iZ (c : Int)
    · rw [if_neg (fun q => q d), if_pos d]
    · rw [if_pos d, if_neg d]
theorem wb_202 {N : Nat} (hN : 1000 ≤ N) {τ : aSt} (h : τ.1 66 18 ≠ 0) : f_M_isWord_202 N τ = some false := by
  unfold f_M_isWord_202 f_M_isWord_202_b17 f_M_isWord_202_b18
  obtain ⟨m, rfl, _⟩ := fuel (k := 0) (n := N) (by omega)
  rw [good_1 h, if_neg ff_tt, f_M_isWord_202_l21]
  rw [if_neg ff_tt]
  split <;> rfl
theorem wd_202 {N : Nat} (hN : 1000 ≤ N) {T : Nat → Int} {n i : Nat} (ho : okT T n) {σ τ : aSt} (h : TK T n i σ τ) : ∃ b, f_Reader_isWord_202 N σ = some b ∧ f_M_isWord_202 N τ = some b ∧ (b = true → tkK T n i = 1) := by
  obtain ⟨hi, hx, hm, ⟨x1, x2, x3, x4, x5, x6⟩, ⟨y1, y2, y3, y4, y5, y6, y7⟩⟩ := h
  have hn := hx.2.1
  have kb := tkK_bd (T := T) (n := n) (i := i)
  have pb := tkP_bd (T := T) hi
  have fl : f_M_isWord_202_b17 N τ = some false := by
    unfold f_M_isWord_202_b17 f_M_isWord_202_b18
    obtain ⟨m, rfl, _⟩ := fuel (k := 0) (n := N) (by omega)
    rw [f_M_isWord_202_l21, if_neg ff_tt]
    split <;> rfl
  unfold f_Reader_isWord_202 f_M_isWord_202
  rw [good_0 y6, if_pos (c := true = true) rfl, x3, y3, x1, x2, y1, y2, fl]
  have c1 : (iZ (tkK T n i) ≠ (1 : Int32)) = (tkK T n i ≠ 1) := by rw [ne_eq, show (1 : Int32) = iZ 1 from rfl, iZ_eq ⟨by omega, by omega⟩ (bd_lit _ rfl)]
  have c2 : (iZ (tkP T n i : Int) - iZ (tkS T n i : Int) = (4 : Int32)) = (tkP T n i = tkS T n i + 4) := by
    rw [show (4 : Int32) = iZ 4 from rfl, iZ_sub, iZ_eq ⟨by omega, by omega⟩ (bd_lit _ rfl)]; apply propext; omega
  simp only [ne_eq] at c1 ⊢
  simp only [c1, c2]
  by_cases d1 : tkK T n i = 1
  · rw [if_neg (c := ¬ tkK T n i = 1) (fun q => q d1), if_neg (c := ¬ tkK T n i = 1) (fun q => q d1)]
    by_cases d2 : tkP T n i = tkS T n i + 4
    · rw [if_pos d2, if_neg (c := ¬ tkP T n i = tkS T n i + 4) (fun q => q d2)]
      exact ⟨wdB T (tkS T n i) 202 4 0, wl_202x hx x1 (by omega) 4 0 N (by omega) (by omega), wl_202m ho hm y1 (by omega) 4 0 N (by omega) (by omega), fun _ => d1⟩
    · rw [if_neg d2, if_pos d2]
      exact ⟨false, rfl, rfl, fun q => by cases q⟩
  · rw [if_pos d1, if_pos d1]
    exact ⟨false, rfl, rfl, fun q => by cases q⟩
theorem wc_203 : ∀ k, k < 1 → ∃ c, c < 128 ∧ sch 203 (iZ ((k : Nat) : Int)) = iZ ((c : Nat) : Int) := by decide +kernel
theorem wl_203x {N : Nat} {T : Nat → Int} {n s : Nat} {σ : aSt} (hx : XT T n σ) (h4 : σ.1 1 4 = iZ s) (hs : s + 1 ≤ n) : ∀ j k m, k + j = 1 → j + 1 ≤ m → f_Reader_isWord_203_l16 N σ m (iZ ((k : Nat) : Int)) = some (wdB T s 203 j k) := by
  have hn := hx.2.1
  intro j
  induction j with
  | zero =>
    intro k m hk hm
    obtain ⟨m, rfl, _⟩ := fuel hm
    rw [f_Reader_isWord_203_l16, if_pos (by rw [show (1 : Int32) = iZ 1 from rfl, iZ_le (bd_lit _ rfl) ⟨by omega, by omega⟩]; omega)]; rfl
  | succ j ih =>
    intro k m hk hm
    obtain ⟨m, rfl, hm'⟩ := fuel hm
    have e4 : iZ (s : Int) + iZ (k : Int) = iZ ((s + k : Nat) : Int) := by rw [iZ_add]; congr 1
    rw [f_Reader_isWord_203_l16, if_neg (by rw [show (1 : Int32) = iZ 1 from rfl, iZ_le (bd_lit _ rfl) ⟨by omega, by omega⟩]; omega), if_pos (by rw [show (0 : Int32) = iZ 0 from rfl, show (1 : Int32) = iZ 1 from rfl, iZ_le (bd_lit _ rfl) ⟨by omega, by omega⟩, iZ_lt ⟨by omega, by omega⟩ (bd_lit _ rfl)]; omega), h4, e4, byteAt_ok hx (by omega), tpb_in (by omega), i1, ih (k + 1) m (by omega) hm']
    rw [wdB_s]
    split <;> rfl
theorem wl_203m {N : Nat} {T : Nat → Int} {n s : Nat} (ho : okT T n) {τ : aSt} (hm : MS T n τ) (h4 : τ.1 66 15 = iZ s) (hs : s + 1 ≤ n) : ∀ j k m, k + j = 1 → j + 2 ≤ m → f_M_isWord_203_l21 N τ m true (iZ ((k : Nat) : Int)) = some (wdB T s 203 j k) := by
  have hn := hm.2.1
  intro j
  induction j with
  | zero =>
    intro k m hk hm
    obtain ⟨m, rfl, _⟩ := fuel (k := 1) hm
    rw [f_M_isWord_203_l21, if_pos (by rw [show (1 : Int32) = iZ 1 from rfl, iZ_le (bd_lit _ rfl) ⟨by omega, by omega⟩]; omega)]; rfl
  | succ j ih =>
    intro k m hk hmm
    obtain ⟨m, rfl, hm'⟩ := fuel (k := j + 2) hmm
    have e4 : iZ (s : Int) + iZ (k : Int) = iZ ((s + k : Nat) : Int) := by rw [iZ_add]; congr 1
    obtain ⟨c, c1, c2⟩ := wc_203 k (by omega)
    have hT := ho (s + k) (by omega)
    have fl : f_M_isWord_203_l21 N τ m false (iZ ((k + 1 : Nat) : Int)) = some false := by
      obtain ⟨m, rfl, _⟩ := fuel (k := j + 1) hm'
      rw [f_M_isWord_203_l21]
      split
      · rfl
      · rw [if_neg ff_tt]
    rw [f_M_isWord_203_l21, if_neg (by rw [show (1 : Int32) = iZ 1 from rfl, iZ_le (bd_lit _ rfl) ⟨by omega, by omega⟩]; omega), if_pos rfl, h4, e4, if_pos (by rw [show (0 : Int32) = iZ 0 from rfl, show (200 : Int32) = iZ 200 from rfl, iZ_le (bd_lit _ rfl) ⟨by omega, by omega⟩, iZ_lt ⟨by omega, by omega⟩ (bd_lit _ rfl)]; omega), if_pos (by rw [show (0 : Int32) = iZ 0 from rfl, show (1 : Int32) = iZ 1 from rfl, iZ_le (bd_lit _ rfl) ⟨by omega, by omega⟩, iZ_lt ⟨by omega, by omega⟩ (bd_lit _ rfl)]; omega), iZ_idx (by omega) (by omega), Int.toNat_natCast, hm.2.2 (s + k) (by omega), i1, ih (k + 1) m (by omega) hm', fl]
    rw [wdB_s, c2]
    have cc : (iZ (sb8 (T (s + k))) ≠ iZ (c : Int)) = ¬ (iZ (T (s + k)) = iZ (c : Int)) := by rw [ne_eq, sb_c hT c1]
    simp only [cc]
    by_cases d : iZ (T (s + k)) = iZ (c : Int)
    · rw [if_neg (fun q => q d), if_pos d]
    · rw [if_pos d, if_neg d]
theorem wb_203 {N : Nat} (hN : 1000 ≤ N) {τ : aSt} (h : τ.1 66 18 ≠ 0) : f_M_isWord_203 N τ = some false := by
  unfold f_M_isWord_203 f_M_isWord_203_b17 f_M_isWord_203_b18
  obtain ⟨m, rfl, _⟩ := fuel (k := 0) (n := N) (by omega)
  rw [good_1 h, if_neg ff_tt, f_M_isWord_203_l21]
  rw [if_neg ff_tt]
  split <;> rfl
theorem wd_203 {N : Nat} (hN : 1000 ≤ N) {T : Nat → Int} {n i : Nat} (ho : okT T n) {σ τ : aSt} (h : TK T n i σ τ) : ∃ b, f_Reader_isWord_203 N σ = some b ∧ f_M_isWord_203 N τ = some b ∧ (b = true → tkK T n i = 1) := by
  obtain ⟨hi, hx, hm, ⟨x1, x2, x3, x4, x5, x6⟩, ⟨y1, y2, y3, y4, y5, y6, y7⟩⟩ := h
  have hn := hx.2.1
  have kb := tkK_bd (T := T) (n := n) (i := i)
  have pb := tkP_bd (T := T) hi
  have fl : f_M_isWord_203_b17 N τ = some false := by
    unfold f_M_isWord_203_b17 f_M_isWord_203_b18
    obtain ⟨m, rfl, _⟩ := fuel (k := 0) (n := N) (by omega)
    rw [f_M_isWord_203_l21, if_neg ff_tt]
    split <;> rfl
  unfold f_Reader_isWord_203 f_M_isWord_203
  rw [good_0 y6, if_pos (c := true = true) rfl, x3, y3, x1, x2, y1, y2, fl]
  have c1 : (iZ (tkK T n i) ≠ (1 : Int32)) = (tkK T n i ≠ 1) := by rw [ne_eq, show (1 : Int32) = iZ 1 from rfl, iZ_eq ⟨by omega, by omega⟩ (bd_lit _ rfl)]
  have c2 : (iZ (tkP T n i : Int) - iZ (tkS T n i : Int) = (1 : Int32)) = (tkP T n i = tkS T n i + 1) := by
    rw [show (1 : Int32) = iZ 1 from rfl, iZ_sub, iZ_eq ⟨by omega, by omega⟩ (bd_lit _ rfl)]; apply propext; omega
  simp only [ne_eq] at c1 ⊢
  simp only [c1, c2]
  by_cases d1 : tkK T n i = 1
  · rw [if_neg (c := ¬ tkK T n i = 1) (fun q => q d1), if_neg (c := ¬ tkK T n i = 1) (fun q => q d1)]
    by_cases d2 : tkP T n i = tkS T n i + 1
    · rw [if_pos d2, if_neg (c := ¬ tkP T n i = tkS T n i + 1) (fun q => q d2)]
      exact ⟨wdB T (tkS T n i) 203 1 0, wl_203x hx x1 (by omega) 1 0 N (by omega) (by omega), wl_203m ho hm y1 (by omega) 1 0 N (by omega) (by omega), fun _ => d1⟩
    · rw [if_neg d2, if_pos d2]
      exact ⟨false, rfl, rfl, fun q => by cases q⟩
  · rw [if_pos d1, if_pos d1]
    exact ⟨false, rfl, rfl, fun q => by cases q⟩
