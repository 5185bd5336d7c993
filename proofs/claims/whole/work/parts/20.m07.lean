def f_M_begins (N : Nat) (σ : aSt) : Option aSt :=
  ((f_M_advance N (s_i (s_i (s_i (s_i (s_i σ 66 13 (σ.1 66 11)) 66 11 (0 : Int32)) 66 14 (0 : Int32)) 66 18 (0 : Int32)) 66 19 (-1 : Int32))).bind fun x1 => some x1)
set_option maxRecDepth 20000 in
set_option maxHeartbeats 4000000 in
theorem c_M_begins (d : Nat) {N : Nat} (σ : aSt) {P : Option Value → aSt → Prop} {x : aSt} (h : f_M_begins N σ = some x) (hp : P none x) : aCall MT (d + 3) 49 [.ref 66] σ P := by
  unfold f_M_begins at h
  refine call_of (code := mc_M_begins) (L := [some (.ref 66)]) rfl rfl rfl rfl ?_
  obtain ⟨x1, hx1, h⟩ := bind_of h
  refine go_call (r := none) (σc := (s_i (s_i (s_i (s_i (s_i σ 66 13 (σ.1 66 11)) 66 11 (0 : Int32)) 66 14 (0 : Int32)) 66 18 (0 : Int32)) 66 19 (-1 : Int32))) (σ1 := x1) (mi := 48) (vs := [.ref 66]) (k' := 18) (L' := [some (.ref 66)]) (S' := []) 18 (fun P9 h9 => c_M_advance (d + 0) (s_i (s_i (s_i (s_i (s_i σ 66 13 (σ.1 66 11)) 66 11 (0 : Int32)) 66 14 (0 : Int32)) 66 18 (0 : Int32)) 66 19 (-1 : Int32)) hx1 h9) (fun n h => h) ?_
  cases h
  exact go_ret 1 (fun _ => hp)
def f_M_good (σ : aSt) : Bool :=
  (if (σ.1 66 18) ≠ 0 then false else true)
set_option maxRecDepth 20000 in
set_option maxHeartbeats 4000000 in
theorem c_M_good (d : Nat) (σ : aSt) {P : Option Value → aSt → Prop} (h : P (some (.int (b2i ((f_M_good σ))))) σ) : aCall MT (d + 1) 50 [.ref 66] σ P := by
  unfold f_M_good at h
  refine call_of (code := mc_M_good) (L := [some (.ref 66)]) rfl rfl rfl rfl ?_
  refine go_if (c := (σ.1 66 18) ≠ 0) (k1 := 5) (L1 := [some (.ref 66)]) (S1 := []) (σ1 := σ) (k2 := 3) (L2 := [some (.ref 66)]) (S2 := []) (σ2 := σ) 3 (fun n h => h) (fun hc1 => ?_) (fun hc1 => ?_)
  · rw [if_pos hc1] at h
    exact go_ret 2 (fun _ => And.intro (Or.inl rfl) h)
  · rw [if_neg hc1] at h
    exact go_ret 3 (fun _ => And.intro (Or.inr rfl) h)
def f_M_isWord_200_l21 (N : Nat) (σ : aSt) : Nat → Bool → Int32 → Option Bool
  | 0, _, _ => none
  | n + 1, v2, v3 => (if (5 : Int32) ≤ v3 then some v2 else (if v2 = true then (if 0 ≤ ((σ.1 66 15) + v3) ∧ ((σ.1 66 15) + v3) < (200 : Int32) then (if 0 ≤ v3 ∧ v3 < (5 : Int32) then (if (σ.1 70 ((σ.1 66 15) + v3).toNatClampNeg) ≠ (sch 200 v3) then f_M_isWord_200_l21 N σ n false (v3 + (1 : Int32)) else f_M_isWord_200_l21 N σ n true (v3 + (1 : Int32))) else none) else none) else some v2))
set_option maxRecDepth 20000 in
set_option maxHeartbeats 4000000 in
theorem t_M_isWord_200_l21 (d : Nat) {N : Nat} (σ : aSt) {x : Bool} {P : Option Value → aSt → Prop} (hp : P (some (.int (b2i x))) σ) : ∀ (n : Nat) (v2 : Bool) (v3 : Int32), f_M_isWord_200_l21 N σ n v2 v3 = some x → aGo (aCall MT (d + 1)) P mc_M_isWord 21 [some (.ref 66), some (.ref 200), some (.int (b2i v2)), some (.int v3)] [] σ := by
  intro n
  induction n with
  | zero => intro v2 v3 h; cases h
  | succ n ih =>
    intro v2 v3 h
    rw [f_M_isWord_200_l21] at h
    refine go_if (c := (5 : Int32) ≤ v3) (k1 := 44) (L1 := [some (.ref 66), some (.ref 200), some (.int (b2i v2)), some (.int v3)]) (S1 := []) (σ1 := σ) (k2 := 25) (L2 := [some (.ref 66), some (.ref 200), some (.int (b2i v2)), some (.int v3)]) (S2 := []) (σ2 := σ) 4 (fun n h => h) (fun hc3 => ?_) (fun hc3 => ?_)
    · rw [if_pos hc3] at h
      cases h
      exact go_ret 2 (fun _ => And.intro (b2i_01 _) hp)
    · rw [if_neg hc3] at h
      refine go_ifz (b := v2) (k1 := 44) (L1 := [some (.ref 66), some (.ref 200), some (.int (b2i v2)), some (.int v3)]) (S1 := []) (σ1 := σ) (k2 := 27) (L2 := [some (.ref 66), some (.ref 200), some (.int (b2i v2)), some (.int v3)]) (S2 := []) (σ2 := σ) 2 (fun n h => h) (fun hc4 => ?_) (fun hc4 => ?_)
      · rw [if_neg hc4] at h
        cases h
        exact go_ret 2 (fun _ => And.intro (b2i_01 _) hp)
      · rw [if_pos hc4] at h
        obtain ⟨hc5, h⟩ := ite_of h
        refine go_q (Q := inb 2 σ 70 ((σ.1 66 15) + v3)) (k' := 34) (L' := [some (.ref 66), some (.ref 200), some (.int (b2i v2)), some (.int v3)]) (S' := [.int (σ.1 70 ((σ.1 66 15) + v3).toNatClampNeg)]) (σ' := σ) 7 (inb_mk rfl hc5.1 hc5.2) (fun n h => h) ?_
        obtain ⟨hc6, h⟩ := ite_of h
        refine go_q (Q := 0 ≤ v3 ∧ v3 < slen 200) (k' := 37) (L' := [some (.ref 66), some (.ref 200), some (.int (b2i v2)), some (.int v3)]) (S' := [.int (sch 200 v3), .int (σ.1 70 ((σ.1 66 15) + v3).toNatClampNeg)]) (σ' := σ) 3 hc6 (fun n h => h) ?_
        refine go_if (c := (σ.1 70 ((σ.1 66 15) + v3).toNatClampNeg) ≠ (sch 200 v3)) (k1 := 40) (L1 := [some (.ref 66), some (.ref 200), some (.int (b2i v2)), some (.int v3)]) (S1 := []) (σ1 := σ) (k2 := 38) (L2 := [some (.ref 66), some (.ref 200), some (.int (b2i v2)), some (.int v3)]) (S2 := []) (σ2 := σ) 1 (fun n h => h) (fun hc7 => ?_) (fun hc7 => ?_)
        · rw [if_pos hc7] at h
          refine go_st (k' := 21) (L' := [some (.ref 66), some (.ref 200), some (.int (0 : Int32)), some (.int (v3 + (1 : Int32)))]) (S' := []) (σ' := σ) 4 (fun n h => h) ?_
          exact ih false (v3 + (1 : Int32)) h
        · rw [if_neg hc7] at h
          refine go_st (k' := 21) (L' := [some (.ref 66), some (.ref 200), some (.int (1 : Int32)), some (.int (v3 + (1 : Int32)))]) (S' := []) (σ' := σ) 5 (fun n h => h) ?_
          exact ih true (v3 + (1 : Int32)) h
def f_M_isWord_200_b18 (N : Nat) (s0 : Bool) (σ : aSt) : Option Bool :=
  f_M_isWord_200_l21 N σ N s0 (0 : Int32)
set_option maxRecDepth 20000 in
set_option maxHeartbeats 4000000 in
theorem t_M_isWord_200_b18 (d : Nat) {N : Nat} (d2 d3 : Option Value) (s0 : Bool) (σ : aSt) {P : Option Value → aSt → Prop} {x : Bool} (h : f_M_isWord_200_b18 N s0 σ = some x) (hp : P (some (.int (b2i x))) σ) : aGo (aCall MT (d + 1)) P mc_M_isWord 18 [some (.ref 66), some (.ref 200), d2, d3] [.int (b2i s0)] σ := by
  unfold f_M_isWord_200_b18 at h
  refine go_st (k' := 21) (L' := [some (.ref 66), some (.ref 200), some (.int (b2i s0)), some (.int (0 : Int32))]) (S' := []) (σ' := σ) 3 (fun n h => h) ?_
  exact t_M_isWord_200_l21 d σ hp N s0 (0 : Int32) h
def f_M_isWord_200_b17 (N : Nat) (σ : aSt) : Option Bool :=
  f_M_isWord_200_b18 N false σ
set_option maxRecDepth 20000 in
set_option maxHeartbeats 4000000 in
theorem t_M_isWord_200_b17 (d : Nat) {N : Nat} (d2 d3 : Option Value) (σ : aSt) {P : Option Value → aSt → Prop} {x : Bool} (h : f_M_isWord_200_b17 N σ = some x) (hp : P (some (.int (b2i x))) σ) : aGo (aCall MT (d + 1)) P mc_M_isWord 17 [some (.ref 66), some (.ref 200), d2, d3] [] σ := by
  unfold f_M_isWord_200_b17 at h
  refine go_st (k' := 18) (L' := [some (.ref 66), some (.ref 200), d2, d3]) (S' := [.int (0 : Int32)]) (σ' := σ) 1 (fun n h => h) ?_
  exact t_M_isWord_200_b18 d _ _ false σ h hp
def f_M_isWord_200 (N : Nat) (σ : aSt) : Option Bool :=
  (if (f_M_good σ) = true then (if (σ.1 66 16) ≠ (1 : Int32) then f_M_isWord_200_b17 N σ else (if ((σ.1 66 14) - (σ.1 66 15)) ≠ (5 : Int32) then f_M_isWord_200_b17 N σ else f_M_isWord_200_b18 N true σ)) else f_M_isWord_200_b17 N σ)
set_option maxRecDepth 20000 in
set_option maxHeartbeats 4000000 in
theorem c_M_isWord_200 (d : Nat) {N : Nat} (σ : aSt) {P : Option Value → aSt → Prop} {x : Bool} (h : f_M_isWord_200 N σ = some x) (hp : P (some (.int (b2i x))) σ) : aCall MT (d + 2) 51 [.ref 66, .ref 200] σ P := by
  unfold f_M_isWord_200 at h
  refine call_of (code := mc_M_isWord) (L := [some (.ref 66), some (.ref 200), none, none]) rfl rfl rfl rfl ?_
  refine go_call (r := some (.int (b2i (f_M_good σ)))) (σc := σ) (σ1 := σ) (mi := 50) (vs := [.ref 66]) (k' := 2) (L' := [some (.ref 66), some (.ref 200), none, none]) (S' := []) 2 (fun P9 h9 => c_M_good (d + 0) σ h9) (fun n h => h) ?_
  refine go_ifz (b := (f_M_good σ)) (k1 := 17) (L1 := [some (.ref 66), some (.ref 200), none, none]) (S1 := []) (σ1 := σ) (k2 := 3) (L2 := [some (.ref 66), some (.ref 200), none, none]) (S2 := []) (σ2 := σ) 1 (fun n h => h) (fun hc1 => ?_) (fun hc1 => ?_)
  · rw [if_neg hc1] at h
    exact t_M_isWord_200_b17 d _ _ σ h hp
  · rw [if_pos hc1] at h
    refine go_if (c := (σ.1 66 16) ≠ (1 : Int32)) (k1 := 17) (L1 := [some (.ref 66), some (.ref 200), none, none]) (S1 := []) (σ1 := σ) (k2 := 7) (L2 := [some (.ref 66), some (.ref 200), none, none]) (S2 := []) (σ2 := σ) 4 (fun n h => h) (fun hc2 => ?_) (fun hc2 => ?_)
    · rw [if_pos hc2] at h
      exact t_M_isWord_200_b17 d _ _ σ h hp
    · rw [if_neg hc2] at h
      refine go_if (c := ((σ.1 66 14) - (σ.1 66 15)) ≠ (5 : Int32)) (k1 := 17) (L1 := [some (.ref 66), some (.ref 200), none, none]) (S1 := []) (σ1 := σ) (k2 := 15) (L2 := [some (.ref 66), some (.ref 200), none, none]) (S2 := []) (σ2 := σ) 8 (fun n h => h) (fun hc8 => ?_) (fun hc8 => ?_)
      · rw [if_pos hc8] at h
        exact t_M_isWord_200_b17 d _ _ σ h hp
      · rw [if_neg hc8] at h
        refine go_st (k' := 18) (L' := [some (.ref 66), some (.ref 200), none, none]) (S' := [.int (1 : Int32)]) (σ' := σ) 2 (fun n h => h) ?_
        exact t_M_isWord_200_b18 d _ _ true σ h hp
def f_M_isSign (p0 : Int32) (σ : aSt) : Bool :=
  (if (f_M_good σ) = true then (if (σ.1 66 16) ≠ (3 : Int32) then false else (if (σ.1 66 17) ≠ p0 then false else true)) else false)
set_option maxRecDepth 20000 in
set_option maxHeartbeats 4000000 in
theorem c_M_isSign (d : Nat) (p0 : Int32) (σ : aSt) {P : Option Value → aSt → Prop} (h : P (some (.int (b2i ((f_M_isSign p0 σ))))) σ) : aCall MT (d + 2) 53 [.ref 66, .int p0] σ P := by
  unfold f_M_isSign at h
  refine call_of (code := mc_M_isSign) (L := [some (.ref 66), some (.int p0)]) rfl rfl rfl rfl ?_
  refine go_call (r := some (.int (b2i (f_M_good σ)))) (σc := σ) (σ1 := σ) (mi := 50) (vs := [.ref 66]) (k' := 2) (L' := [some (.ref 66), some (.int p0)]) (S' := []) 2 (fun P9 h9 => c_M_good (d + 0) σ h9) (fun n h => h) ?_
  refine go_ifz (b := (f_M_good σ)) (k1 := 13) (L1 := [some (.ref 66), some (.int p0)]) (S1 := []) (σ1 := σ) (k2 := 3) (L2 := [some (.ref 66), some (.int p0)]) (S2 := []) (σ2 := σ) 1 (fun n h => h) (fun hc1 => ?_) (fun hc1 => ?_)
  · rw [if_neg hc1] at h
    exact go_ret 2 (fun _ => And.intro (Or.inl rfl) h)
  · rw [if_pos hc1] at h
    refine go_if (c := (σ.1 66 16) ≠ (3 : Int32)) (k1 := 13) (L1 := [some (.ref 66), some (.int p0)]) (S1 := []) (σ1 := σ) (k2 := 7) (L2 := [some (.ref 66), some (.int p0)]) (S2 := []) (σ2 := σ) 4 (fun n h => h) (fun hc2 => ?_) (fun hc2 => ?_)
    · rw [if_pos hc2] at h
      exact go_ret 2 (fun _ => And.intro (Or.inl rfl) h)
    · rw [if_neg hc2] at h
      refine go_if (c := (σ.1 66 17) ≠ p0) (k1 := 13) (L1 := [some (.ref 66), some (.int p0)]) (S1 := []) (σ1 := σ) (k2 := 11) (L2 := [some (.ref 66), some (.int p0)]) (S2 := []) (σ2 := σ) 4 (fun n h => h) (fun hc3 => ?_) (fun hc3 => ?_)
      · rw [if_pos hc3] at h
        exact go_ret 2 (fun _ => And.intro (Or.inl rfl) h)
      · rw [if_neg hc3] at h
        exact go_ret 3 (fun _ => And.intro (Or.inr rfl) h)
def f_M_errs (p0 : Int32) (p1 : Int32) (σ : aSt) : aSt :=
  (if (f_M_good σ) = true then (s_i (s_i σ 66 18 p0) 66 19 p1) else σ)
set_option maxRecDepth 20000 in
set_option maxHeartbeats 4000000 in
theorem c_M_errs (d : Nat) (p0 : Int32) (p1 : Int32) (σ : aSt) {P : Option Value → aSt → Prop} (h : P none (f_M_errs p0 p1 σ)) : aCall MT (d + 2) 52 [.ref 66, .int p0, .int p1] σ P := by
  unfold f_M_errs at h
  refine call_of (code := mc_M_errs) (L := [some (.ref 66), some (.int p0), some (.int p1)]) rfl rfl rfl rfl ?_
  refine go_call (r := some (.int (b2i (f_M_good σ)))) (σc := σ) (σ1 := σ) (mi := 50) (vs := [.ref 66]) (k' := 2) (L' := [some (.ref 66), some (.int p0), some (.int p1)]) (S' := []) 2 (fun P9 h9 => c_M_good (d + 0) σ h9) (fun n h => h) ?_
  refine go_ifn (b := (f_M_good σ)) (k1 := 4) (L1 := [some (.ref 66), some (.int p0), some (.int p1)]) (S1 := []) (σ1 := σ) (k2 := 3) (L2 := [some (.ref 66), some (.int p0), some (.int p1)]) (S2 := []) (σ2 := σ) 1 (fun n h => h) (fun hc1 => ?_) (fun hc1 => ?_)
  · rw [if_pos hc1] at h
    exact go_ret 7 (fun _ => h)
  · rw [if_neg hc1] at h
    exact go_ret 1 (fun _ => h)
def f_M_number_b12 (N : Nat) (v1 : Int32) (v2 : Int32) (σ : aSt) : Option (Int32 × aSt) :=
  (if (f_M_good σ) = true then (if (f_M_in (σ.1 66 17).toInt64 v1.toInt64 v2.toInt64) = true then (if (f_M_good σ) = true then ((f_M_advance N σ).bind fun x6 => some ((σ.1 66 17), x6)) else some (v1, σ)) else (lt (f_M_errs (2 : Int32) (σ.1 66 15) σ) fun x7 => (if (f_M_good x7) = true then ((f_M_advance N x7).bind fun x9 => some ((x7.1 66 17), x9)) else some (v1, x7)))) else (if (f_M_good σ) = true then ((f_M_advance N σ).bind fun x11 => some ((σ.1 66 17), x11)) else some (v1, σ)))
set_option maxRecDepth 20000 in
set_option maxHeartbeats 4000000 in
theorem t_M_number_b12 (d : Nat) {N : Nat} (d3 : Option Value) (v1 : Int32) (v2 : Int32) (σ : aSt) {P : Option Value → aSt → Prop} {x : (Int32 × aSt)} (h : f_M_number_b12 N v1 v2 σ = some x) (hp : P (some (.int x.1)) x.2) : aGo (aCall MT (d + 2)) P mc_M_number 12 [some (.ref 66), some (.int v1), some (.int v2), d3] [] σ := by
  unfold f_M_number_b12 at h
  refine go_call (r := some (.int (b2i (f_M_good σ)))) (σc := σ) (σ1 := σ) (mi := 50) (vs := [.ref 66]) (k' := 14) (L' := [some (.ref 66), some (.int v1), some (.int v2), d3]) (S' := []) 2 (fun P9 h9 => c_M_good (d + 1) σ h9) (fun n h => h) ?_
  refine go_ifz (b := (f_M_good σ)) (k1 := 29) (L1 := [some (.ref 66), some (.int v1), some (.int v2), d3]) (S1 := []) (σ1 := σ) (k2 := 15) (L2 := [some (.ref 66), some (.int v1), some (.int v2), d3]) (S2 := []) (σ2 := σ) 1 (fun n h => h) (fun hc3 => ?_) (fun hc3 => ?_)
  · rw [if_neg hc3] at h
    refine go_call (r := some (.int (b2i (f_M_good σ)))) (σc := σ) (σ1 := σ) (mi := 50) (vs := [.ref 66]) (k' := 31) (L' := [some (.ref 66), some (.int v1), some (.int v2), d3]) (S' := []) 2 (fun P9 h9 => c_M_good (d + 1) σ h9) (fun n h => h) ?_
    refine go_ifn (b := (f_M_good σ)) (k1 := 34) (L1 := [some (.ref 66), some (.int v1), some (.int v2), d3]) (S1 := []) (σ1 := σ) (k2 := 32) (L2 := [some (.ref 66), some (.int v1), some (.int v2), d3]) (S2 := []) (σ2 := σ) 1 (fun n h => h) (fun hc10 => ?_) (fun hc10 => ?_)
    · rw [if_pos hc10] at h
      obtain ⟨x11, hx11, h⟩ := bind_of h
      refine go_call (r := none) (σc := σ) (σ1 := x11) (mi := 48) (vs := [.ref 66]) (k' := 39) (L' := [some (.ref 66), some (.int v1), none, some (.int (σ.1 66 17))]) (S' := []) 5 (fun P9 h9 => c_M_advance (d + 0) σ hx11 h9) (fun n h => h) ?_
      cases h
      exact go_ret 2 (fun _ => hp)
    · rw [if_neg hc10] at h
      cases h
      exact go_ret 2 (fun _ => hp)
  · rw [if_pos hc3] at h
    refine go_call (r := some (.int (b2i (f_M_in (σ.1 66 17).toInt64 v1.toInt64 v2.toInt64)))) (σc := σ) (σ1 := σ) (mi := 7) (vs := [.long (σ.1 66 17).toInt64, .long v1.toInt64, .long v2.toInt64]) (k' := 23) (L' := [some (.ref 66), some (.int v1), some (.int v2), d3]) (S' := []) 8 (fun P9 h9 => c_M_in (d + 1) (σ.1 66 17).toInt64 v1.toInt64 v2.toInt64 σ h9) (fun n h => h) ?_
    refine go_ifn (b := (f_M_in (σ.1 66 17).toInt64 v1.toInt64 v2.toInt64)) (k1 := 29) (L1 := [some (.ref 66), some (.int v1), some (.int v2), d3]) (S1 := []) (σ1 := σ) (k2 := 24) (L2 := [some (.ref 66), some (.int v1), some (.int v2), d3]) (S2 := []) (σ2 := σ) 1 (fun n h => h) (fun hc4 => ?_) (fun hc4 => ?_)
    · rw [if_pos hc4] at h
      refine go_call (r := some (.int (b2i (f_M_good σ)))) (σc := σ) (σ1 := σ) (mi := 50) (vs := [.ref 66]) (k' := 31) (L' := [some (.ref 66), some (.int v1), some (.int v2), d3]) (S' := []) 2 (fun P9 h9 => c_M_good (d + 1) σ h9) (fun n h => h) ?_
      refine go_ifn (b := (f_M_good σ)) (k1 := 34) (L1 := [some (.ref 66), some (.int v1), some (.int v2), d3]) (S1 := []) (σ1 := σ) (k2 := 32) (L2 := [some (.ref 66), some (.int v1), some (.int v2), d3]) (S2 := []) (σ2 := σ) 1 (fun n h => h) (fun hc5 => ?_) (fun hc5 => ?_)
      · rw [if_pos hc5] at h
        obtain ⟨x6, hx6, h⟩ := bind_of h
        refine go_call (r := none) (σc := σ) (σ1 := x6) (mi := 48) (vs := [.ref 66]) (k' := 39) (L' := [some (.ref 66), some (.int v1), none, some (.int (σ.1 66 17))]) (S' := []) 5 (fun P9 h9 => c_M_advance (d + 0) σ hx6 h9) (fun n h => h) ?_
        cases h
        exact go_ret 2 (fun _ => hp)
      · rw [if_neg hc5] at h
        cases h
        exact go_ret 2 (fun _ => hp)
    · rw [if_neg hc4] at h
      obtain ⟨x7, hx7, h⟩ := lt_of h
      refine go_call (r := none) (σc := σ) (σ1 := x7) (mi := 52) (vs := [.ref 66, .int (2 : Int32), .int (σ.1 66 15)]) (k' := 29) (L' := [some (.ref 66), some (.int v1), some (.int v2), d3]) (S' := []) 5 (fun P9 h9 => c_M_errs (d + 0) (2 : Int32) (σ.1 66 15) σ (by rw [← hx7]; exact h9)) (fun n h => h) ?_
      refine go_call (r := some (.int (b2i (f_M_good x7)))) (σc := x7) (σ1 := x7) (mi := 50) (vs := [.ref 66]) (k' := 31) (L' := [some (.ref 66), some (.int v1), some (.int v2), d3]) (S' := []) 2 (fun P9 h9 => c_M_good (d + 1) x7 h9) (fun n h => h) ?_
      refine go_ifn (b := (f_M_good x7)) (k1 := 34) (L1 := [some (.ref 66), some (.int v1), some (.int v2), d3]) (S1 := []) (σ1 := x7) (k2 := 32) (L2 := [some (.ref 66), some (.int v1), some (.int v2), d3]) (S2 := []) (σ2 := x7) 1 (fun n h => h) (fun hc8 => ?_) (fun hc8 => ?_)
      · rw [if_pos hc8] at h
        obtain ⟨x9, hx9, h⟩ := bind_of h
        refine go_call (r := none) (σc := x7) (σ1 := x9) (mi := 48) (vs := [.ref 66]) (k' := 39) (L' := [some (.ref 66), some (.int v1), none, some (.int (x7.1 66 17))]) (S' := []) 5 (fun P9 h9 => c_M_advance (d + 0) x7 hx9 h9) (fun n h => h) ?_
        cases h
        exact go_ret 2 (fun _ => hp)
      · rw [if_neg hc8] at h
        cases h
        exact go_ret 2 (fun _ => hp)
def f_M_number (N : Nat) (p0 : Int32) (p1 : Int32) (σ : aSt) : Option (Int32 × aSt) :=
  (if (f_M_good σ) = true then (if (σ.1 66 16) = (2 : Int32) then f_M_number_b12 N p0 p1 σ else (lt (f_M_errs (1 : Int32) (σ.1 66 15) σ) fun x12 => f_M_number_b12 N p0 p1 x12)) else f_M_number_b12 N p0 p1 σ)
set_option maxRecDepth 20000 in
set_option maxHeartbeats 4000000 in
theorem c_M_number (d : Nat) {N : Nat} (p0 : Int32) (p1 : Int32) (σ : aSt) {P : Option Value → aSt → Prop} {x : (Int32 × aSt)} (h : f_M_number N p0 p1 σ = some x) (hp : P (some (.int x.1)) x.2) : aCall MT (d + 3) 54 [.ref 66, .int p0, .int p1] σ P := by
  unfold f_M_number at h
  refine call_of (code := mc_M_number) (L := [some (.ref 66), some (.int p0), some (.int p1), none]) rfl rfl rfl rfl ?_
  refine go_call (r := some (.int (b2i (f_M_good σ)))) (σc := σ) (σ1 := σ) (mi := 50) (vs := [.ref 66]) (k' := 2) (L' := [some (.ref 66), some (.int p0), some (.int p1), none]) (S' := []) 2 (fun P9 h9 => c_M_good (d + 1) σ h9) (fun n h => h) ?_
  refine go_ifz (b := (f_M_good σ)) (k1 := 12) (L1 := [some (.ref 66), some (.int p0), some (.int p1), none]) (S1 := []) (σ1 := σ) (k2 := 3) (L2 := [some (.ref 66), some (.int p0), some (.int p1), none]) (S2 := []) (σ2 := σ) 1 (fun n h => h) (fun hc1 => ?_) (fun hc1 => ?_)
  · rw [if_neg hc1] at h
    exact t_M_number_b12 d _ p0 p1 σ h hp
  · rw [if_pos hc1] at h
    refine go_if (c := (σ.1 66 16) = (2 : Int32)) (k1 := 12) (L1 := [some (.ref 66), some (.int p0), some (.int p1), none]) (S1 := []) (σ1 := σ) (k2 := 7) (L2 := [some (.ref 66), some (.int p0), some (.int p1), none]) (S2 := []) (σ2 := σ) 4 (fun n h => h) (fun hc2 => ?_) (fun hc2 => ?_)
    · rw [if_pos hc2] at h
      exact t_M_number_b12 d _ p0 p1 σ h hp
    · rw [if_neg hc2] at h
      obtain ⟨x12, hx12, h⟩ := lt_of h
      refine go_call (r := none) (σc := σ) (σ1 := x12) (mi := 52) (vs := [.ref 66, .int (1 : Int32), .int (σ.1 66 15)]) (k' := 12) (L' := [some (.ref 66), some (.int p0), some (.int p1), none]) (S' := []) 5 (fun P9 h9 => c_M_errs (d + 0) (1 : Int32) (σ.1 66 15) σ (by rw [← hx12]; exact h9)) (fun n h => h) ?_
      exact t_M_number_b12 d _ p0 p1 x12 h hp
def f_M_signed_b8 (N : Nat) (v1 : Int32) (v2 : Bool) (σ : aSt) : Option (Int32 × aSt) :=
  ((f_M_number N (0 : Int32) v1 (s_i σ 66 20 (σ.1 66 15))).bind fun x3 => (if v2 = true then some ((-x3.1), x3.2) else some (x3.1, x3.2)))
set_option maxRecDepth 20000 in
set_option maxHeartbeats 4000000 in
theorem t_M_signed_b8 (d : Nat) {N : Nat} (d3 : Option Value) (v1 : Int32) (v2 : Bool) (σ : aSt) {P : Option Value → aSt → Prop} {x : (Int32 × aSt)} (h : f_M_signed_b8 N v1 v2 σ = some x) (hp : P (some (.int x.1)) x.2) : aGo (aCall MT (d + 3)) P mc_M_signed 8 [some (.ref 66), some (.int v1), some (.int (b2i v2)), d3] [] σ := by
  unfold f_M_signed_b8 at h
  obtain ⟨x3, hx3, h⟩ := bind_of h
  refine go_call (r := some (.int x3.1)) (σc := (s_i σ 66 20 (σ.1 66 15))) (σ1 := x3.2) (mi := 54) (vs := [.ref 66, .int (0 : Int32), .int v1]) (k' := 16) (L' := [some (.ref 66), some (.int v1), some (.int (b2i v2)), d3]) (S' := []) 8 (fun P9 h9 => c_M_number (d + 0) (0 : Int32) v1 (s_i σ 66 20 (σ.1 66 15)) hx3 h9) (fun n h => h) ?_
  refine go_ifz (b := v2) (k1 := 22) (L1 := [some (.ref 66), some (.int v1), some (.int (b2i v2)), some (.int x3.1)]) (S1 := []) (σ1 := x3.2) (k2 := 19) (L2 := [some (.ref 66), some (.int v1), some (.int (b2i v2)), some (.int x3.1)]) (S2 := []) (σ2 := x3.2) 3 (fun n h => h) (fun hc4 => ?_) (fun hc4 => ?_)
  · rw [if_neg hc4] at h
    cases h
    exact go_ret 2 (fun _ => hp)
  · rw [if_pos hc4] at h
    cases h
    exact go_ret 4 (fun _ => hp)
def f_M_signed (N : Nat) (p0 : Int32) (σ : aSt) : Option (Int32 × aSt) :=
  (if (f_M_isSign (45 : Int32) σ) = true then ((f_M_advance N σ).bind fun x2 => f_M_signed_b8 N p0 (f_M_isSign (45 : Int32) σ) x2) else f_M_signed_b8 N p0 (f_M_isSign (45 : Int32) σ) σ)
set_option maxRecDepth 20000 in
set_option maxHeartbeats 4000000 in
theorem c_M_signed (d : Nat) {N : Nat} (p0 : Int32) (σ : aSt) {P : Option Value → aSt → Prop} {x : (Int32 × aSt)} (h : f_M_signed N p0 σ = some x) (hp : P (some (.int x.1)) x.2) : aCall MT (d + 4) 55 [.ref 66, .int p0] σ P := by
  unfold f_M_signed at h
  refine call_of (code := mc_M_signed) (L := [some (.ref 66), some (.int p0), none, none]) rfl rfl rfl rfl ?_
  refine go_call (r := some (.int (b2i (f_M_isSign (45 : Int32) σ)))) (σc := σ) (σ1 := σ) (mi := 53) (vs := [.ref 66, .int (45 : Int32)]) (k' := 3) (L' := [some (.ref 66), some (.int p0), none, none]) (S' := []) 3 (fun P9 h9 => c_M_isSign (d + 1) (45 : Int32) σ h9) (fun n h => h) ?_
  refine go_ifz (b := (f_M_isSign (45 : Int32) σ)) (k1 := 8) (L1 := [some (.ref 66), some (.int p0), some (.int (b2i (f_M_isSign (45 : Int32) σ))), none]) (S1 := []) (σ1 := σ) (k2 := 6) (L2 := [some (.ref 66), some (.int p0), some (.int (b2i (f_M_isSign (45 : Int32) σ))), none]) (S2 := []) (σ2 := σ) 3 (fun n h => h) (fun hc1 => ?_) (fun hc1 => ?_)
  · rw [if_neg hc1] at h
    exact t_M_signed_b8 d _ p0 (f_M_isSign (45 : Int32) σ) σ h hp
  · rw [if_pos hc1] at h
    obtain ⟨x2, hx2, h⟩ := bind_of h
    refine go_call (r := none) (σc := σ) (σ1 := x2) (mi := 48) (vs := [.ref 66]) (k' := 8) (L' := [some (.ref 66), some (.int p0), some (.int (b2i (f_M_isSign (45 : Int32) σ))), none]) (S' := []) 2 (fun P9 h9 => c_M_advance (d + 1) σ hx2 h9) (fun n h => h) ?_
    exact t_M_signed_b8 d _ p0 (f_M_isSign (45 : Int32) σ) x2 h hp
def f_M_isCurve (p0 : Int64) (p1 : Int64) : Bool :=
  (if p1 = (0 : Int64) then false else (if (p0 * p0) = ((4 : Int64) * p1) then false else true))
set_option maxRecDepth 20000 in
set_option maxHeartbeats 4000000 in
theorem c_M_isCurve (d : Nat) (p0 : Int64) (p1 : Int64) (σ : aSt) {P : Option Value → aSt → Prop} (h : P (some (.int (b2i ((f_M_isCurve p0 p1))))) σ) : aCall MT (d + 1) 56 [.long p0, .long p1] σ P := by
  unfold f_M_isCurve at h
  refine call_of (code := mc_M_isCurve) (L := [some (.long p0), none, some (.long p1), none]) rfl rfl rfl rfl ?_
  refine go_iff (lcmp_eq p1 (0 : Int64)) (k1 := 14) (L1 := [some (.long p0), none, some (.long p1), none]) (S1 := []) (σ1 := σ) (k2 := 4) (L2 := [some (.long p0), none, some (.long p1), none]) (S2 := []) (σ2 := σ) 4 (fun n h => h) (fun hc1 => ?_) (fun hc1 => ?_)
  · rw [if_pos hc1] at h
    exact go_ret 2 (fun _ => And.intro (Or.inl rfl) h)
  · rw [if_neg hc1] at h
    refine go_iff (lcmp_eq (p0 * p0) ((4 : Int64) * p1)) (k1 := 14) (L1 := [some (.long p0), none, some (.long p1), none]) (S1 := []) (σ1 := σ) (k2 := 12) (L2 := [some (.long p0), none, some (.long p1), none]) (S2 := []) (σ2 := σ) 8 (fun n h => h) (fun hc2 => ?_) (fun hc2 => ?_)
    · rw [if_pos hc2] at h
      exact go_ret 2 (fun _ => And.intro (Or.inl rfl) h)
    · rw [if_neg hc2] at h
      exact go_ret 3 (fun _ => And.intro (Or.inr rfl) h)
def f_M_isWord_201_l21 (N : Nat) (σ : aSt) : Nat → Bool → Int32 → Option Bool
  | 0, _, _ => none
  | n + 1, v2, v3 => (if (6 : Int32) ≤ v3 then some v2 else (if v2 = true then (if 0 ≤ ((σ.1 66 15) + v3) ∧ ((σ.1 66 15) + v3) < (200 : Int32) then (if 0 ≤ v3 ∧ v3 < (6 : Int32) then (if (σ.1 70 ((σ.1 66 15) + v3).toNatClampNeg) ≠ (sch 201 v3) then f_M_isWord_201_l21 N σ n false (v3 + (1 : Int32)) else f_M_isWord_201_l21 N σ n true (v3 + (1 : Int32))) else none) else none) else some v2))
set_option maxRecDepth 20000 in
set_option maxHeartbeats 4000000 in
theorem t_M_isWord_201_l21 (d : Nat) {N : Nat} (σ : aSt) {x : Bool} {P : Option Value → aSt → Prop} (hp : P (some (.int (b2i x))) σ) : ∀ (n : Nat) (v2 : Bool) (v3 : Int32), f_M_isWord_201_l21 N σ n v2 v3 = some x → aGo (aCall MT (d + 1)) P mc_M_isWord 21 [some (.ref 66), some (.ref 201), some (.int (b2i v2)), some (.int v3)] [] σ := by
  intro n
  induction n with
  | zero => intro v2 v3 h; cases h
  | succ n ih =>
    intro v2 v3 h
    rw [f_M_isWord_201_l21] at h
    refine go_if (c := (6 : Int32) ≤ v3) (k1 := 44) (L1 := [some (.ref 66), some (.ref 201), some (.int (b2i v2)), some (.int v3)]) (S1 := []) (σ1 := σ) (k2 := 25) (L2 := [some (.ref 66), some (.ref 201), some (.int (b2i v2)), some (.int v3)]) (S2 := []) (σ2 := σ) 4 (fun n h => h) (fun hc3 => ?_) (fun hc3 => ?_)
    · rw [if_pos hc3] at h
      cases h
      exact go_ret 2 (fun _ => And.intro (b2i_01 _) hp)
    · rw [if_neg hc3] at h
      refine go_ifz (b := v2) (k1 := 44) (L1 := [some (.ref 66), some (.ref 201), some (.int (b2i v2)), some (.int v3)]) (S1 := []) (σ1 := σ) (k2 := 27) (L2 := [some (.ref 66), some (.ref 201), some (.int (b2i v2)), some (.int v3)]) (S2 := []) (σ2 := σ) 2 (fun n h => h) (fun hc4 => ?_) (fun hc4 => ?_)
      · rw [if_neg hc4] at h
        cases h
        exact go_ret 2 (fun _ => And.intro (b2i_01 _) hp)
      · rw [if_pos hc4] at h
        obtain ⟨hc5, h⟩ := ite_of h
        refine go_q (Q := inb 2 σ 70 ((σ.1 66 15) + v3)) (k' := 34) (L' := [some (.ref 66), some (.ref 201), some (.int (b2i v2)), some (.int v3)]) (S' := [.int (σ.1 70 ((σ.1 66 15) + v3).toNatClampNeg)]) (σ' := σ) 7 (inb_mk rfl hc5.1 hc5.2) (fun n h => h) ?_
        obtain ⟨hc6, h⟩ := ite_of h
        refine go_q (Q := 0 ≤ v3 ∧ v3 < slen 201) (k' := 37) (L' := [some (.ref 66), some (.ref 201), some (.int (b2i v2)), some (.int v3)]) (S' := [.int (sch 201 v3), .int (σ.1 70 ((σ.1 66 15) + v3).toNatClampNeg)]) (σ' := σ) 3 hc6 (fun n h => h) ?_
        refine go_if (c := (σ.1 70 ((σ.1 66 15) + v3).toNatClampNeg) ≠ (sch 201 v3)) (k1 := 40) (L1 := [some (.ref 66), some (.ref 201), some (.int (b2i v2)), some (.int v3)]) (S1 := []) (σ1 := σ) (k2 := 38) (L2 := [some (.ref 66), some (.ref 201), some (.int (b2i v2)), some (.int v3)]) (S2 := []) (σ2 := σ) 1 (fun n h => h) (fun hc7 => ?_) (fun hc7 => ?_)
        · rw [if_pos hc7] at h
          refine go_st (k' := 21) (L' := [some (.ref 66), some (.ref 201), some (.int (0 : Int32)), some (.int (v3 + (1 : Int32)))]) (S' := []) (σ' := σ) 4 (fun n h => h) ?_
          exact ih false (v3 + (1 : Int32)) h
        · rw [if_neg hc7] at h
          refine go_st (k' := 21) (L' := [some (.ref 66), some (.ref 201), some (.int (1 : Int32)), some (.int (v3 + (1 : Int32)))]) (S' := []) (σ' := σ) 5 (fun n h => h) ?_
          exact ih true (v3 + (1 : Int32)) h
def f_M_isWord_201_b18 (N : Nat) (s0 : Bool) (σ : aSt) : Option Bool :=
  f_M_isWord_201_l21 N σ N s0 (0 : Int32)
set_option maxRecDepth 20000 in
set_option maxHeartbeats 4000000 in
theorem t_M_isWord_201_b18 (d : Nat) {N : Nat} (d2 d3 : Option Value) (s0 : Bool) (σ : aSt) {P : Option Value → aSt → Prop} {x : Bool} (h : f_M_isWord_201_b18 N s0 σ = some x) (hp : P (some (.int (b2i x))) σ) : aGo (aCall MT (d + 1)) P mc_M_isWord 18 [some (.ref 66), some (.ref 201), d2, d3] [.int (b2i s0)] σ := by
  unfold f_M_isWord_201_b18 at h
  refine go_st (k' := 21) (L' := [some (.ref 66), some (.ref 201), some (.int (b2i s0)), some (.int (0 : Int32))]) (S' := []) (σ' := σ) 3 (fun n h => h) ?_
  exact t_M_isWord_201_l21 d σ hp N s0 (0 : Int32) h
def f_M_isWord_201_b17 (N : Nat) (σ : aSt) : Option Bool :=
  f_M_isWord_201_b18 N false σ
set_option maxRecDepth 20000 in
set_option maxHeartbeats 4000000 in
theorem t_M_isWord_201_b17 (d : Nat) {N : Nat} (d2 d3 : Option Value) (σ : aSt) {P : Option Value → aSt → Prop} {x : Bool} (h : f_M_isWord_201_b17 N σ = some x) (hp : P (some (.int (b2i x))) σ) : aGo (aCall MT (d + 1)) P mc_M_isWord 17 [some (.ref 66), some (.ref 201), d2, d3] [] σ := by
  unfold f_M_isWord_201_b17 at h
  refine go_st (k' := 18) (L' := [some (.ref 66), some (.ref 201), d2, d3]) (S' := [.int (0 : Int32)]) (σ' := σ) 1 (fun n h => h) ?_
  exact t_M_isWord_201_b18 d _ _ false σ h hp
def f_M_isWord_201 (N : Nat) (σ : aSt) : Option Bool :=
  (if (f_M_good σ) = true then (if (σ.1 66 16) ≠ (1 : Int32) then f_M_isWord_201_b17 N σ else (if ((σ.1 66 14) - (σ.1 66 15)) ≠ (6 : Int32) then f_M_isWord_201_b17 N σ else f_M_isWord_201_b18 N true σ)) else f_M_isWord_201_b17 N σ)
set_option maxRecDepth 20000 in
set_option maxHeartbeats 4000000 in
theorem c_M_isWord_201 (d : Nat) {N : Nat} (σ : aSt) {P : Option Value → aSt → Prop} {x : Bool} (h : f_M_isWord_201 N σ = some x) (hp : P (some (.int (b2i x))) σ) : aCall MT (d + 2) 51 [.ref 66, .ref 201] σ P := by
  unfold f_M_isWord_201 at h
  refine call_of (code := mc_M_isWord) (L := [some (.ref 66), some (.ref 201), none, none]) rfl rfl rfl rfl ?_
  refine go_call (r := some (.int (b2i (f_M_good σ)))) (σc := σ) (σ1 := σ) (mi := 50) (vs := [.ref 66]) (k' := 2) (L' := [some (.ref 66), some (.ref 201), none, none]) (S' := []) 2 (fun P9 h9 => c_M_good (d + 0) σ h9) (fun n h => h) ?_
  refine go_ifz (b := (f_M_good σ)) (k1 := 17) (L1 := [some (.ref 66), some (.ref 201), none, none]) (S1 := []) (σ1 := σ) (k2 := 3) (L2 := [some (.ref 66), some (.ref 201), none, none]) (S2 := []) (σ2 := σ) 1 (fun n h => h) (fun hc1 => ?_) (fun hc1 => ?_)
  · rw [if_neg hc1] at h
    exact t_M_isWord_201_b17 d _ _ σ h hp
  · rw [if_pos hc1] at h
    refine go_if (c := (σ.1 66 16) ≠ (1 : Int32)) (k1 := 17) (L1 := [some (.ref 66), some (.ref 201), none, none]) (S1 := []) (σ1 := σ) (k2 := 7) (L2 := [some (.ref 66), some (.ref 201), none, none]) (S2 := []) (σ2 := σ) 4 (fun n h => h) (fun hc2 => ?_) (fun hc2 => ?_)
    · rw [if_pos hc2] at h
      exact t_M_isWord_201_b17 d _ _ σ h hp
    · rw [if_neg hc2] at h
      refine go_if (c := ((σ.1 66 14) - (σ.1 66 15)) ≠ (6 : Int32)) (k1 := 17) (L1 := [some (.ref 66), some (.ref 201), none, none]) (S1 := []) (σ1 := σ) (k2 := 15) (L2 := [some (.ref 66), some (.ref 201), none, none]) (S2 := []) (σ2 := σ) 8 (fun n h => h) (fun hc8 => ?_) (fun hc8 => ?_)
      · rw [if_pos hc8] at h
        exact t_M_isWord_201_b17 d _ _ σ h hp
      · rw [if_neg hc8] at h
        refine go_st (k' := 18) (L' := [some (.ref 66), some (.ref 201), none, none]) (S' := [.int (1 : Int32)]) (σ' := σ) 2 (fun n h => h) ?_
        exact t_M_isWord_201_b18 d _ _ true σ h hp
def f_M_common_l6 (N : Nat) : Nat → Int64 → Int64 → Option Int64
  | 0, _, _ => none
  | n + 1, v4, v6 => (if v6 = (0 : Int64) then some v4 else f_M_common_l6 N n v6 (lrem v4 v6))
set_option maxRecDepth 20000 in
set_option maxHeartbeats 4000000 in
theorem t_M_common_l6 (d : Nat) {N : Nat} (σ : aSt) {x : Int64} {P : Option Value → aSt → Prop} (hp : P (some (.long x)) σ) : ∀ (n : Nat) (d0 d1 d2 d3 d8 d9 : Option Value) (v4 : Int64) (v6 : Int64), f_M_common_l6 N n v4 v6 = some x → aGo (aCall MT (d + 0)) P mc_M_common 6 [d0, d1, d2, d3, some (.long v4), none, some (.long v6), none, d8, d9] [] σ := by
  intro n
  induction n with
  | zero => intro d0 d1 d2 d3 d8 d9 v4 v6 h; cases h
  | succ n ih =>
    intro d0 d1 d2 d3 d8 d9 v4 v6 h
    rw [f_M_common_l6] at h
    refine go_iff (lcmp_eq v6 (0 : Int64)) (k1 := 19) (L1 := [d0, d1, d2, d3, some (.long v4), none, some (.long v6), none, d8, d9]) (S1 := []) (σ1 := σ) (k2 := 10) (L2 := [d0, d1, d2, d3, some (.long v4), none, some (.long v6), none, d8, d9]) (S2 := []) (σ2 := σ) 4 (fun n h => h) (fun hc1 => ?_) (fun hc1 => ?_)
    · rw [if_pos hc1] at h
      cases h
      exact go_ret 2 (fun _ => hp)
    · rw [if_neg hc1] at h
      refine go_q (Q := ¬ v6 = 0) (k' := 13) (L' := [d0, d1, d2, d3, some (.long v4), none, some (.long v6), none, d8, d9]) (S' := [.long (lrem v4 v6)]) (σ' := σ) 3 (hc1) (fun n h => h) ?_
      refine go_st (k' := 6) (L' := [d0, d1, d2, none, some (.long v6), none, some (.long (lrem v4 v6)), none, some (.long (lrem v4 v6)), none]) (S' := []) (σ' := σ) 6 (fun n h => h) ?_
      exact ih _ _ _ _ _ _ v6 (lrem v4 v6) h
def f_M_common (N : Nat) (p0 : Int64) (p1 : Int64) : Option Int64 :=
  f_M_common_l6 N N (labs p0) (labs p1)
set_option maxRecDepth 20000 in
set_option maxHeartbeats 4000000 in
theorem c_M_common (d : Nat) {N : Nat} (p0 : Int64) (p1 : Int64) (σ : aSt) {P : Option Value → aSt → Prop} {x : Int64} (h : f_M_common N p0 p1 = some x) (hp : P (some (.long x)) σ) : aCall MT (d + 1) 57 [.long p0, .long p1] σ P := by
  unfold f_M_common at h
  refine call_of (code := mc_M_common) (L := [some (.long p0), none, some (.long p1), none, none, none, none, none, none, none]) rfl rfl rfl rfl ?_
  refine go_st (k' := 6) (L' := [some (.long p0), none, some (.long p1), none, some (.long (labs p0)), none, some (.long (labs p1)), none, none, none]) (S' := []) (σ' := σ) 6 (fun n h => h) ?_
  exact t_M_common_l6 d σ hp N _ _ _ _ _ _ (labs p0) (labs p1) h
def f_M_root_l4 (N : Nat) : Nat → Int64 → Int64 → Int64 → Option Int64
  | 0, _, _, _ => none
  | n + 1, v0, v2, v4 => (if v4 ≤ v2 then some v2 else (if v0 < ((((v2 + v4) + (1 : Int64)) / (2 : Int64)) * (((v2 + v4) + (1 : Int64)) / (2 : Int64))) then f_M_root_l4 N n v0 v2 ((((v2 + v4) + (1 : Int64)) / (2 : Int64)) - (1 : Int64)) else f_M_root_l4 N n v0 (((v2 + v4) + (1 : Int64)) / (2 : Int64)) v4))
set_option maxRecDepth 20000 in
set_option maxHeartbeats 4000000 in
theorem t_M_root_l4 (d : Nat) {N : Nat} (σ : aSt) {x : Int64} {P : Option Value → aSt → Prop} (hp : P (some (.long x)) σ) : ∀ (n : Nat) (d6 d7 : Option Value) (v0 : Int64) (v2 : Int64) (v4 : Int64), f_M_root_l4 N n v0 v2 v4 = some x → aGo (aCall MT (d + 0)) P mc_M_root 4 [some (.long v0), none, some (.long v2), none, some (.long v4), none, d6, d7] [] σ := by
  intro n
  induction n with
  | zero => intro d6 d7 v0 v2 v4 h; cases h
  | succ n ih =>
    intro d6 d7 v0 v2 v4 h
    rw [f_M_root_l4] at h
    refine go_iff (lcmp_ge v2 v4) (k1 := 30) (L1 := [some (.long v0), none, some (.long v2), none, some (.long v4), none, d6, d7]) (S1 := []) (σ1 := σ) (k2 := 8) (L2 := [some (.long v0), none, some (.long v2), none, some (.long v4), none, d6, d7]) (S2 := []) (σ2 := σ) 4 (fun n h => h) (fun hc1 => ?_) (fun hc1 => ?_)
    · rw [if_pos hc1] at h
      cases h
      exact go_ret 2 (fun _ => hp)
    · rw [if_neg hc1] at h
      refine go_q (Q := ¬ (2 : Int64) = 0) (k' := 15) (L' := [some (.long v0), none, some (.long v2), none, some (.long v4), none, d6, d7]) (S' := [.long (((v2 + v4) + (1 : Int64)) / (2 : Int64))]) (σ' := σ) 7 (by decide) (fun n h => h) ?_
      refine go_iff (lcmp_gt ((((v2 + v4) + (1 : Int64)) / (2 : Int64)) * (((v2 + v4) + (1 : Int64)) / (2 : Int64))) v0) (k1 := 25) (L1 := [some (.long v0), none, some (.long v2), none, some (.long v4), none, some (.long (((v2 + v4) + (1 : Int64)) / (2 : Int64))), none]) (S1 := []) (σ1 := σ) (k2 := 22) (L2 := [some (.long v0), none, some (.long v2), none, some (.long v4), none, some (.long (((v2 + v4) + (1 : Int64)) / (2 : Int64))), none]) (S2 := []) (σ2 := σ) 7 (fun n h => h) (fun hc2 => ?_) (fun hc2 => ?_)
      · rw [if_pos hc2] at h
        refine go_st (k' := 4) (L' := [some (.long v0), none, some (.long v2), none, some (.long ((((v2 + v4) + (1 : Int64)) / (2 : Int64)) - (1 : Int64))), none, some (.long (((v2 + v4) + (1 : Int64)) / (2 : Int64))), none]) (S' := []) (σ' := σ) 5 (fun n h => h) ?_
        exact ih _ _ v0 v2 ((((v2 + v4) + (1 : Int64)) / (2 : Int64)) - (1 : Int64)) h
      · rw [if_neg hc2] at h
        refine go_st (k' := 4) (L' := [some (.long v0), none, some (.long (((v2 + v4) + (1 : Int64)) / (2 : Int64))), none, some (.long v4), none, some (.long (((v2 + v4) + (1 : Int64)) / (2 : Int64))), none]) (S' := []) (σ' := σ) 4 (fun n h => h) ?_
        exact ih _ _ v0 (((v2 + v4) + (1 : Int64)) / (2 : Int64)) v4 h
def f_M_root (N : Nat) (p0 : Int64) : Option Int64 :=
  f_M_root_l4 N N p0 (0 : Int64) (3037000499 : Int64)
set_option maxRecDepth 20000 in
set_option maxHeartbeats 4000000 in
theorem c_M_root (d : Nat) {N : Nat} (p0 : Int64) (σ : aSt) {P : Option Value → aSt → Prop} {x : Int64} (h : f_M_root N p0 = some x) (hp : P (some (.long x)) σ) : aCall MT (d + 1) 58 [.long p0] σ P := by
  unfold f_M_root at h
  refine call_of (code := mc_M_root) (L := [some (.long p0), none, none, none, none, none, none, none]) rfl rfl rfl rfl ?_
  refine go_st (k' := 4) (L' := [some (.long p0), none, some (.long (0 : Int64)), none, some (.long (3037000499 : Int64)), none, none, none]) (S' := []) (σ' := σ) 4 (fun n h => h) ?_
  exact t_M_root_l4 d σ hp N _ _ p0 (0 : Int64) (3037000499 : Int64) h
def f_M_isSquare (N : Nat) (p0 : Int64) : Option Bool :=
  (if p0 < (0 : Int64) then some false else ((f_M_root N p0).bind fun x2 => ((f_M_root N p0).bind fun x3 => (if (x2 * x3) ≠ p0 then some false else some true))))
set_option maxRecDepth 20000 in
set_option maxHeartbeats 4000000 in
theorem c_M_isSquare (d : Nat) {N : Nat} (p0 : Int64) (σ : aSt) {P : Option Value → aSt → Prop} {x : Bool} (h : f_M_isSquare N p0 = some x) (hp : P (some (.int (b2i x))) σ) : aCall MT (d + 2) 59 [.long p0] σ P := by
  unfold f_M_isSquare at h
  refine call_of (code := mc_M_isSquare) (L := [some (.long p0), none]) rfl rfl rfl rfl ?_
  refine go_iff (lcmp_lt p0 (0 : Int64)) (k1 := 14) (L1 := [some (.long p0), none]) (S1 := []) (σ1 := σ) (k2 := 4) (L2 := [some (.long p0), none]) (S2 := []) (σ2 := σ) 4 (fun n h => h) (fun hc1 => ?_) (fun hc1 => ?_)
  · rw [if_pos hc1] at h
    cases h
    exact go_ret 2 (fun _ => And.intro (Or.inl rfl) hp)
  · rw [if_neg hc1] at h
    obtain ⟨x2, hx2, h⟩ := bind_of h
    refine go_call (r := some (.long x2)) (σc := σ) (σ1 := σ) (mi := 58) (vs := [.long p0]) (k' := 6) (L' := [some (.long p0), none]) (S' := []) 2 (fun P9 h9 => c_M_root (d + 0) p0 σ hx2 h9) (fun n h => h) ?_
    obtain ⟨x3, hx3, h⟩ := bind_of h
    refine go_call (r := some (.long x3)) (σc := σ) (σ1 := σ) (mi := 58) (vs := [.long p0]) (k' := 8) (L' := [some (.long p0), none]) (S' := [.long x2]) 2 (fun P9 h9 => c_M_root (d + 0) p0 σ hx3 h9) (fun n h => h) ?_
    refine go_iff (lcmp_ne (x2 * x3) p0) (k1 := 14) (L1 := [some (.long p0), none]) (S1 := []) (σ1 := σ) (k2 := 12) (L2 := [some (.long p0), none]) (S2 := []) (σ2 := σ) 4 (fun n h => h) (fun hc4 => ?_) (fun hc4 => ?_)
    · rw [if_pos hc4] at h
      cases h
      exact go_ret 2 (fun _ => And.intro (Or.inl rfl) hp)
    · rw [if_neg hc4] at h
      cases h
      exact go_ret 3 (fun _ => And.intro (Or.inr rfl) hp)
def f_M_adds (N : Nat) (p0 : Int32) (p1 : Int64) (p2 : Int32) (σ : aSt) : Option aSt :=
  (if (σ.1 66 9) ≠ (120 : Int32) then (if 0 ≤ (σ.1 66 9) ∧ (σ.1 66 9) < (120 : Int32) then some (s_i (s_i (s_l (s_i σ 67 (σ.1 66 9).toNatClampNeg p0) 68 (σ.1 66 9).toNatClampNeg p1) 69 (σ.1 66 9).toNatClampNeg p2) 66 9 ((σ.1 66 9) + (1 : Int32))) else none) else some σ)
set_option maxRecDepth 20000 in
set_option maxHeartbeats 4000000 in
theorem c_M_adds (d : Nat) {N : Nat} (p0 : Int32) (p1 : Int64) (p2 : Int32) (σ : aSt) {P : Option Value → aSt → Prop} {x : aSt} (h : f_M_adds N p0 p1 p2 σ = some x) (hp : P none x) : aCall MT (d + 1) 60 [.ref 66, .int p0, .long p1, .int p2] σ P := by
  unfold f_M_adds at h
  refine call_of (code := mc_M_adds) (L := [some (.ref 66), some (.int p0), some (.long p1), none, some (.int p2)]) rfl rfl rfl rfl ?_
  refine go_if (c := (σ.1 66 9) ≠ (120 : Int32)) (k1 := 5) (L1 := [some (.ref 66), some (.int p0), some (.long p1), none, some (.int p2)]) (S1 := []) (σ1 := σ) (k2 := 4) (L2 := [some (.ref 66), some (.int p0), some (.long p1), none, some (.int p2)]) (S2 := []) (σ2 := σ) 4 (fun n h => h) (fun hc1 => ?_) (fun hc1 => ?_)
  · rw [if_pos hc1] at h
    obtain ⟨hc2, h⟩ := ite_of h
    refine go_q (Q := inb 0 σ 67 (σ.1 66 9)) (k' := 11) (L' := [some (.ref 66), some (.int p0), some (.long p1), none, some (.int p2)]) (S' := []) (σ' := (s_i σ 67 (σ.1 66 9).toNatClampNeg p0)) 6 (inb_mk rfl hc2.1 hc2.2) (fun n h => h) ?_
    refine go_q (Q := inb 1 (s_i σ 67 (σ.1 66 9).toNatClampNeg p0) 68 (σ.1 66 9)) (k' := 17) (L' := [some (.ref 66), some (.int p0), some (.long p1), none, some (.int p2)]) (S' := []) (σ' := (s_l (s_i σ 67 (σ.1 66 9).toNatClampNeg p0) 68 (σ.1 66 9).toNatClampNeg p1)) 6 (inb_mk rfl hc2.1 hc2.2) (fun n h => h) ?_
    refine go_q (Q := inb 0 (s_l (s_i σ 67 (σ.1 66 9).toNatClampNeg p0) 68 (σ.1 66 9).toNatClampNeg p1) 69 (σ.1 66 9)) (k' := 23) (L' := [some (.ref 66), some (.int p0), some (.long p1), none, some (.int p2)]) (S' := []) (σ' := (s_i (s_l (s_i σ 67 (σ.1 66 9).toNatClampNeg p0) 68 (σ.1 66 9).toNatClampNeg p1) 69 (σ.1 66 9).toNatClampNeg p2)) 6 (inb_mk rfl hc2.1 hc2.2) (fun n h => h) ?_
    cases h
    exact go_ret 7 (fun _ => hp)
  · rw [if_neg hc1] at h
    cases h
    exact go_ret 1 (fun _ => hp)
def f_M_lays_l13 (N : Nat) (k87 : Int32 → aSt → Option aSt) : Nat → Int32 → Int32 → aSt → Option aSt
  | 0, _, _, _ => none
  | n + 1, v1, v2, σ => (if (σ.1 66 4) < v2 then k87 v1 σ else ((f_M_common N v2.toInt64 v1.toInt64).bind fun x3 => (if x3 = (1 : Int64) then ((f_M_isSquare N ((((v2.toInt64 * v2.toInt64) * v2.toInt64) + ((((σ.1 66 2).toInt64 * (v1 * v1).toInt64) * v2.toInt64) * v2.toInt64)) + ((((σ.1 66 3).toInt64 * (v1 * v1).toInt64) * (v1 * v1).toInt64) * v2.toInt64))).bind fun x5 => (if x5 = true then ((f_M_root N ((((v2.toInt64 * v2.toInt64) * v2.toInt64) + ((((σ.1 66 2).toInt64 * (v1 * v1).toInt64) * v2.toInt64) * v2.toInt64)) + ((((σ.1 66 3).toInt64 * (v1 * v1).toInt64) * (v1 * v1).toInt64) * v2.toInt64))).bind fun x7 => (if x7 ≤ (0 : Int64) then ((f_M_adds N v2 x7 v1 σ).bind fun x9 => f_M_lays_l13 N k87 n v1 (v2 + (1 : Int32)) x9) else ((f_M_adds N v2 (-x7) v1 σ).bind fun x10 => ((f_M_adds N v2 x7 v1 x10).bind fun x11 => f_M_lays_l13 N k87 n v1 (v2 + (1 : Int32)) x11)))) else f_M_lays_l13 N k87 n v1 (v2 + (1 : Int32)) σ)) else f_M_lays_l13 N k87 n v1 (v2 + (1 : Int32)) σ)))
set_option maxRecDepth 20000 in
set_option maxHeartbeats 4000000 in
theorem t_M_lays_l13 (d : Nat) {N : Nat} (k87 : Int32 → aSt → Option aSt) {x : aSt} {P : Option Value → aSt → Prop} (hp : P none x) (hk87 : ∀ (d2 d3 d4 d5 d6 d7 d8 : Option Value) (v1 : Int32) (σ : aSt), k87 v1 σ = some x → aGo (aCall MT (d + 2)) P mc_M_lays 87 [some (.ref 66), some (.int v1), d2, d3, d4, d5, d6, d7, d8] [] σ) : ∀ (n : Nat) (d3 d4 d5 d6 d7 d8 : Option Value) (v1 : Int32) (v2 : Int32) (σ : aSt), f_M_lays_l13 N k87 n v1 v2 σ = some x → aGo (aCall MT (d + 2)) P mc_M_lays 13 [some (.ref 66), some (.int v1), some (.int v2), d3, d4, d5, d6, d7, d8] [] σ := by
  intro n
  induction n with
  | zero => intro d3 d4 d5 d6 d7 d8 v1 v2 σ h; cases h
  | succ n ih =>
    intro d3 d4 d5 d6 d7 d8 v1 v2 σ h
    rw [f_M_lays_l13] at h
    refine go_if (c := (σ.1 66 4) < v2) (k1 := 87) (L1 := [some (.ref 66), some (.int v1), some (.int v2), d3, d4, d5, d6, d7, d8]) (S1 := []) (σ1 := σ) (k2 := 17) (L2 := [some (.ref 66), some (.int v1), some (.int v2), d3, d4, d5, d6, d7, d8]) (S2 := []) (σ2 := σ) 4 (fun n h => h) (fun hc2 => ?_) (fun hc2 => ?_)
    · rw [if_pos hc2] at h
      exact hk87 _ _ _ _ _ _ _ v1 σ h
    · rw [if_neg hc2] at h
      obtain ⟨x3, hx3, h⟩ := bind_of h
      refine go_call (r := some (.long x3)) (σc := σ) (σ1 := σ) (mi := 57) (vs := [.long v2.toInt64, .long v1.toInt64]) (k' := 22) (L' := [some (.ref 66), some (.int v1), some (.int v2), d3, d4, d5, d6, d7, d8]) (S' := []) 5 (fun P9 h9 => c_M_common (d + 1) v2.toInt64 v1.toInt64 σ hx3 h9) (fun n h => h) ?_
      refine go_iff (lcmp_eq x3 (1 : Int64)) (k1 := 26) (L1 := [some (.ref 66), some (.int v1), some (.int v2), d3, d4, d5, d6, d7, d8]) (S1 := []) (σ1 := σ) (k2 := 25) (L2 := [some (.ref 66), some (.int v1), some (.int v2), d3, d4, d5, d6, d7, d8]) (S2 := []) (σ2 := σ) 3 (fun n h => h) (fun hc4 => ?_) (fun hc4 => ?_)
      · rw [if_pos hc4] at h
        obtain ⟨x5, hx5, h⟩ := bind_of h
        refine go_call (r := some (.int (b2i x5))) (σc := σ) (σ1 := σ) (mi := 59) (vs := [.long ((((v2.toInt64 * v2.toInt64) * v2.toInt64) + ((((σ.1 66 2).toInt64 * (v1 * v1).toInt64) * v2.toInt64) * v2.toInt64)) + ((((σ.1 66 3).toInt64 * (v1 * v1).toInt64) * (v1 * v1).toInt64) * v2.toInt64))]) (k' := 65) (L' := [some (.ref 66), some (.int v1), some (.int v2), some (.long (v1 * v1).toInt64), none, some (.long ((((v2.toInt64 * v2.toInt64) * v2.toInt64) + ((((σ.1 66 2).toInt64 * (v1 * v1).toInt64) * v2.toInt64) * v2.toInt64)) + ((((σ.1 66 3).toInt64 * (v1 * v1).toInt64) * (v1 * v1).toInt64) * v2.toInt64))), none, d7, d8]) (S' := []) 39 (fun P9 h9 => c_M_isSquare (d + 0) ((((v2.toInt64 * v2.toInt64) * v2.toInt64) + ((((σ.1 66 2).toInt64 * (v1 * v1).toInt64) * v2.toInt64) * v2.toInt64)) + ((((σ.1 66 3).toInt64 * (v1 * v1).toInt64) * (v1 * v1).toInt64) * v2.toInt64)) σ hx5 h9) (fun n h => h) ?_
        refine go_ifn (b := x5) (k1 := 67) (L1 := [some (.ref 66), some (.int v1), some (.int v2), some (.long (v1 * v1).toInt64), none, some (.long ((((v2.toInt64 * v2.toInt64) * v2.toInt64) + ((((σ.1 66 2).toInt64 * (v1 * v1).toInt64) * v2.toInt64) * v2.toInt64)) + ((((σ.1 66 3).toInt64 * (v1 * v1).toInt64) * (v1 * v1).toInt64) * v2.toInt64))), none, d7, d8]) (S1 := []) (σ1 := σ) (k2 := 66) (L2 := [some (.ref 66), some (.int v1), some (.int v2), some (.long (v1 * v1).toInt64), none, some (.long ((((v2.toInt64 * v2.toInt64) * v2.toInt64) + ((((σ.1 66 2).toInt64 * (v1 * v1).toInt64) * v2.toInt64) * v2.toInt64)) + ((((σ.1 66 3).toInt64 * (v1 * v1).toInt64) * (v1 * v1).toInt64) * v2.toInt64))), none, d7, d8]) (S2 := []) (σ2 := σ) 1 (fun n h => h) (fun hc6 => ?_) (fun hc6 => ?_)
        · rw [if_pos hc6] at h
          obtain ⟨x7, hx7, h⟩ := bind_of h
          refine go_call (r := some (.long x7)) (σc := σ) (σ1 := σ) (mi := 58) (vs := [.long ((((v2.toInt64 * v2.toInt64) * v2.toInt64) + ((((σ.1 66 2).toInt64 * (v1 * v1).toInt64) * v2.toInt64) * v2.toInt64)) + ((((σ.1 66 3).toInt64 * (v1 * v1).toInt64) * (v1 * v1).toInt64) * v2.toInt64))]) (k' := 69) (L' := [some (.ref 66), some (.int v1), some (.int v2), some (.long (v1 * v1).toInt64), none, some (.long ((((v2.toInt64 * v2.toInt64) * v2.toInt64) + ((((σ.1 66 2).toInt64 * (v1 * v1).toInt64) * v2.toInt64) * v2.toInt64)) + ((((σ.1 66 3).toInt64 * (v1 * v1).toInt64) * (v1 * v1).toInt64) * v2.toInt64))), none, d7, d8]) (S' := []) 2 (fun P9 h9 => c_M_root (d + 1) ((((v2.toInt64 * v2.toInt64) * v2.toInt64) + ((((σ.1 66 2).toInt64 * (v1 * v1).toInt64) * v2.toInt64) * v2.toInt64)) + ((((σ.1 66 3).toInt64 * (v1 * v1).toInt64) * (v1 * v1).toInt64) * v2.toInt64)) σ hx7 h9) (fun n h => h) ?_
          refine go_iff (lcmp_le x7 (0 : Int64)) (k1 := 80) (L1 := [some (.ref 66), some (.int v1), some (.int v2), some (.long (v1 * v1).toInt64), none, some (.long ((((v2.toInt64 * v2.toInt64) * v2.toInt64) + ((((σ.1 66 2).toInt64 * (v1 * v1).toInt64) * v2.toInt64) * v2.toInt64)) + ((((σ.1 66 3).toInt64 * (v1 * v1).toInt64) * (v1 * v1).toInt64) * v2.toInt64))), none, some (.long x7), none]) (S1 := []) (σ1 := σ) (k2 := 74) (L2 := [some (.ref 66), some (.int v1), some (.int v2), some (.long (v1 * v1).toInt64), none, some (.long ((((v2.toInt64 * v2.toInt64) * v2.toInt64) + ((((σ.1 66 2).toInt64 * (v1 * v1).toInt64) * v2.toInt64) * v2.toInt64)) + ((((σ.1 66 3).toInt64 * (v1 * v1).toInt64) * (v1 * v1).toInt64) * v2.toInt64))), none, some (.long x7), none]) (S2 := []) (σ2 := σ) 5 (fun n h => h) (fun hc8 => ?_) (fun hc8 => ?_)
          · rw [if_pos hc8] at h
            obtain ⟨x9, hx9, h⟩ := bind_of h
            refine go_call (r := none) (σc := σ) (σ1 := x9) (mi := 60) (vs := [.ref 66, .int v2, .long x7, .int v1]) (k' := 85) (L' := [some (.ref 66), some (.int v1), some (.int v2), some (.long (v1 * v1).toInt64), none, some (.long ((((v2.toInt64 * v2.toInt64) * v2.toInt64) + ((((σ.1 66 2).toInt64 * (v1 * v1).toInt64) * v2.toInt64) * v2.toInt64)) + ((((σ.1 66 3).toInt64 * (v1 * v1).toInt64) * (v1 * v1).toInt64) * v2.toInt64))), none, some (.long x7), none]) (S' := []) 5 (fun P9 h9 => c_M_adds (d + 1) v2 x7 v1 σ hx9 h9) (fun n h => h) ?_
            refine go_st (k' := 13) (L' := [some (.ref 66), some (.int v1), some (.int (v2 + (1 : Int32))), some (.long (v1 * v1).toInt64), none, some (.long ((((v2.toInt64 * v2.toInt64) * v2.toInt64) + ((((σ.1 66 2).toInt64 * (v1 * v1).toInt64) * v2.toInt64) * v2.toInt64)) + ((((σ.1 66 3).toInt64 * (v1 * v1).toInt64) * (v1 * v1).toInt64) * v2.toInt64))), none, some (.long x7), none]) (S' := []) (σ' := x9) 2 (fun n h => h) ?_
            exact ih _ _ _ _ _ _ v1 (v2 + (1 : Int32)) x9 h
          · rw [if_neg hc8] at h
            obtain ⟨x10, hx10, h⟩ := bind_of h
            refine go_call (r := none) (σc := σ) (σ1 := x10) (mi := 60) (vs := [.ref 66, .int v2, .long (-x7), .int v1]) (k' := 80) (L' := [some (.ref 66), some (.int v1), some (.int v2), some (.long (v1 * v1).toInt64), none, some (.long ((((v2.toInt64 * v2.toInt64) * v2.toInt64) + ((((σ.1 66 2).toInt64 * (v1 * v1).toInt64) * v2.toInt64) * v2.toInt64)) + ((((σ.1 66 3).toInt64 * (v1 * v1).toInt64) * (v1 * v1).toInt64) * v2.toInt64))), none, some (.long x7), none]) (S' := []) 6 (fun P9 h9 => c_M_adds (d + 1) v2 (-x7) v1 σ hx10 h9) (fun n h => h) ?_
            obtain ⟨x11, hx11, h⟩ := bind_of h
            refine go_call (r := none) (σc := x10) (σ1 := x11) (mi := 60) (vs := [.ref 66, .int v2, .long x7, .int v1]) (k' := 85) (L' := [some (.ref 66), some (.int v1), some (.int v2), some (.long (v1 * v1).toInt64), none, some (.long ((((v2.toInt64 * v2.toInt64) * v2.toInt64) + ((((σ.1 66 2).toInt64 * (v1 * v1).toInt64) * v2.toInt64) * v2.toInt64)) + ((((σ.1 66 3).toInt64 * (v1 * v1).toInt64) * (v1 * v1).toInt64) * v2.toInt64))), none, some (.long x7), none]) (S' := []) 5 (fun P9 h9 => c_M_adds (d + 1) v2 x7 v1 x10 hx11 h9) (fun n h => h) ?_
            refine go_st (k' := 13) (L' := [some (.ref 66), some (.int v1), some (.int (v2 + (1 : Int32))), some (.long (v1 * v1).toInt64), none, some (.long ((((v2.toInt64 * v2.toInt64) * v2.toInt64) + ((((σ.1 66 2).toInt64 * (v1 * v1).toInt64) * v2.toInt64) * v2.toInt64)) + ((((σ.1 66 3).toInt64 * (v1 * v1).toInt64) * (v1 * v1).toInt64) * v2.toInt64))), none, some (.long x7), none]) (S' := []) (σ' := x11) 2 (fun n h => h) ?_
            exact ih _ _ _ _ _ _ v1 (v2 + (1 : Int32)) x11 h
        · rw [if_neg hc6] at h
          refine go_st (k' := 13) (L' := [some (.ref 66), some (.int v1), some (.int (v2 + (1 : Int32))), some (.long (v1 * v1).toInt64), none, some (.long ((((v2.toInt64 * v2.toInt64) * v2.toInt64) + ((((σ.1 66 2).toInt64 * (v1 * v1).toInt64) * v2.toInt64) * v2.toInt64)) + ((((σ.1 66 3).toInt64 * (v1 * v1).toInt64) * (v1 * v1).toInt64) * v2.toInt64))), none, d7, d8]) (S' := []) (σ' := σ) 3 (fun n h => h) ?_
          exact ih _ _ _ _ _ _ v1 (v2 + (1 : Int32)) σ h
      · rw [if_neg hc4] at h
        refine go_st (k' := 13) (L' := [some (.ref 66), some (.int v1), some (.int (v2 + (1 : Int32))), d3, d4, d5, d6, d7, d8]) (S' := []) (σ' := σ) 3 (fun n h => h) ?_
        exact ih _ _ _ _ _ _ v1 (v2 + (1 : Int32)) σ h
def f_M_lays_l5 (N : Nat) : Nat → Int32 → aSt → Option aSt
  | 0, _, _ => none
  | n + 1, v1, σ => (if (σ.1 66 5) < v1 then some σ else f_M_lays_l13 N (fun (y12 : Int32) σ13 => f_M_lays_l5 N n (y12 + (1 : Int32)) σ13) N v1 (-(σ.1 66 4)) σ)
set_option maxRecDepth 20000 in
set_option maxHeartbeats 4000000 in
theorem t_M_lays_l5 (d : Nat) {N : Nat} {x : aSt} {P : Option Value → aSt → Prop} (hp : P none x) : ∀ (n : Nat) (d2 d3 d4 d5 d6 d7 d8 : Option Value) (v1 : Int32) (σ : aSt), f_M_lays_l5 N n v1 σ = some x → aGo (aCall MT (d + 2)) P mc_M_lays 5 [some (.ref 66), some (.int v1), d2, d3, d4, d5, d6, d7, d8] [] σ := by
  intro n
  induction n with
  | zero => intro d2 d3 d4 d5 d6 d7 d8 v1 σ h; cases h
  | succ n ih =>
    intro d2 d3 d4 d5 d6 d7 d8 v1 σ h
    rw [f_M_lays_l5] at h
    refine go_if (c := (σ.1 66 5) < v1) (k1 := 89) (L1 := [some (.ref 66), some (.int v1), d2, d3, d4, d5, d6, d7, d8]) (S1 := []) (σ1 := σ) (k2 := 9) (L2 := [some (.ref 66), some (.int v1), d2, d3, d4, d5, d6, d7, d8]) (S2 := []) (σ2 := σ) 4 (fun n h => h) (fun hc1 => ?_) (fun hc1 => ?_)
    · rw [if_pos hc1] at h
      cases h
      exact go_ret 1 (fun _ => hp)
    · rw [if_neg hc1] at h
      refine go_st (k' := 13) (L' := [some (.ref 66), some (.int v1), some (.int (-(σ.1 66 4))), d3, d4, d5, d6, d7, d8]) (S' := []) (σ' := σ) 4 (fun n h => h) ?_
      refine t_M_lays_l13 d _ hp (fun d2 d3 d4 d5 d6 d7 d8 y12 σ13 h => ?_) N _ _ _ _ _ _ v1 (-(σ.1 66 4)) σ h
      · refine go_st (k' := 5) (L' := [some (.ref 66), some (.int (y12 + (1 : Int32))), d2, d3, d4, d5, d6, d7, d8]) (S' := []) (σ' := σ13) 2 (fun n h => h) ?_
        exact ih _ _ _ _ _ _ _ (y12 + (1 : Int32)) σ13 h
def f_M_lays (N : Nat) (σ : aSt) : Option aSt :=
  f_M_lays_l5 N N (1 : Int32) (s_i σ 66 9 (0 : Int32))
set_option maxRecDepth 20000 in
set_option maxHeartbeats 4000000 in
theorem c_M_lays (d : Nat) {N : Nat} (σ : aSt) {P : Option Value → aSt → Prop} {x : aSt} (h : f_M_lays N σ = some x) (hp : P none x) : aCall MT (d + 3) 61 [.ref 66] σ P := by
  unfold f_M_lays at h
  refine call_of (code := mc_M_lays) (L := [some (.ref 66), none, none, none, none, none, none, none, none]) rfl rfl rfl rfl ?_
  refine go_st (k' := 5) (L' := [some (.ref 66), some (.int (1 : Int32)), none, none, none, none, none, none, none]) (S' := []) (σ' := (s_i σ 66 9 (0 : Int32))) 5 (fun n h => h) ?_
  exact t_M_lays_l5 d hp N _ _ _ _ _ _ _ (1 : Int32) (s_i σ 66 9 (0 : Int32)) h
def f_M_becomes (N : Nat) (p0 : Int32) (p1 : Int32) (p2 : Int32) (p3 : Int32) (σ : aSt) : Option aSt :=
  ((f_M_lays N (s_i (s_i (s_i (s_i (s_b σ 66 1 true) 66 2 p0) 66 3 p1) 66 4 p2) 66 5 p3)).bind fun x1 => some x1)
set_option maxRecDepth 20000 in
set_option maxHeartbeats 4000000 in
theorem c_M_becomes (d : Nat) {N : Nat} (p0 : Int32) (p1 : Int32) (p2 : Int32) (p3 : Int32) (σ : aSt) {P : Option Value → aSt → Prop} {x : aSt} (h : f_M_becomes N p0 p1 p2 p3 σ = some x) (hp : P none x) : aCall MT (d + 4) 62 [.ref 66, .int p0, .int p1, .int p2, .int p3] σ P := by
  unfold f_M_becomes at h
  refine call_of (code := mc_M_becomes) (L := [some (.ref 66), some (.int p0), some (.int p1), some (.int p2), some (.int p3)]) rfl rfl rfl rfl ?_
  refine go_q (Q := (1 : Int32) = 0 ∨ (1 : Int32) = 1) (k' := 3) (L' := [some (.ref 66), some (.int p0), some (.int p1), some (.int p2), some (.int p3)]) (S' := []) (σ' := (s_b σ 66 1 true)) 3 (Or.inr rfl) (fun n h => h) ?_
  obtain ⟨x1, hx1, h⟩ := bind_of h
  refine go_call (r := none) (σc := (s_i (s_i (s_i (s_i (s_b σ 66 1 true) 66 2 p0) 66 3 p1) 66 4 p2) 66 5 p3)) (σ1 := x1) (mi := 61) (vs := [.ref 66]) (k' := 17) (L' := [some (.ref 66), some (.int p0), some (.int p1), some (.int p2), some (.int p3)]) (S' := []) 14 (fun P9 h9 => c_M_lays (d + 0) (s_i (s_i (s_i (s_i (s_b σ 66 1 true) 66 2 p0) 66 3 p1) 66 4 p2) 66 5 p3) hx1 h9) (fun n h => h) ?_
  cases h
  exact go_ret 1 (fun _ => hp)
def f_M_curve_b83 (N : Nat) (v1 : Int32) (v2 : Int32) (v3 : Int32) (v4 : Int32) (σ : aSt) : Option (Int32 × aSt) :=
  (if (f_M_good σ) = true then ((f_M_becomes N v1 v2 v3 v4 (s_i σ 66 22 (0 : Int32))).bind fun x21 => some ((x21.1 66 9), x21)) else some ((-4 : Int32), σ))
set_option maxRecDepth 20000 in
set_option maxHeartbeats 4000000 in
theorem t_M_curve_b83 (d : Nat) {N : Nat} (v1 : Int32) (v2 : Int32) (v3 : Int32) (v4 : Int32) (σ : aSt) {P : Option Value → aSt → Prop} {x : (Int32 × aSt)} (h : f_M_curve_b83 N v1 v2 v3 v4 σ = some x) (hp : P (some (.int x.1)) x.2) : aGo (aCall MT (d + 4)) P mc_M_curve 83 [some (.ref 66), some (.int v1), some (.int v2), some (.int v3), some (.int v4)] [] σ := by
  unfold f_M_curve_b83 at h
  refine go_call (r := some (.int (b2i (f_M_good σ)))) (σc := σ) (σ1 := σ) (mi := 50) (vs := [.ref 66]) (k' := 85) (L' := [some (.ref 66), some (.int v1), some (.int v2), some (.int v3), some (.int v4)]) (S' := []) 2 (fun P9 h9 => c_M_good (d + 3) σ h9) (fun n h => h) ?_
  refine go_ifn (b := (f_M_good σ)) (k1 := 88) (L1 := [some (.ref 66), some (.int v1), some (.int v2), some (.int v3), some (.int v4)]) (S1 := []) (σ1 := σ) (k2 := 86) (L2 := [some (.ref 66), some (.int v1), some (.int v2), some (.int v3), some (.int v4)]) (S2 := []) (σ2 := σ) 1 (fun n h => h) (fun hc20 => ?_) (fun hc20 => ?_)
  · rw [if_pos hc20] at h
    obtain ⟨x21, hx21, h⟩ := bind_of h
    refine go_call (r := none) (σc := (s_i σ 66 22 (0 : Int32))) (σ1 := x21) (mi := 62) (vs := [.ref 66, .int v1, .int v2, .int v3, .int v4]) (k' := 97) (L' := [some (.ref 66), some (.int v1), some (.int v2), some (.int v3), some (.int v4)]) (S' := []) 9 (fun P9 h9 => c_M_becomes (d + 0) v1 v2 v3 v4 (s_i σ 66 22 (0 : Int32)) hx21 h9) (fun n h => h) ?_
    cases h
    exact go_ret 3 (fun _ => hp)
  · rw [if_neg hc20] at h
    cases h
    exact go_ret 2 (fun _ => hp)
def f_M_curve_b72 (N : Nat) (v1 : Int32) (v2 : Int32) (v3 : Int32) (v4 : Int32) (σ : aSt) : Option (Int32 × aSt) :=
  (if (f_M_good σ) = true then (if (σ.1 66 16) = 0 then f_M_curve_b83 N v1 v2 v3 v4 σ else (lt (f_M_errs (1 : Int32) (σ.1 66 15) σ) fun x22 => f_M_curve_b83 N v1 v2 v3 v4 x22)) else f_M_curve_b83 N v1 v2 v3 v4 σ)
set_option maxRecDepth 20000 in
set_option maxHeartbeats 4000000 in
theorem t_M_curve_b72 (d : Nat) {N : Nat} (v1 : Int32) (v2 : Int32) (v3 : Int32) (v4 : Int32) (σ : aSt) {P : Option Value → aSt → Prop} {x : (Int32 × aSt)} (h : f_M_curve_b72 N v1 v2 v3 v4 σ = some x) (hp : P (some (.int x.1)) x.2) : aGo (aCall MT (d + 4)) P mc_M_curve 72 [some (.ref 66), some (.int v1), some (.int v2), some (.int v3), some (.int v4)] [] σ := by
  unfold f_M_curve_b72 at h
  refine go_call (r := some (.int (b2i (f_M_good σ)))) (σc := σ) (σ1 := σ) (mi := 50) (vs := [.ref 66]) (k' := 74) (L' := [some (.ref 66), some (.int v1), some (.int v2), some (.int v3), some (.int v4)]) (S' := []) 2 (fun P9 h9 => c_M_good (d + 3) σ h9) (fun n h => h) ?_
  refine go_ifz (b := (f_M_good σ)) (k1 := 83) (L1 := [some (.ref 66), some (.int v1), some (.int v2), some (.int v3), some (.int v4)]) (S1 := []) (σ1 := σ) (k2 := 75) (L2 := [some (.ref 66), some (.int v1), some (.int v2), some (.int v3), some (.int v4)]) (S2 := []) (σ2 := σ) 1 (fun n h => h) (fun hc18 => ?_) (fun hc18 => ?_)
  · rw [if_neg hc18] at h
    exact t_M_curve_b83 d v1 v2 v3 v4 σ h hp
  · rw [if_pos hc18] at h
    refine go_if (c := (σ.1 66 16) = 0) (k1 := 83) (L1 := [some (.ref 66), some (.int v1), some (.int v2), some (.int v3), some (.int v4)]) (S1 := []) (σ1 := σ) (k2 := 78) (L2 := [some (.ref 66), some (.int v1), some (.int v2), some (.int v3), some (.int v4)]) (S2 := []) (σ2 := σ) 3 (fun n h => h) (fun hc19 => ?_) (fun hc19 => ?_)
    · rw [if_pos hc19] at h
      exact t_M_curve_b83 d v1 v2 v3 v4 σ h hp
    · rw [if_neg hc19] at h
      obtain ⟨x22, hx22, h⟩ := lt_of h
      refine go_call (r := none) (σc := σ) (σ1 := x22) (mi := 52) (vs := [.ref 66, .int (1 : Int32), .int (σ.1 66 15)]) (k' := 83) (L' := [some (.ref 66), some (.int v1), some (.int v2), some (.int v3), some (.int v4)]) (S' := []) 5 (fun P9 h9 => c_M_errs (d + 2) (1 : Int32) (σ.1 66 15) σ (by rw [← hx22]; exact h9)) (fun n h => h) ?_
      exact t_M_curve_b83 d v1 v2 v3 v4 x22 h hp
def f_M_curve_b67 (N : Nat) (v1 : Int32) (v2 : Int32) (v3 : Int32) (v4 : Int32) (σ : aSt) : Option (Int32 × aSt) :=
  (if (f_M_good σ) = true then ((f_M_advance N σ).bind fun x17 => f_M_curve_b72 N v1 v2 v3 v4 x17) else f_M_curve_b72 N v1 v2 v3 v4 σ)
set_option maxRecDepth 20000 in
set_option maxHeartbeats 4000000 in
theorem t_M_curve_b67 (d : Nat) {N : Nat} (v1 : Int32) (v2 : Int32) (v3 : Int32) (v4 : Int32) (σ : aSt) {P : Option Value → aSt → Prop} {x : (Int32 × aSt)} (h : f_M_curve_b67 N v1 v2 v3 v4 σ = some x) (hp : P (some (.int x.1)) x.2) : aGo (aCall MT (d + 4)) P mc_M_curve 67 [some (.ref 66), some (.int v1), some (.int v2), some (.int v3), some (.int v4)] [] σ := by
  unfold f_M_curve_b67 at h
  refine go_call (r := some (.int (b2i (f_M_good σ)))) (σc := σ) (σ1 := σ) (mi := 50) (vs := [.ref 66]) (k' := 69) (L' := [some (.ref 66), some (.int v1), some (.int v2), some (.int v3), some (.int v4)]) (S' := []) 2 (fun P9 h9 => c_M_good (d + 3) σ h9) (fun n h => h) ?_
  refine go_ifz (b := (f_M_good σ)) (k1 := 72) (L1 := [some (.ref 66), some (.int v1), some (.int v2), some (.int v3), some (.int v4)]) (S1 := []) (σ1 := σ) (k2 := 70) (L2 := [some (.ref 66), some (.int v1), some (.int v2), some (.int v3), some (.int v4)]) (S2 := []) (σ2 := σ) 1 (fun n h => h) (fun hc16 => ?_) (fun hc16 => ?_)
  · rw [if_neg hc16] at h
    exact t_M_curve_b72 d v1 v2 v3 v4 σ h hp
  · rw [if_pos hc16] at h
    obtain ⟨x17, hx17, h⟩ := bind_of h
    refine go_call (r := none) (σc := σ) (σ1 := x17) (mi := 48) (vs := [.ref 66]) (k' := 72) (L' := [some (.ref 66), some (.int v1), some (.int v2), some (.int v3), some (.int v4)]) (S' := []) 2 (fun P9 h9 => c_M_advance (d + 2) σ hx17 h9) (fun n h => h) ?_
    exact t_M_curve_b72 d v1 v2 v3 v4 x17 h hp
def f_M_curve_b58 (N : Nat) (v1 : Int32) (v2 : Int32) (v3 : Int32) (v4 : Int32) (σ : aSt) : Option (Int32 × aSt) :=
  (if (f_M_isSign (59 : Int32) σ) = true then f_M_curve_b67 N v1 v2 v3 v4 σ else (lt (f_M_errs (1 : Int32) (σ.1 66 15) σ) fun x23 => f_M_curve_b67 N v1 v2 v3 v4 x23))
set_option maxRecDepth 20000 in
set_option maxHeartbeats 4000000 in
theorem t_M_curve_b58 (d : Nat) {N : Nat} (v1 : Int32) (v2 : Int32) (v3 : Int32) (v4 : Int32) (σ : aSt) {P : Option Value → aSt → Prop} {x : (Int32 × aSt)} (h : f_M_curve_b58 N v1 v2 v3 v4 σ = some x) (hp : P (some (.int x.1)) x.2) : aGo (aCall MT (d + 4)) P mc_M_curve 58 [some (.ref 66), some (.int v1), some (.int v2), some (.int v3), some (.int v4)] [] σ := by
  unfold f_M_curve_b58 at h
  refine go_call (r := some (.int (b2i (f_M_isSign (59 : Int32) σ)))) (σc := σ) (σ1 := σ) (mi := 53) (vs := [.ref 66, .int (59 : Int32)]) (k' := 61) (L' := [some (.ref 66), some (.int v1), some (.int v2), some (.int v3), some (.int v4)]) (S' := []) 3 (fun P9 h9 => c_M_isSign (d + 2) (59 : Int32) σ h9) (fun n h => h) ?_
  refine go_ifn (b := (f_M_isSign (59 : Int32) σ)) (k1 := 67) (L1 := [some (.ref 66), some (.int v1), some (.int v2), some (.int v3), some (.int v4)]) (S1 := []) (σ1 := σ) (k2 := 62) (L2 := [some (.ref 66), some (.int v1), some (.int v2), some (.int v3), some (.int v4)]) (S2 := []) (σ2 := σ) 1 (fun n h => h) (fun hc15 => ?_) (fun hc15 => ?_)
  · rw [if_pos hc15] at h
    exact t_M_curve_b67 d v1 v2 v3 v4 σ h hp
  · rw [if_neg hc15] at h
    obtain ⟨x23, hx23, h⟩ := lt_of h
    refine go_call (r := none) (σc := σ) (σ1 := x23) (mi := 52) (vs := [.ref 66, .int (1 : Int32), .int (σ.1 66 15)]) (k' := 67) (L' := [some (.ref 66), some (.int v1), some (.int v2), some (.int v3), some (.int v4)]) (S' := []) 5 (fun P9 h9 => c_M_errs (d + 2) (1 : Int32) (σ.1 66 15) σ (by rw [← hx23]; exact h9)) (fun n h => h) ?_
    exact t_M_curve_b67 d v1 v2 v3 v4 x23 h hp
def f_M_curve_b38 (N : Nat) (v1 : Int32) (v2 : Int32) (σ : aSt) : Option (Int32 × aSt) :=
  ((f_M_isWord_201 N σ).bind fun x10 => (if x10 = true then ((f_M_advance N σ).bind fun x12 => ((f_M_number N (1 : Int32) (1000 : Int32) x12).bind fun x13 => ((f_M_number N (1 : Int32) (6 : Int32) x13.2).bind fun x14 => f_M_curve_b58 N v1 v2 x13.1 x14.1 x14.2))) else f_M_curve_b58 N v1 v2 (200 : Int32) (4 : Int32) σ))
set_option maxRecDepth 20000 in
set_option maxHeartbeats 4000000 in
theorem t_M_curve_b38 (d : Nat) {N : Nat} (d3 d4 : Option Value) (v1 : Int32) (v2 : Int32) (σ : aSt) {P : Option Value → aSt → Prop} {x : (Int32 × aSt)} (h : f_M_curve_b38 N v1 v2 σ = some x) (hp : P (some (.int x.1)) x.2) : aGo (aCall MT (d + 4)) P mc_M_curve 38 [some (.ref 66), some (.int v1), some (.int v2), d3, d4] [] σ := by
  unfold f_M_curve_b38 at h
  obtain ⟨x10, hx10, h⟩ := bind_of h
  refine go_call (r := some (.int (b2i x10))) (σc := σ) (σ1 := σ) (mi := 51) (vs := [.ref 66, .ref 201]) (k' := 45) (L' := [some (.ref 66), some (.int v1), some (.int v2), some (.int (200 : Int32)), some (.int (4 : Int32))]) (S' := []) 7 (fun P9 h9 => c_M_isWord_201 (d + 2) σ hx10 h9) (fun n h => h) ?_
  refine go_ifz (b := x10) (k1 := 58) (L1 := [some (.ref 66), some (.int v1), some (.int v2), some (.int (200 : Int32)), some (.int (4 : Int32))]) (S1 := []) (σ1 := σ) (k2 := 46) (L2 := [some (.ref 66), some (.int v1), some (.int v2), some (.int (200 : Int32)), some (.int (4 : Int32))]) (S2 := []) (σ2 := σ) 1 (fun n h => h) (fun hc11 => ?_) (fun hc11 => ?_)
  · rw [if_neg hc11] at h
    exact t_M_curve_b58 d v1 v2 (200 : Int32) (4 : Int32) σ h hp
  · rw [if_pos hc11] at h
    obtain ⟨x12, hx12, h⟩ := bind_of h
    refine go_call (r := none) (σc := σ) (σ1 := x12) (mi := 48) (vs := [.ref 66]) (k' := 48) (L' := [some (.ref 66), some (.int v1), some (.int v2), some (.int (200 : Int32)), some (.int (4 : Int32))]) (S' := []) 2 (fun P9 h9 => c_M_advance (d + 2) σ hx12 h9) (fun n h => h) ?_
    obtain ⟨x13, hx13, h⟩ := bind_of h
    refine go_call (r := some (.int x13.1)) (σc := x12) (σ1 := x13.2) (mi := 54) (vs := [.ref 66, .int (1 : Int32), .int (1000 : Int32)]) (k' := 52) (L' := [some (.ref 66), some (.int v1), some (.int v2), some (.int (200 : Int32)), some (.int (4 : Int32))]) (S' := []) 4 (fun P9 h9 => c_M_number (d + 1) (1 : Int32) (1000 : Int32) x12 hx13 h9) (fun n h => h) ?_
    obtain ⟨x14, hx14, h⟩ := bind_of h
    refine go_call (r := some (.int x14.1)) (σc := x13.2) (σ1 := x14.2) (mi := 54) (vs := [.ref 66, .int (1 : Int32), .int (6 : Int32)]) (k' := 57) (L' := [some (.ref 66), some (.int v1), some (.int v2), some (.int x13.1), some (.int (4 : Int32))]) (S' := []) 5 (fun P9 h9 => c_M_number (d + 1) (1 : Int32) (6 : Int32) x13.2 hx14 h9) (fun n h => h) ?_
    refine go_st (k' := 58) (L' := [some (.ref 66), some (.int v1), some (.int v2), some (.int x13.1), some (.int x14.1)]) (S' := []) (σ' := x14.2) 1 (fun n h => h) ?_
    exact t_M_curve_b58 d v1 v2 x13.1 x14.1 x14.2 h hp
def f_M_curve_b16 (N : Nat) (σ : aSt) : Option (Int32 × aSt) :=
  ((f_M_signed N (60 : Int32) σ).bind fun x6 => ((f_M_signed N (200 : Int32) x6.2).bind fun x7 => (if (f_M_good x7.2) = true then (if (f_M_isCurve x6.1.toInt64 x7.1.toInt64) = true then f_M_curve_b38 N x6.1 x7.1 x7.2 else (lt (f_M_errs (3 : Int32) (x7.2.1 66 20) x7.2) fun x24 => f_M_curve_b38 N x6.1 x7.1 x24)) else f_M_curve_b38 N x6.1 x7.1 x7.2)))
set_option maxRecDepth 20000 in
set_option maxHeartbeats 4000000 in
theorem t_M_curve_b16 (d : Nat) {N : Nat} (d1 d2 d3 d4 : Option Value) (σ : aSt) {P : Option Value → aSt → Prop} {x : (Int32 × aSt)} (h : f_M_curve_b16 N σ = some x) (hp : P (some (.int x.1)) x.2) : aGo (aCall MT (d + 4)) P mc_M_curve 16 [some (.ref 66), d1, d2, d3, d4] [] σ := by
  unfold f_M_curve_b16 at h
  obtain ⟨x6, hx6, h⟩ := bind_of h
  refine go_call (r := some (.int x6.1)) (σc := σ) (σ1 := x6.2) (mi := 55) (vs := [.ref 66, .int (60 : Int32)]) (k' := 19) (L' := [some (.ref 66), d1, d2, d3, d4]) (S' := []) 3 (fun P9 h9 => c_M_signed (d + 0) (60 : Int32) σ hx6 h9) (fun n h => h) ?_
  obtain ⟨x7, hx7, h⟩ := bind_of h
  refine go_call (r := some (.int x7.1)) (σc := x6.2) (σ1 := x7.2) (mi := 55) (vs := [.ref 66, .int (200 : Int32)]) (k' := 23) (L' := [some (.ref 66), some (.int x6.1), d2, d3, d4]) (S' := []) 4 (fun P9 h9 => c_M_signed (d + 0) (200 : Int32) x6.2 hx7 h9) (fun n h => h) ?_
  refine go_call (r := some (.int (b2i (f_M_good x7.2)))) (σc := x7.2) (σ1 := x7.2) (mi := 50) (vs := [.ref 66]) (k' := 26) (L' := [some (.ref 66), some (.int x6.1), some (.int x7.1), d3, d4]) (S' := []) 3 (fun P9 h9 => c_M_good (d + 3) x7.2 h9) (fun n h => h) ?_
  refine go_ifz (b := (f_M_good x7.2)) (k1 := 38) (L1 := [some (.ref 66), some (.int x6.1), some (.int x7.1), d3, d4]) (S1 := []) (σ1 := x7.2) (k2 := 27) (L2 := [some (.ref 66), some (.int x6.1), some (.int x7.1), d3, d4]) (S2 := []) (σ2 := x7.2) 1 (fun n h => h) (fun hc8 => ?_) (fun hc8 => ?_)
  · rw [if_neg hc8] at h
    exact t_M_curve_b38 d _ _ x6.1 x7.1 x7.2 h hp
  · rw [if_pos hc8] at h
    refine go_call (r := some (.int (b2i (f_M_isCurve x6.1.toInt64 x7.1.toInt64)))) (σc := x7.2) (σ1 := x7.2) (mi := 56) (vs := [.long x6.1.toInt64, .long x7.1.toInt64]) (k' := 32) (L' := [some (.ref 66), some (.int x6.1), some (.int x7.1), d3, d4]) (S' := []) 5 (fun P9 h9 => c_M_isCurve (d + 3) x6.1.toInt64 x7.1.toInt64 x7.2 h9) (fun n h => h) ?_
    refine go_ifn (b := (f_M_isCurve x6.1.toInt64 x7.1.toInt64)) (k1 := 38) (L1 := [some (.ref 66), some (.int x6.1), some (.int x7.1), d3, d4]) (S1 := []) (σ1 := x7.2) (k2 := 33) (L2 := [some (.ref 66), some (.int x6.1), some (.int x7.1), d3, d4]) (S2 := []) (σ2 := x7.2) 1 (fun n h => h) (fun hc9 => ?_) (fun hc9 => ?_)
    · rw [if_pos hc9] at h
      exact t_M_curve_b38 d _ _ x6.1 x7.1 x7.2 h hp
    · rw [if_neg hc9] at h
      obtain ⟨x24, hx24, h⟩ := lt_of h
      refine go_call (r := none) (σc := x7.2) (σ1 := x24) (mi := 52) (vs := [.ref 66, .int (3 : Int32), .int (x7.2.1 66 20)]) (k' := 38) (L' := [some (.ref 66), some (.int x6.1), some (.int x7.1), d3, d4]) (S' := []) 5 (fun P9 h9 => c_M_errs (d + 2) (3 : Int32) (x7.2.1 66 20) x7.2 (by rw [← hx24]; exact h9)) (fun n h => h) ?_
      exact t_M_curve_b38 d _ _ x6.1 x7.1 x24 h hp
def f_M_curve_b11 (N : Nat) (σ : aSt) : Option (Int32 × aSt) :=
  (if (f_M_good σ) = true then ((f_M_advance N σ).bind fun x5 => f_M_curve_b16 N x5) else f_M_curve_b16 N σ)
set_option maxRecDepth 20000 in
set_option maxHeartbeats 4000000 in
theorem t_M_curve_b11 (d : Nat) {N : Nat} (d1 d2 d3 d4 : Option Value) (σ : aSt) {P : Option Value → aSt → Prop} {x : (Int32 × aSt)} (h : f_M_curve_b11 N σ = some x) (hp : P (some (.int x.1)) x.2) : aGo (aCall MT (d + 4)) P mc_M_curve 11 [some (.ref 66), d1, d2, d3, d4] [] σ := by
  unfold f_M_curve_b11 at h
  refine go_call (r := some (.int (b2i (f_M_good σ)))) (σc := σ) (σ1 := σ) (mi := 50) (vs := [.ref 66]) (k' := 13) (L' := [some (.ref 66), d1, d2, d3, d4]) (S' := []) 2 (fun P9 h9 => c_M_good (d + 3) σ h9) (fun n h => h) ?_
  refine go_ifz (b := (f_M_good σ)) (k1 := 16) (L1 := [some (.ref 66), d1, d2, d3, d4]) (S1 := []) (σ1 := σ) (k2 := 14) (L2 := [some (.ref 66), d1, d2, d3, d4]) (S2 := []) (σ2 := σ) 1 (fun n h => h) (fun hc4 => ?_) (fun hc4 => ?_)
  · rw [if_neg hc4] at h
    exact t_M_curve_b16 d _ _ _ _ σ h hp
  · rw [if_pos hc4] at h
    obtain ⟨x5, hx5, h⟩ := bind_of h
    refine go_call (r := none) (σc := σ) (σ1 := x5) (mi := 48) (vs := [.ref 66]) (k' := 16) (L' := [some (.ref 66), d1, d2, d3, d4]) (S' := []) 2 (fun P9 h9 => c_M_advance (d + 2) σ hx5 h9) (fun n h => h) ?_
    exact t_M_curve_b16 d _ _ _ _ x5 h hp
def f_M_curve (N : Nat) (σ : aSt) : Option (Int32 × aSt) :=
  ((f_M_begins N σ).bind fun x1 => ((f_M_isWord_200 N x1).bind fun x2 => (if x2 = true then f_M_curve_b11 N x1 else (lt (f_M_errs (1 : Int32) (x1.1 66 15) x1) fun x25 => f_M_curve_b11 N x25))))
set_option maxRecDepth 20000 in
set_option maxHeartbeats 4000000 in
theorem c_M_curve (d : Nat) {N : Nat} (σ : aSt) {P : Option Value → aSt → Prop} {x : (Int32 × aSt)} (h : f_M_curve N σ = some x) (hp : P (some (.int x.1)) x.2) : aCall MT (d + 5) 63 [.ref 66] σ P := by
  unfold f_M_curve at h
  refine call_of (code := mc_M_curve) (L := [some (.ref 66), none, none, none, none]) rfl rfl rfl rfl ?_
  obtain ⟨x1, hx1, h⟩ := bind_of h
  refine go_call (r := none) (σc := σ) (σ1 := x1) (mi := 49) (vs := [.ref 66]) (k' := 2) (L' := [some (.ref 66), none, none, none, none]) (S' := []) 2 (fun P9 h9 => c_M_begins (d + 1) σ hx1 h9) (fun n h => h) ?_
  obtain ⟨x2, hx2, h⟩ := bind_of h
  refine go_call (r := some (.int (b2i x2))) (σc := x1) (σ1 := x1) (mi := 51) (vs := [.ref 66, .ref 200]) (k' := 5) (L' := [some (.ref 66), none, none, none, none]) (S' := []) 3 (fun P9 h9 => c_M_isWord_200 (d + 2) x1 hx2 h9) (fun n h => h) ?_
  refine go_ifn (b := x2) (k1 := 11) (L1 := [some (.ref 66), none, none, none, none]) (S1 := []) (σ1 := x1) (k2 := 6) (L2 := [some (.ref 66), none, none, none, none]) (S2 := []) (σ2 := x1) 1 (fun n h => h) (fun hc3 => ?_) (fun hc3 => ?_)
  · rw [if_pos hc3] at h
    exact t_M_curve_b11 d _ _ _ _ x1 h hp
  · rw [if_neg hc3] at h
    obtain ⟨x25, hx25, h⟩ := lt_of h
    refine go_call (r := none) (σc := x1) (σ1 := x25) (mi := 52) (vs := [.ref 66, .int (1 : Int32), .int (x1.1 66 15)]) (k' := 11) (L' := [some (.ref 66), none, none, none, none]) (S' := []) 5 (fun P9 h9 => c_M_errs (d + 2) (1 : Int32) (x1.1 66 15) x1 (by rw [← hx25]; exact h9)) (fun n h => h) ?_
    exact t_M_curve_b11 d _ _ _ _ x25 h hp
def f_M_fault (p0 : Int32) (σ : aSt) : Int32 :=
  (if p0 ≠ 0 then (if p0 ≠ (1 : Int32) then (-1 : Int32) else (σ.1 66 19)) else (σ.1 66 18))
set_option maxRecDepth 20000 in
set_option maxHeartbeats 4000000 in
theorem c_M_fault (d : Nat) (p0 : Int32) (σ : aSt) {P : Option Value → aSt → Prop} (h : P (some (.int ((f_M_fault p0 σ)))) σ) : aCall MT (d + 1) 67 [.ref 66, .int p0] σ P := by
  unfold f_M_fault at h
  refine call_of (code := mc_M_fault) (L := [some (.ref 66), some (.int p0)]) rfl rfl rfl rfl ?_
  refine go_if (c := p0 ≠ 0) (k1 := 5) (L1 := [some (.ref 66), some (.int p0)]) (S1 := []) (σ1 := σ) (k2 := 2) (L2 := [some (.ref 66), some (.int p0)]) (S2 := []) (σ2 := σ) 2 (fun n h => h) (fun hc1 => ?_) (fun hc1 => ?_)
  · rw [if_pos hc1] at h
    refine go_if (c := p0 ≠ (1 : Int32)) (k1 := 11) (L1 := [some (.ref 66), some (.int p0)]) (S1 := []) (σ1 := σ) (k2 := 8) (L2 := [some (.ref 66), some (.int p0)]) (S2 := []) (σ2 := σ) 3 (fun n h => h) (fun hc2 => ?_) (fun hc2 => ?_)
    · rw [if_pos hc2] at h
      exact go_ret 2 (fun _ => h)
    · rw [if_neg hc2] at h
      exact go_ret 4 (fun _ => h)
  · rw [if_neg hc1] at h
    exact go_ret 4 (fun _ => h)
def f_M_count (p0 : Int32) (σ : aSt) : Int64 :=
  (if p0 = (0 : Int32) then (if (σ.2.2 66 1) = true then (σ.1 66 2).toInt64 else (-9223372036854775808 : Int64)) else (if p0 = (1 : Int32) then (if (σ.2.2 66 1) = true then (σ.1 66 3).toInt64 else (-9223372036854775808 : Int64)) else (if p0 = (2 : Int32) then (if (σ.2.2 66 1) = true then (σ.1 66 4).toInt64 else (-9223372036854775808 : Int64)) else (if p0 = (3 : Int32) then (if (σ.2.2 66 1) = true then (σ.1 66 5).toInt64 else (-9223372036854775808 : Int64)) else (if p0 = (4 : Int32) then (σ.1 66 9).toInt64 else (if p0 = (5 : Int32) then (σ.1 66 11).toInt64 else (if p0 = (6 : Int32) then (σ.1 66 57).toInt64 else (-9223372036854775808 : Int64))))))))
set_option maxRecDepth 20000 in
set_option maxHeartbeats 4000000 in
theorem c_M_count (d : Nat) (p0 : Int32) (σ : aSt) {P : Option Value → aSt → Prop} (h : P (some (.long ((f_M_count p0 σ)))) σ) : aCall MT (d + 1) 72 [.ref 66, .int p0] σ P := by
  unfold f_M_count at h
  refine call_of (code := mc_M_count) (L := [some (.ref 66), some (.int p0)]) rfl rfl rfl rfl ?_
  refine go_sw (L' := [some (.ref 66), some (.int p0)]) (S' := []) (σ' := σ) 2 (fun n h => h) ?_
  refine tsw_cons (fun hc1 => ?_) (fun hc1 => ?_)
  · rw [if_pos (show p0 = (0 : Int32) from hc1)] at h
    refine go_ifz (b := (σ.2.2 66 1)) (k1 := 9) (L1 := [some (.ref 66), some (.int p0)]) (S1 := []) (σ1 := σ) (k2 := 5) (L2 := [some (.ref 66), some (.int p0)]) (S2 := []) (σ2 := σ) 3 (fun n h => h) (fun hc2 => ?_) (fun hc2 => ?_)
    · rw [if_neg hc2] at h
      exact go_ret 2 (fun _ => h)
    · rw [if_pos hc2] at h
      exact go_ret 5 (fun _ => h)
  · rw [if_neg (show ¬ p0 = (0 : Int32) from hc1)] at h
    refine tsw_cons (fun hc3 => ?_) (fun hc3 => ?_)
    · rw [if_pos (show p0 = (1 : Int32) from hc3)] at h
      refine go_ifz (b := (σ.2.2 66 1)) (k1 := 18) (L1 := [some (.ref 66), some (.int p0)]) (S1 := []) (σ1 := σ) (k2 := 14) (L2 := [some (.ref 66), some (.int p0)]) (S2 := []) (σ2 := σ) 3 (fun n h => h) (fun hc4 => ?_) (fun hc4 => ?_)
      · rw [if_neg hc4] at h
        exact go_ret 2 (fun _ => h)
      · rw [if_pos hc4] at h
        exact go_ret 5 (fun _ => h)
    · rw [if_neg (show ¬ p0 = (1 : Int32) from hc3)] at h
      refine tsw_cons (fun hc5 => ?_) (fun hc5 => ?_)
      · rw [if_pos (show p0 = (2 : Int32) from hc5)] at h
        refine go_ifz (b := (σ.2.2 66 1)) (k1 := 27) (L1 := [some (.ref 66), some (.int p0)]) (S1 := []) (σ1 := σ) (k2 := 23) (L2 := [some (.ref 66), some (.int p0)]) (S2 := []) (σ2 := σ) 3 (fun n h => h) (fun hc6 => ?_) (fun hc6 => ?_)
        · rw [if_neg hc6] at h
          exact go_ret 2 (fun _ => h)
        · rw [if_pos hc6] at h
          exact go_ret 5 (fun _ => h)
      · rw [if_neg (show ¬ p0 = (2 : Int32) from hc5)] at h
        refine tsw_cons (fun hc7 => ?_) (fun hc7 => ?_)
        · rw [if_pos (show p0 = (3 : Int32) from hc7)] at h
          refine go_ifz (b := (σ.2.2 66 1)) (k1 := 36) (L1 := [some (.ref 66), some (.int p0)]) (S1 := []) (σ1 := σ) (k2 := 32) (L2 := [some (.ref 66), some (.int p0)]) (S2 := []) (σ2 := σ) 3 (fun n h => h) (fun hc8 => ?_) (fun hc8 => ?_)
          · rw [if_neg hc8] at h
            exact go_ret 2 (fun _ => h)
          · rw [if_pos hc8] at h
            exact go_ret 5 (fun _ => h)
        · rw [if_neg (show ¬ p0 = (3 : Int32) from hc7)] at h
          refine tsw_cons (fun hc9 => ?_) (fun hc9 => ?_)
          · rw [if_pos (show p0 = (4 : Int32) from hc9)] at h
            exact go_ret 4 (fun _ => h)
          · rw [if_neg (show ¬ p0 = (4 : Int32) from hc9)] at h
            refine tsw_cons (fun hc10 => ?_) (fun hc10 => ?_)
            · rw [if_pos (show p0 = (5 : Int32) from hc10)] at h
              exact go_ret 4 (fun _ => h)
            · rw [if_neg (show ¬ p0 = (5 : Int32) from hc10)] at h
              refine tsw_cons (fun hc11 => ?_) (fun hc11 => ?_)
              · rw [if_pos (show p0 = (6 : Int32) from hc11)] at h
                exact go_ret 4 (fun _ => h)
              · rw [if_neg (show ¬ p0 = (6 : Int32) from hc11)] at h
                refine tsw_nil ?_
                exact go_ret 2 (fun _ => h)
def f_M_isListed (p0 : Int32) (σ : aSt) : Bool :=
  (if (σ.2.2 66 1) = true then (if (f_M_in p0.toInt64 (0 : Int64) ((σ.1 66 9) - (1 : Int32)).toInt64) = true then true else false) else false)
set_option maxRecDepth 20000 in
set_option maxHeartbeats 4000000 in
theorem c_M_isListed (d : Nat) (p0 : Int32) (σ : aSt) {P : Option Value → aSt → Prop} (h : P (some (.int (b2i ((f_M_isListed p0 σ))))) σ) : aCall MT (d + 2) 79 [.ref 66, .int p0] σ P := by
  unfold f_M_isListed at h
  refine call_of (code := mc_M_isListed) (L := [some (.ref 66), some (.int p0)]) rfl rfl rfl rfl ?_
  refine go_ifz (b := (σ.2.2 66 1)) (k1 := 15) (L1 := [some (.ref 66), some (.int p0)]) (S1 := []) (σ1 := σ) (k2 := 3) (L2 := [some (.ref 66), some (.int p0)]) (S2 := []) (σ2 := σ) 3 (fun n h => h) (fun hc1 => ?_) (fun hc1 => ?_)
  · rw [if_neg hc1] at h
    exact go_ret 2 (fun _ => And.intro (Or.inl rfl) h)
  · rw [if_pos hc1] at h
    refine go_call (r := some (.int (b2i (f_M_in p0.toInt64 (0 : Int64) ((σ.1 66 9) - (1 : Int32)).toInt64)))) (σc := σ) (σ1 := σ) (mi := 7) (vs := [.long p0.toInt64, .long (0 : Int64), .long ((σ.1 66 9) - (1 : Int32)).toInt64]) (k' := 12) (L' := [some (.ref 66), some (.int p0)]) (S' := []) 9 (fun P9 h9 => c_M_in (d + 0) p0.toInt64 (0 : Int64) ((σ.1 66 9) - (1 : Int32)).toInt64 σ h9) (fun n h => h) ?_
    refine go_ifz (b := (f_M_in p0.toInt64 (0 : Int64) ((σ.1 66 9) - (1 : Int32)).toInt64)) (k1 := 15) (L1 := [some (.ref 66), some (.int p0)]) (S1 := []) (σ1 := σ) (k2 := 13) (L2 := [some (.ref 66), some (.int p0)]) (S2 := []) (σ2 := σ) 1 (fun n h => h) (fun hc2 => ?_) (fun hc2 => ?_)
    · rw [if_neg hc2] at h
      exact go_ret 2 (fun _ => And.intro (Or.inl rfl) h)
    · rw [if_pos hc2] at h
      exact go_ret 3 (fun _ => And.intro (Or.inr rfl) h)
def f_M_point (N : Nat) (p0 : Int32) (p1 : Int32) (σ : aSt) : Option Int64 :=
  (if (f_M_isListed p0 σ) = true then (if (f_M_in p1.toInt64 (0 : Int64) (2 : Int64)) = true then (if p1 ≠ 0 then (if p1 ≠ (1 : Int32) then (if 0 ≤ p0 ∧ p0 < (120 : Int32) then some (σ.1 69 p0.toNatClampNeg).toInt64 else none) else (if 0 ≤ p0 ∧ p0 < (120 : Int32) then some (σ.2.1 68 p0.toNatClampNeg) else none)) else (if 0 ≤ p0 ∧ p0 < (120 : Int32) then some (σ.1 67 p0.toNatClampNeg).toInt64 else none)) else some (-9223372036854775808 : Int64)) else some (-9223372036854775808 : Int64))
set_option maxRecDepth 20000 in
set_option maxHeartbeats 4000000 in
theorem c_M_point (d : Nat) {N : Nat} (p0 : Int32) (p1 : Int32) (σ : aSt) {P : Option Value → aSt → Prop} {x : Int64} (h : f_M_point N p0 p1 σ = some x) (hp : P (some (.long x)) σ) : aCall MT (d + 3) 80 [.ref 66, .int p0, .int p1] σ P := by
  unfold f_M_point at h
  refine call_of (code := mc_M_point) (L := [some (.ref 66), some (.int p0), some (.int p1)]) rfl rfl rfl rfl ?_
  refine go_call (r := some (.int (b2i (f_M_isListed p0 σ)))) (σc := σ) (σ1 := σ) (mi := 79) (vs := [.ref 66, .int p0]) (k' := 3) (L' := [some (.ref 66), some (.int p0), some (.int p1)]) (S' := []) 3 (fun P9 h9 => c_M_isListed (d + 0) p0 σ h9) (fun n h => h) ?_
  refine go_ifz (b := (f_M_isListed p0 σ)) (k1 := 10) (L1 := [some (.ref 66), some (.int p0), some (.int p1)]) (S1 := []) (σ1 := σ) (k2 := 4) (L2 := [some (.ref 66), some (.int p0), some (.int p1)]) (S2 := []) (σ2 := σ) 1 (fun n h => h) (fun hc1 => ?_) (fun hc1 => ?_)
  · rw [if_neg hc1] at h
    cases h
    exact go_ret 2 (fun _ => hp)
  · rw [if_pos hc1] at h
    refine go_call (r := some (.int (b2i (f_M_in p1.toInt64 (0 : Int64) (2 : Int64))))) (σc := σ) (σ1 := σ) (mi := 7) (vs := [.long p1.toInt64, .long (0 : Int64), .long (2 : Int64)]) (k' := 9) (L' := [some (.ref 66), some (.int p0), some (.int p1)]) (S' := []) 5 (fun P9 h9 => c_M_in (d + 1) p1.toInt64 (0 : Int64) (2 : Int64) σ h9) (fun n h => h) ?_
    refine go_ifn (b := (f_M_in p1.toInt64 (0 : Int64) (2 : Int64))) (k1 := 12) (L1 := [some (.ref 66), some (.int p0), some (.int p1)]) (S1 := []) (σ1 := σ) (k2 := 10) (L2 := [some (.ref 66), some (.int p0), some (.int p1)]) (S2 := []) (σ2 := σ) 1 (fun n h => h) (fun hc2 => ?_) (fun hc2 => ?_)
    · rw [if_pos hc2] at h
      refine go_if (c := p1 ≠ 0) (k1 := 20) (L1 := [some (.ref 66), some (.int p0), some (.int p1)]) (S1 := []) (σ1 := σ) (k2 := 14) (L2 := [some (.ref 66), some (.int p0), some (.int p1)]) (S2 := []) (σ2 := σ) 2 (fun n h => h) (fun hc3 => ?_) (fun hc3 => ?_)
      · rw [if_pos hc3] at h
        refine go_if (c := p1 ≠ (1 : Int32)) (k1 := 28) (L1 := [some (.ref 66), some (.int p0), some (.int p1)]) (S1 := []) (σ1 := σ) (k2 := 23) (L2 := [some (.ref 66), some (.int p0), some (.int p1)]) (S2 := []) (σ2 := σ) 3 (fun n h => h) (fun hc4 => ?_) (fun hc4 => ?_)
        · rw [if_pos hc4] at h
          obtain ⟨hc5, h⟩ := ite_of h
          refine go_q (Q := inb 0 σ 69 p0) (k' := 32) (L' := [some (.ref 66), some (.int p0), some (.int p1)]) (S' := [.int (σ.1 69 p0.toNatClampNeg)]) (σ' := σ) 4 (inb_mk rfl hc5.1 hc5.2) (fun n h => h) ?_
          cases h
          exact go_ret 2 (fun _ => hp)
        · rw [if_neg hc4] at h
          obtain ⟨hc6, h⟩ := ite_of h
          refine go_q (Q := inb 1 σ 68 p0) (k' := 27) (L' := [some (.ref 66), some (.int p0), some (.int p1)]) (S' := [.long (σ.2.1 68 p0.toNatClampNeg)]) (σ' := σ) 4 (inb_mk rfl hc6.1 hc6.2) (fun n h => h) ?_
          cases h
          exact go_ret 2 (fun _ => hp)
      · rw [if_neg hc3] at h
        obtain ⟨hc7, h⟩ := ite_of h
        refine go_q (Q := inb 0 σ 67 p0) (k' := 18) (L' := [some (.ref 66), some (.int p0), some (.int p1)]) (S' := [.int (σ.1 67 p0.toNatClampNeg)]) (σ' := σ) 4 (inb_mk rfl hc7.1 hc7.2) (fun n h => h) ?_
        cases h
        exact go_ret 3 (fun _ => hp)
    · rw [if_neg hc2] at h
      cases h
      exact go_ret 2 (fun _ => hp)
def f_Long_signum (p0 : Int64) : Int32 :=
  ((p0 >>> ((63 : Int32).toInt64 &&& 63)) ||| (lushr (-p0) (63 : Int32))).toInt32
set_option maxRecDepth 20000 in
set_option maxHeartbeats 4000000 in
theorem c_Long_signum (d : Nat) (p0 : Int64) (σ : aSt) {P : Option Value → aSt → Prop} (h : P (some (.int ((f_Long_signum p0)))) σ) : aCall MT (d + 1) 83 [.long p0] σ P := by
  unfold f_Long_signum at h
  refine call_of (code := mc_Long_signum) (L := [some (.long p0), none]) rfl rfl rfl rfl ?_
  exact go_ret 10 (fun _ => h)
def f_M_at_l13 (N : Nat) (σ : aSt) : Nat → Int32 → Int32 → Int32 → Int32 → Option Int32
  | 0, _, _, _, _ => none
  | n + 1, v1, v2, v3, v4 => (if (σ.1 66 9) ≤ v4 then some (-1 : Int32) else (if 0 ≤ v4 ∧ v4 < (120 : Int32) then (if (σ.1 67 v4.toNatClampNeg) ≠ v1 then f_M_at_l13 N σ n v1 v2 v3 (v4 + (1 : Int32)) else (if (σ.1 69 v4.toNatClampNeg) ≠ v2 then f_M_at_l13 N σ n v1 v2 v3 (v4 + (1 : Int32)) else (if (f_Long_signum (σ.2.1 68 v4.toNatClampNeg)) ≠ v3 then f_M_at_l13 N σ n v1 v2 v3 (v4 + (1 : Int32)) else some v4))) else none))
set_option maxRecDepth 20000 in
set_option maxHeartbeats 4000000 in
theorem t_M_at_l13 (d : Nat) {N : Nat} (σ : aSt) {x : Int32} {P : Option Value → aSt → Prop} (hp : P (some (.int x)) σ) : ∀ (n : Nat) (v1 : Int32) (v2 : Int32) (v3 : Int32) (v4 : Int32), f_M_at_l13 N σ n v1 v2 v3 v4 = some x → aGo (aCall MT (d + 1)) P mc_M_at 13 [some (.ref 66), some (.int v1), some (.int v2), some (.int v3), some (.int v4)] [] σ := by
  intro n
  induction n with
  | zero => intro v1 v2 v3 v4 h; cases h
  | succ n ih =>
    intro v1 v2 v3 v4 h
    rw [f_M_at_l13] at h
    refine go_if (c := (σ.1 66 9) ≤ v4) (k1 := 40) (L1 := [some (.ref 66), some (.int v1), some (.int v2), some (.int v3), some (.int v4)]) (S1 := []) (σ1 := σ) (k2 := 17) (L2 := [some (.ref 66), some (.int v1), some (.int v2), some (.int v3), some (.int v4)]) (S2 := []) (σ2 := σ) 4 (fun n h => h) (fun hc3 => ?_) (fun hc3 => ?_)
    · rw [if_pos hc3] at h
      cases h
      exact go_ret 2 (fun _ => hp)
    · rw [if_neg hc3] at h
      obtain ⟨hc4, h⟩ := ite_of h
      refine go_q (Q := inb 0 σ 67 v4) (k' := 21) (L' := [some (.ref 66), some (.int v1), some (.int v2), some (.int v3), some (.int v4)]) (S' := [.int (σ.1 67 v4.toNatClampNeg)]) (σ' := σ) 4 (inb_mk rfl hc4.1 hc4.2) (fun n h => h) ?_
      refine go_if (c := (σ.1 67 v4.toNatClampNeg) ≠ v1) (k1 := 38) (L1 := [some (.ref 66), some (.int v1), some (.int v2), some (.int v3), some (.int v4)]) (S1 := []) (σ1 := σ) (k2 := 23) (L2 := [some (.ref 66), some (.int v1), some (.int v2), some (.int v3), some (.int v4)]) (S2 := []) (σ2 := σ) 2 (fun n h => h) (fun hc5 => ?_) (fun hc5 => ?_)
      · rw [if_pos hc5] at h
        refine go_st (k' := 13) (L' := [some (.ref 66), some (.int v1), some (.int v2), some (.int v3), some (.int (v4 + (1 : Int32)))]) (S' := []) (σ' := σ) 2 (fun n h => h) ?_
        exact ih v1 v2 v3 (v4 + (1 : Int32)) h
      · rw [if_neg hc5] at h
        refine go_q (Q := inb 0 σ 69 v4) (k' := 27) (L' := [some (.ref 66), some (.int v1), some (.int v2), some (.int v3), some (.int v4)]) (S' := [.int (σ.1 69 v4.toNatClampNeg)]) (σ' := σ) 4 (inb_mk rfl hc4.1 hc4.2) (fun n h => h) ?_
        refine go_if (c := (σ.1 69 v4.toNatClampNeg) ≠ v2) (k1 := 38) (L1 := [some (.ref 66), some (.int v1), some (.int v2), some (.int v3), some (.int v4)]) (S1 := []) (σ1 := σ) (k2 := 29) (L2 := [some (.ref 66), some (.int v1), some (.int v2), some (.int v3), some (.int v4)]) (S2 := []) (σ2 := σ) 2 (fun n h => h) (fun hc6 => ?_) (fun hc6 => ?_)
        · rw [if_pos hc6] at h
          refine go_st (k' := 13) (L' := [some (.ref 66), some (.int v1), some (.int v2), some (.int v3), some (.int (v4 + (1 : Int32)))]) (S' := []) (σ' := σ) 2 (fun n h => h) ?_
          exact ih v1 v2 v3 (v4 + (1 : Int32)) h
        · rw [if_neg hc6] at h
          refine go_q (Q := inb 1 σ 68 v4) (k' := 33) (L' := [some (.ref 66), some (.int v1), some (.int v2), some (.int v3), some (.int v4)]) (S' := [.long (σ.2.1 68 v4.toNatClampNeg)]) (σ' := σ) 4 (inb_mk rfl hc4.1 hc4.2) (fun n h => h) ?_
          refine go_call (r := some (.int (f_Long_signum (σ.2.1 68 v4.toNatClampNeg)))) (σc := σ) (σ1 := σ) (mi := 83) (vs := [.long (σ.2.1 68 v4.toNatClampNeg)]) (k' := 34) (L' := [some (.ref 66), some (.int v1), some (.int v2), some (.int v3), some (.int v4)]) (S' := []) 1 (fun P9 h9 => c_Long_signum (d + 0) (σ.2.1 68 v4.toNatClampNeg) σ h9) (fun n h => h) ?_
          refine go_if (c := (f_Long_signum (σ.2.1 68 v4.toNatClampNeg)) ≠ v3) (k1 := 38) (L1 := [some (.ref 66), some (.int v1), some (.int v2), some (.int v3), some (.int v4)]) (S1 := []) (σ1 := σ) (k2 := 36) (L2 := [some (.ref 66), some (.int v1), some (.int v2), some (.int v3), some (.int v4)]) (S2 := []) (σ2 := σ) 2 (fun n h => h) (fun hc7 => ?_) (fun hc7 => ?_)
          · rw [if_pos hc7] at h
            refine go_st (k' := 13) (L' := [some (.ref 66), some (.int v1), some (.int v2), some (.int v3), some (.int (v4 + (1 : Int32)))]) (S' := []) (σ' := σ) 2 (fun n h => h) ?_
            exact ih v1 v2 v3 (v4 + (1 : Int32)) h
          · rw [if_neg hc7] at h
            cases h
            exact go_ret 2 (fun _ => hp)
def f_M_at (N : Nat) (p0 : Int32) (p1 : Int32) (p2 : Int32) (σ : aSt) : Option Int32 :=
  (if (σ.2.2 66 1) = true then (if (f_M_in p2.toInt64 (-1 : Int64) (1 : Int64)) = true then f_M_at_l13 N σ N p0 p1 p2 (0 : Int32) else some (-2 : Int32)) else some (-2 : Int32))
set_option maxRecDepth 20000 in
set_option maxHeartbeats 4000000 in
theorem c_M_at (d : Nat) {N : Nat} (p0 : Int32) (p1 : Int32) (p2 : Int32) (σ : aSt) {P : Option Value → aSt → Prop} {x : Int32} (h : f_M_at N p0 p1 p2 σ = some x) (hp : P (some (.int x)) σ) : aCall MT (d + 2) 84 [.ref 66, .int p0, .int p1, .int p2] σ P := by
  unfold f_M_at at h
  refine call_of (code := mc_M_at) (L := [some (.ref 66), some (.int p0), some (.int p1), some (.int p2), none]) rfl rfl rfl rfl ?_
  refine go_ifz (b := (σ.2.2 66 1)) (k1 := 9) (L1 := [some (.ref 66), some (.int p0), some (.int p1), some (.int p2), none]) (S1 := []) (σ1 := σ) (k2 := 3) (L2 := [some (.ref 66), some (.int p0), some (.int p1), some (.int p2), none]) (S2 := []) (σ2 := σ) 3 (fun n h => h) (fun hc1 => ?_) (fun hc1 => ?_)
  · rw [if_neg hc1] at h
    cases h
    exact go_ret 2 (fun _ => hp)
  · rw [if_pos hc1] at h
    refine go_call (r := some (.int (b2i (f_M_in p2.toInt64 (-1 : Int64) (1 : Int64))))) (σc := σ) (σ1 := σ) (mi := 7) (vs := [.long p2.toInt64, .long (-1 : Int64), .long (1 : Int64)]) (k' := 8) (L' := [some (.ref 66), some (.int p0), some (.int p1), some (.int p2), none]) (S' := []) 5 (fun P9 h9 => c_M_in (d + 0) p2.toInt64 (-1 : Int64) (1 : Int64) σ h9) (fun n h => h) ?_
    refine go_ifn (b := (f_M_in p2.toInt64 (-1 : Int64) (1 : Int64))) (k1 := 11) (L1 := [some (.ref 66), some (.int p0), some (.int p1), some (.int p2), none]) (S1 := []) (σ1 := σ) (k2 := 9) (L2 := [some (.ref 66), some (.int p0), some (.int p1), some (.int p2), none]) (S2 := []) (σ2 := σ) 1 (fun n h => h) (fun hc2 => ?_) (fun hc2 => ?_)
    · rw [if_pos hc2] at h
      refine go_st (k' := 13) (L' := [some (.ref 66), some (.int p0), some (.int p1), some (.int p2), some (.int (0 : Int32))]) (S' := []) (σ' := σ) 2 (fun n h => h) ?_
      exact t_M_at_l13 d σ hp N p0 p1 p2 (0 : Int32) h
    · rw [if_neg hc2] at h
      cases h
      exact go_ret 2 (fun _ => hp)
def f_M_isPoint (p0 : Int32) (σ : aSt) : Bool :=
  (if (f_M_isListed p0 σ) = true then true else (if (σ.2.2 66 1) = true then (if p0 ≠ (1000 : Int32) then false else true) else false))
set_option maxRecDepth 20000 in
set_option maxHeartbeats 4000000 in
theorem c_M_isPoint (d : Nat) (p0 : Int32) (σ : aSt) {P : Option Value → aSt → Prop} (h : P (some (.int (b2i ((f_M_isPoint p0 σ))))) σ) : aCall MT (d + 3) 90 [.ref 66, .int p0] σ P := by
  unfold f_M_isPoint at h
  refine call_of (code := mc_M_isPoint) (L := [some (.ref 66), some (.int p0)]) rfl rfl rfl rfl ?_
  refine go_call (r := some (.int (b2i (f_M_isListed p0 σ)))) (σc := σ) (σ1 := σ) (mi := 79) (vs := [.ref 66, .int p0]) (k' := 3) (L' := [some (.ref 66), some (.int p0)]) (S' := []) 3 (fun P9 h9 => c_M_isListed (d + 0) p0 σ h9) (fun n h => h) ?_
  refine go_ifn (b := (f_M_isListed p0 σ)) (k1 := 10) (L1 := [some (.ref 66), some (.int p0)]) (S1 := []) (σ1 := σ) (k2 := 4) (L2 := [some (.ref 66), some (.int p0)]) (S2 := []) (σ2 := σ) 1 (fun n h => h) (fun hc1 => ?_) (fun hc1 => ?_)
  · rw [if_pos hc1] at h
    exact go_ret 3 (fun _ => And.intro (Or.inr rfl) h)
  · rw [if_neg hc1] at h
    refine go_ifz (b := (σ.2.2 66 1)) (k1 := 12) (L1 := [some (.ref 66), some (.int p0)]) (S1 := []) (σ1 := σ) (k2 := 7) (L2 := [some (.ref 66), some (.int p0)]) (S2 := []) (σ2 := σ) 3 (fun n h => h) (fun hc2 => ?_) (fun hc2 => ?_)
    · rw [if_neg hc2] at h
      exact go_ret 2 (fun _ => And.intro (Or.inl rfl) h)
    · rw [if_pos hc2] at h
      refine go_if (c := p0 ≠ (1000 : Int32)) (k1 := 12) (L1 := [some (.ref 66), some (.int p0)]) (S1 := []) (σ1 := σ) (k2 := 10) (L2 := [some (.ref 66), some (.int p0)]) (S2 := []) (σ2 := σ) 3 (fun n h => h) (fun hc3 => ?_) (fun hc3 => ?_)
      · rw [if_pos hc3] at h
        exact go_ret 2 (fun _ => And.intro (Or.inl rfl) h)
      · rw [if_neg hc3] at h
        exact go_ret 3 (fun _ => And.intro (Or.inr rfl) h)
def f_M_find_l2 (N : Nat) (σ : aSt) : Nat → Int64 → Int64 → Int64 → Int32 → Option Int32
  | 0, _, _, _, _ => none
  | n + 1, v1, v3, v5, v7 => (if (σ.1 66 9) ≤ v7 then some (-6 : Int32) else (if 0 ≤ v7 ∧ v7 < (120 : Int32) then (if (σ.1 67 v7.toNatClampNeg).toInt64 ≠ v1 then f_M_find_l2 N σ n v1 v3 v5 (v7 + (1 : Int32)) else (if (σ.1 69 v7.toNatClampNeg).toInt64 ≠ v3 then f_M_find_l2 N σ n v1 v3 v5 (v7 + (1 : Int32)) else (if (σ.2.1 68 v7.toNatClampNeg) ≠ v5 then f_M_find_l2 N σ n v1 v3 v5 (v7 + (1 : Int32)) else some v7))) else none))
set_option maxRecDepth 20000 in
set_option maxHeartbeats 4000000 in
theorem t_M_find_l2 (d : Nat) {N : Nat} (σ : aSt) {x : Int32} {P : Option Value → aSt → Prop} (hp : P (some (.int x)) σ) : ∀ (n : Nat) (v1 : Int64) (v3 : Int64) (v5 : Int64) (v7 : Int32), f_M_find_l2 N σ n v1 v3 v5 v7 = some x → aGo (aCall MT (d + 0)) P mc_M_find 2 [some (.ref 66), some (.long v1), none, some (.long v3), none, some (.long v5), none, some (.int v7)] [] σ := by
  intro n
  induction n with
  | zero => intro v1 v3 v5 v7 h; cases h
  | succ n ih =>
    intro v1 v3 v5 v7 h
    rw [f_M_find_l2] at h
    refine go_if (c := (σ.1 66 9) ≤ v7) (k1 := 33) (L1 := [some (.ref 66), some (.long v1), none, some (.long v3), none, some (.long v5), none, some (.int v7)]) (S1 := []) (σ1 := σ) (k2 := 6) (L2 := [some (.ref 66), some (.long v1), none, some (.long v3), none, some (.long v5), none, some (.int v7)]) (S2 := []) (σ2 := σ) 4 (fun n h => h) (fun hc1 => ?_) (fun hc1 => ?_)
    · rw [if_pos hc1] at h
      cases h
      exact go_ret 2 (fun _ => hp)
    · rw [if_neg hc1] at h
      obtain ⟨hc2, h⟩ := ite_of h
      refine go_q (Q := inb 0 σ 67 v7) (k' := 10) (L' := [some (.ref 66), some (.long v1), none, some (.long v3), none, some (.long v5), none, some (.int v7)]) (S' := [.int (σ.1 67 v7.toNatClampNeg)]) (σ' := σ) 4 (inb_mk rfl hc2.1 hc2.2) (fun n h => h) ?_
      refine go_iff (lcmp_ne (σ.1 67 v7.toNatClampNeg).toInt64 v1) (k1 := 31) (L1 := [some (.ref 66), some (.long v1), none, some (.long v3), none, some (.long v5), none, some (.int v7)]) (S1 := []) (σ1 := σ) (k2 := 14) (L2 := [some (.ref 66), some (.long v1), none, some (.long v3), none, some (.long v5), none, some (.int v7)]) (S2 := []) (σ2 := σ) 4 (fun n h => h) (fun hc3 => ?_) (fun hc3 => ?_)
      · rw [if_pos hc3] at h
        refine go_st (k' := 2) (L' := [some (.ref 66), some (.long v1), none, some (.long v3), none, some (.long v5), none, some (.int (v7 + (1 : Int32)))]) (S' := []) (σ' := σ) 2 (fun n h => h) ?_
        exact ih v1 v3 v5 (v7 + (1 : Int32)) h
      · rw [if_neg hc3] at h
        refine go_q (Q := inb 0 σ 69 v7) (k' := 18) (L' := [some (.ref 66), some (.long v1), none, some (.long v3), none, some (.long v5), none, some (.int v7)]) (S' := [.int (σ.1 69 v7.toNatClampNeg)]) (σ' := σ) 4 (inb_mk rfl hc2.1 hc2.2) (fun n h => h) ?_
        refine go_iff (lcmp_ne (σ.1 69 v7.toNatClampNeg).toInt64 v3) (k1 := 31) (L1 := [some (.ref 66), some (.long v1), none, some (.long v3), none, some (.long v5), none, some (.int v7)]) (S1 := []) (σ1 := σ) (k2 := 22) (L2 := [some (.ref 66), some (.long v1), none, some (.long v3), none, some (.long v5), none, some (.int v7)]) (S2 := []) (σ2 := σ) 4 (fun n h => h) (fun hc4 => ?_) (fun hc4 => ?_)
        · rw [if_pos hc4] at h
          refine go_st (k' := 2) (L' := [some (.ref 66), some (.long v1), none, some (.long v3), none, some (.long v5), none, some (.int (v7 + (1 : Int32)))]) (S' := []) (σ' := σ) 2 (fun n h => h) ?_
          exact ih v1 v3 v5 (v7 + (1 : Int32)) h
        · rw [if_neg hc4] at h
          refine go_q (Q := inb 1 σ 68 v7) (k' := 26) (L' := [some (.ref 66), some (.long v1), none, some (.long v3), none, some (.long v5), none, some (.int v7)]) (S' := [.long (σ.2.1 68 v7.toNatClampNeg)]) (σ' := σ) 4 (inb_mk rfl hc2.1 hc2.2) (fun n h => h) ?_
          refine go_iff (lcmp_ne (σ.2.1 68 v7.toNatClampNeg) v5) (k1 := 31) (L1 := [some (.ref 66), some (.long v1), none, some (.long v3), none, some (.long v5), none, some (.int v7)]) (S1 := []) (σ1 := σ) (k2 := 29) (L2 := [some (.ref 66), some (.long v1), none, some (.long v3), none, some (.long v5), none, some (.int v7)]) (S2 := []) (σ2 := σ) 3 (fun n h => h) (fun hc5 => ?_) (fun hc5 => ?_)
          · rw [if_pos hc5] at h
            refine go_st (k' := 2) (L' := [some (.ref 66), some (.long v1), none, some (.long v3), none, some (.long v5), none, some (.int (v7 + (1 : Int32)))]) (S' := []) (σ' := σ) 2 (fun n h => h) ?_
            exact ih v1 v3 v5 (v7 + (1 : Int32)) h
          · rw [if_neg hc5] at h
            cases h
            exact go_ret 2 (fun _ => hp)
def f_M_find (N : Nat) (p0 : Int64) (p1 : Int64) (p2 : Int64) (σ : aSt) : Option Int32 :=
  f_M_find_l2 N σ N p0 p1 p2 (0 : Int32)
set_option maxRecDepth 20000 in
set_option maxHeartbeats 4000000 in
theorem c_M_find (d : Nat) {N : Nat} (p0 : Int64) (p1 : Int64) (p2 : Int64) (σ : aSt) {P : Option Value → aSt → Prop} {x : Int32} (h : f_M_find N p0 p1 p2 σ = some x) (hp : P (some (.int x)) σ) : aCall MT (d + 1) 91 [.ref 66, .long p0, .long p1, .long p2] σ P := by
  unfold f_M_find at h
  refine call_of (code := mc_M_find) (L := [some (.ref 66), some (.long p0), none, some (.long p1), none, some (.long p2), none, none]) rfl rfl rfl rfl ?_
  refine go_st (k' := 2) (L' := [some (.ref 66), some (.long p0), none, some (.long p1), none, some (.long p2), none, some (.int (0 : Int32))]) (S' := []) (σ' := σ) 2 (fun n h => h) ?_
  exact t_M_find_l2 d σ hp N p0 p1 p2 (0 : Int32) h
def f_M_turnedOf (N : Nat) (p0 : Int32) (σ : aSt) : Option Int32 :=
  (if p0 ≠ (1000 : Int32) then (if 0 ≤ p0 ∧ p0 < (120 : Int32) then ((f_M_find N (σ.1 67 p0.toNatClampNeg).toInt64 (σ.1 69 p0.toNatClampNeg).toInt64 (-(σ.2.1 68 p0.toNatClampNeg)) σ).bind fun x3 => some x3) else none) else some (1000 : Int32))
set_option maxRecDepth 20000 in
set_option maxHeartbeats 4000000 in
theorem c_M_turnedOf (d : Nat) {N : Nat} (p0 : Int32) (σ : aSt) {P : Option Value → aSt → Prop} {x : Int32} (h : f_M_turnedOf N p0 σ = some x) (hp : P (some (.int x)) σ) : aCall MT (d + 2) 92 [.ref 66, .int p0] σ P := by
  unfold f_M_turnedOf at h
  refine call_of (code := mc_M_turnedOf) (L := [some (.ref 66), some (.int p0)]) rfl rfl rfl rfl ?_
  refine go_if (c := p0 ≠ (1000 : Int32)) (k1 := 5) (L1 := [some (.ref 66), some (.int p0)]) (S1 := []) (σ1 := σ) (k2 := 3) (L2 := [some (.ref 66), some (.int p0)]) (S2 := []) (σ2 := σ) 3 (fun n h => h) (fun hc1 => ?_) (fun hc1 => ?_)
  · rw [if_pos hc1] at h
    obtain ⟨hc2, h⟩ := ite_of h
    refine go_q (Q := inb 0 σ 67 p0) (k' := 10) (L' := [some (.ref 66), some (.int p0)]) (S' := [.int (σ.1 67 p0.toNatClampNeg), .ref 66]) (σ' := σ) 5 (inb_mk rfl hc2.1 hc2.2) (fun n h => h) ?_
    refine go_q (Q := inb 0 σ 69 p0) (k' := 15) (L' := [some (.ref 66), some (.int p0)]) (S' := [.int (σ.1 69 p0.toNatClampNeg), .long (σ.1 67 p0.toNatClampNeg).toInt64, .ref 66]) (σ' := σ) 5 (inb_mk rfl hc2.1 hc2.2) (fun n h => h) ?_
    refine go_q (Q := inb 1 σ 68 p0) (k' := 20) (L' := [some (.ref 66), some (.int p0)]) (S' := [.long (σ.2.1 68 p0.toNatClampNeg), .long (σ.1 69 p0.toNatClampNeg).toInt64, .long (σ.1 67 p0.toNatClampNeg).toInt64, .ref 66]) (σ' := σ) 5 (inb_mk rfl hc2.1 hc2.2) (fun n h => h) ?_
    obtain ⟨x3, hx3, h⟩ := bind_of h
    refine go_call (r := some (.int x3)) (σc := σ) (σ1 := σ) (mi := 91) (vs := [.ref 66, .long (σ.1 67 p0.toNatClampNeg).toInt64, .long (σ.1 69 p0.toNatClampNeg).toInt64, .long (-(σ.2.1 68 p0.toNatClampNeg))]) (k' := 22) (L' := [some (.ref 66), some (.int p0)]) (S' := []) 2 (fun P9 h9 => c_M_find (d + 0) (σ.1 67 p0.toNatClampNeg).toInt64 (σ.1 69 p0.toNatClampNeg).toInt64 (-(σ.2.1 68 p0.toNatClampNeg)) σ hx3 h9) (fun n h => h) ?_
    cases h
    exact go_ret 1 (fun _ => hp)
  · rw [if_neg hc1] at h
    cases h
    exact go_ret 3 (fun _ => hp)
def f_M_turned (N : Nat) (p0 : Int32) (σ : aSt) : Option Int32 :=
  (if (f_M_isPoint p0 σ) = true then ((f_M_turnedOf N p0 σ).bind fun x2 => some x2) else some (-2 : Int32))
set_option maxRecDepth 20000 in
set_option maxHeartbeats 4000000 in
theorem c_M_turned (d : Nat) {N : Nat} (p0 : Int32) (σ : aSt) {P : Option Value → aSt → Prop} {x : Int32} (h : f_M_turned N p0 σ = some x) (hp : P (some (.int x)) σ) : aCall MT (d + 4) 93 [.ref 66, .int p0] σ P := by
  unfold f_M_turned at h
  refine call_of (code := mc_M_turned) (L := [some (.ref 66), some (.int p0)]) rfl rfl rfl rfl ?_
  refine go_call (r := some (.int (b2i (f_M_isPoint p0 σ)))) (σc := σ) (σ1 := σ) (mi := 90) (vs := [.ref 66, .int p0]) (k' := 3) (L' := [some (.ref 66), some (.int p0)]) (S' := []) 3 (fun P9 h9 => c_M_isPoint (d + 0) p0 σ h9) (fun n h => h) ?_
  refine go_ifz (b := (f_M_isPoint p0 σ)) (k1 := 8) (L1 := [some (.ref 66), some (.int p0)]) (S1 := []) (σ1 := σ) (k2 := 4) (L2 := [some (.ref 66), some (.int p0)]) (S2 := []) (σ2 := σ) 1 (fun n h => h) (fun hc1 => ?_) (fun hc1 => ?_)
  · rw [if_neg hc1] at h
    cases h
    exact go_ret 2 (fun _ => hp)
  · rw [if_pos hc1] at h
    obtain ⟨x2, hx2, h⟩ := bind_of h
    refine go_call (r := some (.int x2)) (σc := σ) (σ1 := σ) (mi := 92) (vs := [.ref 66, .int p0]) (k' := 7) (L' := [some (.ref 66), some (.int p0)]) (S' := []) 3 (fun P9 h9 => c_M_turnedOf (d + 1) p0 σ hx2 h9) (fun n h => h) ?_
    cases h
    exact go_ret 2 (fun _ => hp)
def f_M_lowers (N : Nat) (p0 : Int64) (p1 : Int64) (σ : aSt) : Option aSt :=
  ((f_M_common N p0 p1).bind fun x1 => (if (0 : Int64) ≤ p1 then (if ¬ x1 = 0 then some (s_l (s_l σ 66 23 (p0 / x1)) 66 24 ((labs p1) / x1)) else none) else (if ¬ x1 = 0 then some (s_l (s_l σ 66 23 ((-p0) / x1)) 66 24 ((labs p1) / x1)) else none)))
set_option maxRecDepth 20000 in
set_option maxHeartbeats 4000000 in
theorem c_M_lowers (d : Nat) {N : Nat} (p0 : Int64) (p1 : Int64) (σ : aSt) {P : Option Value → aSt → Prop} {x : aSt} (h : f_M_lowers N p0 p1 σ = some x) (hp : P none x) : aCall MT (d + 2) 103 [.ref 66, .long p0, .long p1] σ P := by
  unfold f_M_lowers at h
  refine call_of (code := mc_M_lowers) (L := [some (.ref 66), some (.long p0), none, some (.long p1), none, none, none]) rfl rfl rfl rfl ?_
  obtain ⟨x1, hx1, h⟩ := bind_of h
  refine go_call (r := some (.long x1)) (σc := σ) (σ1 := σ) (mi := 57) (vs := [.long p0, .long p1]) (k' := 3) (L' := [some (.ref 66), some (.long p0), none, some (.long p1), none, none, none]) (S' := []) 3 (fun P9 h9 => c_M_common (d + 0) p0 p1 σ hx1 h9) (fun n h => h) ?_
  refine go_iff (lcmp_ge p1 (0 : Int64)) (k1 := 14) (L1 := [some (.ref 66), some (.long p0), none, some (.long p1), none, some (.long x1), none]) (S1 := [.ref 66]) (σ1 := σ) (k2 := 9) (L2 := [some (.ref 66), some (.long p0), none, some (.long p1), none, some (.long x1), none]) (S2 := [.ref 66]) (σ2 := σ) 6 (fun n h => h) (fun hc2 => ?_) (fun hc2 => ?_)
  · rw [if_pos hc2] at h
    obtain ⟨hc3, h⟩ := ite_of h
    refine go_q (Q := ¬ x1 = 0) (k' := 17) (L' := [some (.ref 66), some (.long p0), none, some (.long p1), none, some (.long x1), none]) (S' := [.long (p0 / x1), .ref 66]) (σ' := σ) 3 hc3 (fun n h => h) ?_
    refine go_q (Q := ¬ x1 = 0) (k' := 23) (L' := [some (.ref 66), some (.long p0), none, some (.long p1), none, some (.long x1), none]) (S' := [.long ((labs p1) / x1), .ref 66]) (σ' := (s_l σ 66 23 (p0 / x1))) 6 (hc3) (fun n h => h) ?_
    cases h
    exact go_ret 2 (fun _ => hp)
  · rw [if_neg hc2] at h
    obtain ⟨hc4, h⟩ := ite_of h
    refine go_q (Q := ¬ x1 = 0) (k' := 13) (L' := [some (.ref 66), some (.long p0), none, some (.long p1), none, some (.long x1), none]) (S' := [.long ((-p0) / x1), .ref 66]) (σ' := σ) 4 hc4 (fun n h => h) ?_
    refine go_q (Q := ¬ x1 = 0) (k' := 23) (L' := [some (.ref 66), some (.long p0), none, some (.long p1), none, some (.long x1), none]) (S' := [.long ((labs p1) / x1), .ref 66]) (σ' := (s_l σ 66 23 ((-p0) / x1))) 7 (hc4) (fun n h => h) ?_
    cases h
    exact go_ret 2 (fun _ => hp)
def f_M_joins_b216 (N : Nat) (v4 : Int64) (v6 : Int64) (v8 : Int64) (v14 : Int64) (v16 : Int32) (v17 : Int64) (v19 : Int64) (σ : aSt) : Option aSt :=
  ((f_M_root N (σ.2.1 66 24)).bind fun x11 => (if (x11 * x11) ≠ (σ.2.1 66 24) then some (s_i σ 66 26 (-6 : Int32)) else (if (σ.1 66 5).toInt64 < x11 then some (s_i σ 66 26 (-6 : Int32)) else (if (labs (σ.2.1 66 23)) ≤ (σ.1 66 4).toInt64 then (if v16 = 0 then (if ¬ ((((v8 * v8) * v8) * v14) * v19) = 0 then ((f_M_find N (σ.2.1 66 23) x11 ((((v17 * (((v4 * x11) * x11) - (((σ.2.1 66 23) * v8) * v8))) - ((((v6 * v14) * v19) * x11) * x11)) * x11) / ((((v8 * v8) * v8) * v14) * v19)) (s_l (s_i σ 66 26 (-6 : Int32)) 66 27 ((((v17 * (((v4 * x11) * x11) - (((σ.2.1 66 23) * v8) * v8))) - ((((v6 * v14) * v19) * x11) * x11)) * x11) / ((((v8 * v8) * v8) * v14) * v19)))).bind fun x17 => some (s_i (s_l (s_i σ 66 26 (-6 : Int32)) 66 27 ((((v17 * (((v4 * x11) * x11) - (((σ.2.1 66 23) * v8) * v8))) - ((((v6 * v14) * v19) * x11) * x11)) * x11) / ((((v8 * v8) * v8) * v14) * v19))) 66 26 x17)) else none) else (if ¬ (((((2 : Int64) * v6) * v8) * v8) * v8) = 0 then ((f_M_find N (σ.2.1 66 23) x11 ((((v17 * (((v4 * x11) * x11) - (((σ.2.1 66 23) * v8) * v8))) - (((((2 : Int64) * v6) * v6) * x11) * x11)) * x11) / (((((2 : Int64) * v6) * v8) * v8) * v8)) (s_l (s_i σ 66 26 (-6 : Int32)) 66 27 ((((v17 * (((v4 * x11) * x11) - (((σ.2.1 66 23) * v8) * v8))) - (((((2 : Int64) * v6) * v6) * x11) * x11)) * x11) / (((((2 : Int64) * v6) * v8) * v8) * v8)))).bind fun x19 => some (s_i (s_l (s_i σ 66 26 (-6 : Int32)) 66 27 ((((v17 * (((v4 * x11) * x11) - (((σ.2.1 66 23) * v8) * v8))) - (((((2 : Int64) * v6) * v6) * x11) * x11)) * x11) / (((((2 : Int64) * v6) * v8) * v8) * v8))) 66 26 x19)) else none)) else some (s_i σ 66 26 (-6 : Int32))))))
set_option maxRecDepth 20000 in
set_option maxHeartbeats 4000000 in
theorem t_M_joins_b216 (d : Nat) {N : Nat} (d1 d2 d3 d10 d11 d12 d13 d21 d22 d23 d24 d25 d26 : Option Value) (v4 : Int64) (v6 : Int64) (v8 : Int64) (v14 : Int64) (v16 : Int32) (v17 : Int64) (v19 : Int64) (σ : aSt) {P : Option Value → aSt → Prop} {x : aSt} (h : f_M_joins_b216 N v4 v6 v8 v14 v16 v17 v19 σ = some x) (hp : P none x) : aGo (aCall MT (d + 2)) P mc_M_joins 216 [some (.ref 66), d1, d2, d3, some (.long v4), none, some (.long v6), none, some (.long v8), none, d10, d11, d12, d13, some (.long v14), none, some (.int v16), some (.long v17), none, some (.long v19), none, d21, d22, d23, d24, d25, d26] [] σ := by
  unfold f_M_joins_b216 at h
  obtain ⟨x11, hx11, h⟩ := bind_of h
  refine go_call (r := some (.long x11)) (σc := σ) (σ1 := σ) (mi := 58) (vs := [.long (σ.2.1 66 24)]) (k' := 219) (L' := [some (.ref 66), d1, d2, d3, some (.long v4), none, some (.long v6), none, some (.long v8), none, d10, d11, d12, d13, some (.long v14), none, some (.int v16), some (.long v17), none, some (.long v19), none, d21, d22, d23, d24, d25, d26]) (S' := []) 3 (fun P9 h9 => c_M_root (d + 1) (σ.2.1 66 24) σ hx11 h9) (fun n h => h) ?_
  refine go_iff (lcmp_ne (x11 * x11) (σ.2.1 66 24)) (k1 := 244) (L1 := [some (.ref 66), d1, d2, d3, some (.long v4), none, some (.long v6), none, some (.long v8), none, d10, d11, d12, d13, some (.long v14), none, some (.int v16), some (.long v17), none, some (.long v19), none, d21, none, some (.long x11), none, d25, d26]) (S1 := []) (σ1 := (s_i σ 66 26 (-6 : Int32))) (k2 := 230) (L2 := [some (.ref 66), d1, d2, d3, some (.long v4), none, some (.long v6), none, some (.long v8), none, d10, d11, d12, d13, some (.long v14), none, some (.int v16), some (.long v17), none, some (.long v19), none, d21, none, some (.long x11), none, d25, d26]) (S2 := []) (σ2 := (s_i σ 66 26 (-6 : Int32))) 11 (fun n h => h) (fun hc12 => ?_) (fun hc12 => ?_)
  · rw [if_pos hc12] at h
    cases h
    exact go_ret 1 (fun _ => hp)
  · rw [if_neg hc12] at h
    refine go_iff (lcmp_gt x11 (σ.1 66 5).toInt64) (k1 := 244) (L1 := [some (.ref 66), d1, d2, d3, some (.long v4), none, some (.long v6), none, some (.long v8), none, d10, d11, d12, d13, some (.long v14), none, some (.int v16), some (.long v17), none, some (.long v19), none, d21, none, some (.long x11), none, d25, d26]) (S1 := []) (σ1 := (s_i σ 66 26 (-6 : Int32))) (k2 := 236) (L2 := [some (.ref 66), d1, d2, d3, some (.long v4), none, some (.long v6), none, some (.long v8), none, d10, d11, d12, d13, some (.long v14), none, some (.int v16), some (.long v17), none, some (.long v19), none, d21, none, some (.long x11), none, d25, d26]) (S2 := []) (σ2 := (s_i σ 66 26 (-6 : Int32))) 6 (fun n h => h) (fun hc13 => ?_) (fun hc13 => ?_)
    · rw [if_pos hc13] at h
      cases h
      exact go_ret 1 (fun _ => hp)
    · rw [if_neg hc13] at h
      refine go_iff (lcmp_le (labs (σ.2.1 66 23)) (σ.1 66 4).toInt64) (k1 := 245) (L1 := [some (.ref 66), d1, d2, d3, some (.long v4), none, some (.long v6), none, some (.long v8), none, d10, d11, d12, d13, some (.long v14), none, some (.int v16), some (.long v17), none, some (.long v19), none, d21, none, some (.long x11), none, d25, d26]) (S1 := []) (σ1 := (s_i σ 66 26 (-6 : Int32))) (k2 := 244) (L2 := [some (.ref 66), d1, d2, d3, some (.long v4), none, some (.long v6), none, some (.long v8), none, d10, d11, d12, d13, some (.long v14), none, some (.int v16), some (.long v17), none, some (.long v19), none, d21, none, some (.long x11), none, d25, d26]) (S2 := []) (σ2 := (s_i σ 66 26 (-6 : Int32))) 8 (fun n h => h) (fun hc14 => ?_) (fun hc14 => ?_)
      · rw [if_pos hc14] at h
        refine go_if (c := v16 = 0) (k1 := 284) (L1 := [some (.ref 66), d1, d2, d3, some (.long v4), none, some (.long v6), none, some (.long v8), none, d10, d11, d12, d13, some (.long v14), none, some (.int v16), some (.long v17), none, some (.long v19), none, d21, none, some (.long x11), none, d25, d26]) (S1 := []) (σ1 := (s_i σ 66 26 (-6 : Int32))) (k2 := 247) (L2 := [some (.ref 66), d1, d2, d3, some (.long v4), none, some (.long v6), none, some (.long v8), none, d10, d11, d12, d13, some (.long v14), none, some (.int v16), some (.long v17), none, some (.long v19), none, d21, none, some (.long x11), none, d25, d26]) (S2 := []) (σ2 := (s_i σ 66 26 (-6 : Int32))) 2 (fun n h => h) (fun hc15 => ?_) (fun hc15 => ?_)
        · rw [if_pos hc15] at h
          obtain ⟨hc16, h⟩ := ite_of h
          refine go_q (Q := ¬ ((((v8 * v8) * v8) * v14) * v19) = 0) (k' := 320) (L' := [some (.ref 66), d1, d2, d3, some (.long v4), none, some (.long v6), none, some (.long v8), none, d10, d11, d12, d13, some (.long v14), none, some (.int v16), some (.long v17), none, some (.long v19), none, d21, none, some (.long x11), none, d25, d26]) (S' := [.long ((((v17 * (((v4 * x11) * x11) - (((σ.2.1 66 23) * v8) * v8))) - ((((v6 * v14) * v19) * x11) * x11)) * x11) / ((((v8 * v8) * v8) * v14) * v19))]) (σ' := (s_i σ 66 26 (-6 : Int32))) 36 hc16 (fun n h => h) ?_
          obtain ⟨x17, hx17, h⟩ := bind_of h
          refine go_call (r := some (.int x17)) (σc := (s_l (s_i σ 66 26 (-6 : Int32)) 66 27 ((((v17 * (((v4 * x11) * x11) - (((σ.2.1 66 23) * v8) * v8))) - ((((v6 * v14) * v19) * x11) * x11)) * x11) / ((((v8 * v8) * v8) * v14) * v19)))) (σ1 := (s_l (s_i σ 66 26 (-6 : Int32)) 66 27 ((((v17 * (((v4 * x11) * x11) - (((σ.2.1 66 23) * v8) * v8))) - ((((v6 * v14) * v19) * x11) * x11)) * x11) / ((((v8 * v8) * v8) * v14) * v19)))) (mi := 91) (vs := [.ref 66, .long (σ.2.1 66 23), .long x11, .long ((((v17 * (((v4 * x11) * x11) - (((σ.2.1 66 23) * v8) * v8))) - ((((v6 * v14) * v19) * x11) * x11)) * x11) / ((((v8 * v8) * v8) * v14) * v19))]) (k' := 331) (L' := [some (.ref 66), d1, d2, d3, some (.long v4), none, some (.long v6), none, some (.long v8), none, d10, d11, d12, d13, some (.long v14), none, some (.int v16), some (.long v17), none, some (.long v19), none, d21, none, some (.long x11), none, some (.long ((((v17 * (((v4 * x11) * x11) - (((σ.2.1 66 23) * v8) * v8))) - ((((v6 * v14) * v19) * x11) * x11)) * x11) / ((((v8 * v8) * v8) * v14) * v19))), none]) (S' := [.ref 66]) 11 (fun P9 h9 => c_M_find (d + 1) (σ.2.1 66 23) x11 ((((v17 * (((v4 * x11) * x11) - (((σ.2.1 66 23) * v8) * v8))) - ((((v6 * v14) * v19) * x11) * x11)) * x11) / ((((v8 * v8) * v8) * v14) * v19)) (s_l (s_i σ 66 26 (-6 : Int32)) 66 27 ((((v17 * (((v4 * x11) * x11) - (((σ.2.1 66 23) * v8) * v8))) - ((((v6 * v14) * v19) * x11) * x11)) * x11) / ((((v8 * v8) * v8) * v14) * v19))) hx17 h9) (fun n h => h) ?_
          cases h
          exact go_ret 2 (fun _ => hp)
        · rw [if_neg hc15] at h
          obtain ⟨hc18, h⟩ := ite_of h
          refine go_q (Q := ¬ (((((2 : Int64) * v6) * v8) * v8) * v8) = 0) (k' := 283) (L' := [some (.ref 66), d1, d2, d3, some (.long v4), none, some (.long v6), none, some (.long v8), none, d10, d11, d12, d13, some (.long v14), none, some (.int v16), some (.long v17), none, some (.long v19), none, d21, none, some (.long x11), none, d25, d26]) (S' := [.long ((((v17 * (((v4 * x11) * x11) - (((σ.2.1 66 23) * v8) * v8))) - (((((2 : Int64) * v6) * v6) * x11) * x11)) * x11) / (((((2 : Int64) * v6) * v8) * v8) * v8))]) (σ' := (s_i σ 66 26 (-6 : Int32))) 36 hc18 (fun n h => h) ?_
          obtain ⟨x19, hx19, h⟩ := bind_of h
          refine go_call (r := some (.int x19)) (σc := (s_l (s_i σ 66 26 (-6 : Int32)) 66 27 ((((v17 * (((v4 * x11) * x11) - (((σ.2.1 66 23) * v8) * v8))) - (((((2 : Int64) * v6) * v6) * x11) * x11)) * x11) / (((((2 : Int64) * v6) * v8) * v8) * v8)))) (σ1 := (s_l (s_i σ 66 26 (-6 : Int32)) 66 27 ((((v17 * (((v4 * x11) * x11) - (((σ.2.1 66 23) * v8) * v8))) - (((((2 : Int64) * v6) * v6) * x11) * x11)) * x11) / (((((2 : Int64) * v6) * v8) * v8) * v8)))) (mi := 91) (vs := [.ref 66, .long (σ.2.1 66 23), .long x11, .long ((((v17 * (((v4 * x11) * x11) - (((σ.2.1 66 23) * v8) * v8))) - (((((2 : Int64) * v6) * v6) * x11) * x11)) * x11) / (((((2 : Int64) * v6) * v8) * v8) * v8))]) (k' := 331) (L' := [some (.ref 66), d1, d2, d3, some (.long v4), none, some (.long v6), none, some (.long v8), none, d10, d11, d12, d13, some (.long v14), none, some (.int v16), some (.long v17), none, some (.long v19), none, d21, none, some (.long x11), none, some (.long ((((v17 * (((v4 * x11) * x11) - (((σ.2.1 66 23) * v8) * v8))) - (((((2 : Int64) * v6) * v6) * x11) * x11)) * x11) / (((((2 : Int64) * v6) * v8) * v8) * v8))), none]) (S' := [.ref 66]) 12 (fun P9 h9 => c_M_find (d + 1) (σ.2.1 66 23) x11 ((((v17 * (((v4 * x11) * x11) - (((σ.2.1 66 23) * v8) * v8))) - (((((2 : Int64) * v6) * v6) * x11) * x11)) * x11) / (((((2 : Int64) * v6) * v8) * v8) * v8)) (s_l (s_i σ 66 26 (-6 : Int32)) 66 27 ((((v17 * (((v4 * x11) * x11) - (((σ.2.1 66 23) * v8) * v8))) - (((((2 : Int64) * v6) * v6) * x11) * x11)) * x11) / (((((2 : Int64) * v6) * v8) * v8) * v8))) hx19 h9) (fun n h => h) ?_
          cases h
          exact go_ret 2 (fun _ => hp)
      · rw [if_neg hc14] at h
        cases h
        exact go_ret 1 (fun _ => hp)
def f_M_joins_b144 (N : Nat) (v4 : Int64) (v6 : Int64) (v8 : Int64) (v10 : Int64) (v14 : Int64) (v16 : Int32) (v17 : Int64) (v19 : Int64) (s0 : Int64) (σ : aSt) : Option aSt :=
  (if v16 = 0 then ((f_M_lowers N ((v17 * v17) - ((v19 * v19) * (((((((σ.1 66 2).toInt64 * v8) * v8) * v14) * v14) + ((v4 * v14) * v14)) + ((v10 * v8) * v8)))) (((v19 * v19) * s0) * s0) σ).bind fun x10 => f_M_joins_b216 N v4 v6 v8 v14 v16 v17 v19 x10) else ((f_M_lowers N ((v17 * v17) - ((v19 * v19) * ((((σ.1 66 2).toInt64 * v8) * v8) + ((2 : Int64) * v4)))) (((v19 * v19) * v8) * v8) σ).bind fun x20 => f_M_joins_b216 N v4 v6 v8 v14 v16 v17 v19 x20))
set_option maxRecDepth 20000 in
set_option maxHeartbeats 4000000 in
theorem t_M_joins_b144 (d : Nat) {N : Nat} (d1 d2 d3 d12 d13 d21 d22 d23 d24 d25 d26 : Option Value) (v4 : Int64) (v6 : Int64) (v8 : Int64) (v10 : Int64) (v14 : Int64) (v16 : Int32) (v17 : Int64) (v19 : Int64) (s0 : Int64) (σ : aSt) {P : Option Value → aSt → Prop} {x : aSt} (h : f_M_joins_b144 N v4 v6 v8 v10 v14 v16 v17 v19 s0 σ = some x) (hp : P none x) : aGo (aCall MT (d + 2)) P mc_M_joins 144 [some (.ref 66), d1, d2, d3, some (.long v4), none, some (.long v6), none, some (.long v8), none, some (.long v10), none, d12, d13, some (.long v14), none, some (.int v16), some (.long v17), none, some (.long v19), none, d21, d22, d23, d24, d25, d26] [.long s0] σ := by
  unfold f_M_joins_b144 at h
  refine go_if (c := v16 = 0) (k1 := 176) (L1 := [some (.ref 66), d1, d2, d3, some (.long v4), none, some (.long v6), none, some (.long v8), none, some (.long v10), none, d12, d13, some (.long v14), none, some (.int v16), some (.long v17), none, some (.long v19), none, some (.long s0), none, d23, d24, d25, d26]) (S1 := []) (σ1 := σ) (k2 := 147) (L2 := [some (.ref 66), d1, d2, d3, some (.long v4), none, some (.long v6), none, some (.long v8), none, some (.long v10), none, d12, d13, some (.long v14), none, some (.int v16), some (.long v17), none, some (.long v19), none, some (.long s0), none, d23, d24, d25, d26]) (S2 := []) (σ2 := σ) 3 (fun n h => h) (fun hc9 => ?_) (fun hc9 => ?_)
  · rw [if_pos hc9] at h
    obtain ⟨x10, hx10, h⟩ := bind_of h
    refine go_call (r := none) (σc := σ) (σ1 := x10) (mi := 103) (vs := [.ref 66, .long ((v17 * v17) - ((v19 * v19) * (((((((σ.1 66 2).toInt64 * v8) * v8) * v14) * v14) + ((v4 * v14) * v14)) + ((v10 * v8) * v8)))), .long (((v19 * v19) * s0) * s0)]) (k' := 216) (L' := [some (.ref 66), d1, d2, d3, some (.long v4), none, some (.long v6), none, some (.long v8), none, some (.long v10), none, d12, d13, some (.long v14), none, some (.int v16), some (.long v17), none, some (.long v19), none, some (.long s0), none, d23, d24, d25, d26]) (S' := []) 40 (fun P9 h9 => c_M_lowers (d + 0) ((v17 * v17) - ((v19 * v19) * (((((((σ.1 66 2).toInt64 * v8) * v8) * v14) * v14) + ((v4 * v14) * v14)) + ((v10 * v8) * v8)))) (((v19 * v19) * s0) * s0) σ hx10 h9) (fun n h => h) ?_
    exact t_M_joins_b216 d _ _ _ _ _ _ _ _ _ _ _ _ _ v4 v6 v8 v14 v16 v17 v19 x10 h hp
  · rw [if_neg hc9] at h
    obtain ⟨x20, hx20, h⟩ := bind_of h
    refine go_call (r := none) (σc := σ) (σ1 := x20) (mi := 103) (vs := [.ref 66, .long ((v17 * v17) - ((v19 * v19) * ((((σ.1 66 2).toInt64 * v8) * v8) + ((2 : Int64) * v4)))), .long (((v19 * v19) * v8) * v8)]) (k' := 175) (L' := [some (.ref 66), d1, d2, d3, some (.long v4), none, some (.long v6), none, some (.long v8), none, some (.long v10), none, d12, d13, some (.long v14), none, some (.int v16), some (.long v17), none, some (.long v19), none, some (.long s0), none, d23, d24, d25, d26]) (S' := []) 28 (fun P9 h9 => c_M_lowers (d + 0) ((v17 * v17) - ((v19 * v19) * ((((σ.1 66 2).toInt64 * v8) * v8) + ((2 : Int64) * v4)))) (((v19 * v19) * v8) * v8) σ hx20 h9) (fun n h => h) ?_
    refine go_st (k' := 216) (L' := [some (.ref 66), d1, d2, d3, some (.long v4), none, some (.long v6), none, some (.long v8), none, some (.long v10), none, d12, d13, some (.long v14), none, some (.int v16), some (.long v17), none, some (.long v19), none, some (.long s0), none, d23, d24, d25, d26]) (S' := []) (σ' := x20) 1 (fun n h => h) ?_
    exact t_M_joins_b216 d _ _ _ _ _ _ _ _ _ _ _ _ _ v4 v6 v8 v14 v16 v17 v19 x20 h hp
def f_M_joins_b136 (N : Nat) (v4 : Int64) (v6 : Int64) (v8 : Int64) (v10 : Int64) (v14 : Int64) (v16 : Int32) (v17 : Int64) (s0 : Int64) (σ : aSt) : Option aSt :=
  (if v16 = 0 then f_M_joins_b144 N v4 v6 v8 v10 v14 v16 v17 s0 (v8 * v14) σ else f_M_joins_b144 N v4 v6 v8 v10 v14 v16 v17 s0 v8 σ)
set_option maxRecDepth 20000 in
set_option maxHeartbeats 4000000 in
theorem t_M_joins_b136 (d : Nat) {N : Nat} (d1 d2 d3 d12 d13 d19 d20 d21 d22 d23 d24 d25 d26 : Option Value) (v4 : Int64) (v6 : Int64) (v8 : Int64) (v10 : Int64) (v14 : Int64) (v16 : Int32) (v17 : Int64) (s0 : Int64) (σ : aSt) {P : Option Value → aSt → Prop} {x : aSt} (h : f_M_joins_b136 N v4 v6 v8 v10 v14 v16 v17 s0 σ = some x) (hp : P none x) : aGo (aCall MT (d + 2)) P mc_M_joins 136 [some (.ref 66), d1, d2, d3, some (.long v4), none, some (.long v6), none, some (.long v8), none, some (.long v10), none, d12, d13, some (.long v14), none, some (.int v16), some (.long v17), none, d19, d20, d21, d22, d23, d24, d25, d26] [.long s0] σ := by
  unfold f_M_joins_b136 at h
  refine go_if (c := v16 = 0) (k1 := 141) (L1 := [some (.ref 66), d1, d2, d3, some (.long v4), none, some (.long v6), none, some (.long v8), none, some (.long v10), none, d12, d13, some (.long v14), none, some (.int v16), some (.long v17), none, some (.long s0), none, d21, d22, d23, d24, d25, d26]) (S1 := []) (σ1 := σ) (k2 := 139) (L2 := [some (.ref 66), d1, d2, d3, some (.long v4), none, some (.long v6), none, some (.long v8), none, some (.long v10), none, d12, d13, some (.long v14), none, some (.int v16), some (.long v17), none, some (.long s0), none, d21, d22, d23, d24, d25, d26]) (S2 := []) (σ2 := σ) 3 (fun n h => h) (fun hc8 => ?_) (fun hc8 => ?_)
  · rw [if_pos hc8] at h
    refine go_st (k' := 144) (L' := [some (.ref 66), d1, d2, d3, some (.long v4), none, some (.long v6), none, some (.long v8), none, some (.long v10), none, d12, d13, some (.long v14), none, some (.int v16), some (.long v17), none, some (.long s0), none, d21, d22, d23, d24, d25, d26]) (S' := [.long (v8 * v14)]) (σ' := σ) 3 (fun n h => h) ?_
    exact t_M_joins_b144 d _ _ _ _ _ _ _ _ _ _ _ v4 v6 v8 v10 v14 v16 v17 s0 (v8 * v14) σ h hp
  · rw [if_neg hc8] at h
    refine go_st (k' := 144) (L' := [some (.ref 66), d1, d2, d3, some (.long v4), none, some (.long v6), none, some (.long v8), none, some (.long v10), none, d12, d13, some (.long v14), none, some (.int v16), some (.long v17), none, some (.long s0), none, d21, d22, d23, d24, d25, d26]) (S' := [.long v8]) (σ' := σ) 2 (fun n h => h) ?_
    exact t_M_joins_b144 d _ _ _ _ _ _ _ _ _ _ _ v4 v6 v8 v10 v14 v16 v17 s0 v8 σ h hp
def f_M_joins_b118 (N : Nat) (v4 : Int64) (v6 : Int64) (v8 : Int64) (v10 : Int64) (v14 : Int64) (v16 : Int32) (s0 : Int64) (σ : aSt) : Option aSt :=
  (if v16 = 0 then f_M_joins_b136 N v4 v6 v8 v10 v14 v16 s0 (((v10 * v8) * v8) - ((v4 * v14) * v14)) σ else f_M_joins_b136 N v4 v6 v8 v10 v14 v16 s0 ((2 : Int64) * v6) σ)
set_option maxRecDepth 20000 in
set_option maxHeartbeats 4000000 in
theorem t_M_joins_b118 (d : Nat) {N : Nat} (d1 d2 d3 d12 d13 d17 d18 d19 d20 d21 d22 d23 d24 d25 d26 : Option Value) (v4 : Int64) (v6 : Int64) (v8 : Int64) (v10 : Int64) (v14 : Int64) (v16 : Int32) (s0 : Int64) (σ : aSt) {P : Option Value → aSt → Prop} {x : aSt} (h : f_M_joins_b118 N v4 v6 v8 v10 v14 v16 s0 σ = some x) (hp : P none x) : aGo (aCall MT (d + 2)) P mc_M_joins 118 [some (.ref 66), d1, d2, d3, some (.long v4), none, some (.long v6), none, some (.long v8), none, some (.long v10), none, d12, d13, some (.long v14), none, some (.int v16), d17, d18, d19, d20, d21, d22, d23, d24, d25, d26] [.long s0] σ := by
  unfold f_M_joins_b118 at h
  refine go_if (c := v16 = 0) (k1 := 125) (L1 := [some (.ref 66), d1, d2, d3, some (.long v4), none, some (.long v6), none, some (.long v8), none, some (.long v10), none, d12, d13, some (.long v14), none, some (.int v16), some (.long s0), none, d19, d20, d21, d22, d23, d24, d25, d26]) (S1 := []) (σ1 := σ) (k2 := 121) (L2 := [some (.ref 66), d1, d2, d3, some (.long v4), none, some (.long v6), none, some (.long v8), none, some (.long v10), none, d12, d13, some (.long v14), none, some (.int v16), some (.long s0), none, d19, d20, d21, d22, d23, d24, d25, d26]) (S2 := []) (σ2 := σ) 3 (fun n h => h) (fun hc7 => ?_) (fun hc7 => ?_)
  · rw [if_pos hc7] at h
    refine go_st (k' := 136) (L' := [some (.ref 66), d1, d2, d3, some (.long v4), none, some (.long v6), none, some (.long v8), none, some (.long v10), none, d12, d13, some (.long v14), none, some (.int v16), some (.long s0), none, d19, d20, d21, d22, d23, d24, d25, d26]) (S' := [.long (((v10 * v8) * v8) - ((v4 * v14) * v14))]) (σ' := σ) 11 (fun n h => h) ?_
    exact t_M_joins_b136 d _ _ _ _ _ _ _ _ _ _ _ _ _ v4 v6 v8 v10 v14 v16 s0 (((v10 * v8) * v8) - ((v4 * v14) * v14)) σ h hp
  · rw [if_neg hc7] at h
    refine go_st (k' := 136) (L' := [some (.ref 66), d1, d2, d3, some (.long v4), none, some (.long v6), none, some (.long v8), none, some (.long v10), none, d12, d13, some (.long v14), none, some (.int v16), some (.long s0), none, d19, d20, d21, d22, d23, d24, d25, d26]) (S' := [.long ((2 : Int64) * v6)]) (σ' := σ) 4 (fun n h => h) ?_
    exact t_M_joins_b136 d _ _ _ _ _ _ _ _ _ _ _ _ _ v4 v6 v8 v10 v14 v16 s0 ((2 : Int64) * v6) σ h hp
def f_M_joins_b60 (N : Nat) (v4 : Int64) (v6 : Int64) (v8 : Int64) (v10 : Int64) (v12 : Int64) (v14 : Int64) (v16 : Int32) (s1 : Bool) (σ : aSt) : Option aSt :=
  (if s1 = true then some (s_l (s_i (s_b σ 66 25 s1) 66 26 (1000 : Int32)) 66 27 (-9223372036854775808 : Int64)) else (if v16 = 0 then f_M_joins_b118 N v4 v6 v8 v10 v14 v16 ((((v12 * v8) * v8) * v8) - (((v6 * v14) * v14) * v14)) (s_l (s_i (s_b σ 66 25 s1) 66 26 (1000 : Int32)) 66 27 (-9223372036854775808 : Int64)) else f_M_joins_b118 N v4 v6 v8 v10 v14 v16 (((((3 : Int64) * v4) * v4) + (((((2 : Int64) * (σ.1 66 2).toInt64) * v4) * v8) * v8)) + (((((σ.1 66 3).toInt64 * v8) * v8) * v8) * v8)) (s_l (s_i (s_b σ 66 25 s1) 66 26 (1000 : Int32)) 66 27 (-9223372036854775808 : Int64))))
set_option maxRecDepth 20000 in
set_option maxHeartbeats 4000000 in
theorem t_M_joins_b60 (d : Nat) {N : Nat} (d1 d2 d3 d17 d18 d19 d20 d21 d22 d23 d24 d25 d26 : Option Value) (v4 : Int64) (v6 : Int64) (v8 : Int64) (v10 : Int64) (v12 : Int64) (v14 : Int64) (v16 : Int32) (s1 : Bool) (σ : aSt) {P : Option Value → aSt → Prop} {x : aSt} (h : f_M_joins_b60 N v4 v6 v8 v10 v12 v14 v16 s1 σ = some x) (hp : P none x) : aGo (aCall MT (d + 2)) P mc_M_joins 60 [some (.ref 66), d1, d2, d3, some (.long v4), none, some (.long v6), none, some (.long v8), none, some (.long v10), none, some (.long v12), none, some (.long v14), none, some (.int v16), d17, d18, d19, d20, d21, d22, d23, d24, d25, d26] [.int (b2i s1), .ref 66] σ := by
  unfold f_M_joins_b60 at h
  refine go_q (Q := b2i s1 = 0 ∨ b2i s1 = 1) (k' := 61) (L' := [some (.ref 66), d1, d2, d3, some (.long v4), none, some (.long v6), none, some (.long v8), none, some (.long v10), none, some (.long v12), none, some (.long v14), none, some (.int v16), d17, d18, d19, d20, d21, d22, d23, d24, d25, d26]) (S' := []) (σ' := s_b σ 66 25 (b2i s1 != 0)) 1 (b2i_01 _) (fun n h => h) ?_
  rw [b2i_nz]
  refine go_ifz (b := s1) (k1 := 71) (L1 := [some (.ref 66), d1, d2, d3, some (.long v4), none, some (.long v6), none, some (.long v8), none, some (.long v10), none, some (.long v12), none, some (.long v14), none, some (.int v16), d17, d18, d19, d20, d21, d22, d23, d24, d25, d26]) (S1 := []) (σ1 := (s_l (s_i (s_b σ 66 25 s1) 66 26 (1000 : Int32)) 66 27 (-9223372036854775808 : Int64))) (k2 := 70) (L2 := [some (.ref 66), d1, d2, d3, some (.long v4), none, some (.long v6), none, some (.long v8), none, some (.long v10), none, some (.long v12), none, some (.long v14), none, some (.int v16), d17, d18, d19, d20, d21, d22, d23, d24, d25, d26]) (S2 := []) (σ2 := (s_l (s_i (s_b σ 66 25 s1) 66 26 (1000 : Int32)) 66 27 (-9223372036854775808 : Int64))) 9 (fun n h => h) (fun hc5 => ?_) (fun hc5 => ?_)
  · rw [if_neg hc5] at h
    refine go_if (c := v16 = 0) (k1 := 103) (L1 := [some (.ref 66), d1, d2, d3, some (.long v4), none, some (.long v6), none, some (.long v8), none, some (.long v10), none, some (.long v12), none, some (.long v14), none, some (.int v16), d17, d18, d19, d20, d21, d22, d23, d24, d25, d26]) (S1 := []) (σ1 := (s_l (s_i (s_b σ 66 25 s1) 66 26 (1000 : Int32)) 66 27 (-9223372036854775808 : Int64))) (k2 := 73) (L2 := [some (.ref 66), d1, d2, d3, some (.long v4), none, some (.long v6), none, some (.long v8), none, some (.long v10), none, some (.long v12), none, some (.long v14), none, some (.int v16), d17, d18, d19, d20, d21, d22, d23, d24, d25, d26]) (S2 := []) (σ2 := (s_l (s_i (s_b σ 66 25 s1) 66 26 (1000 : Int32)) 66 27 (-9223372036854775808 : Int64))) 2 (fun n h => h) (fun hc6 => ?_) (fun hc6 => ?_)
    · rw [if_pos hc6] at h
      refine go_st (k' := 118) (L' := [some (.ref 66), d1, d2, d3, some (.long v4), none, some (.long v6), none, some (.long v8), none, some (.long v10), none, some (.long v12), none, some (.long v14), none, some (.int v16), d17, d18, d19, d20, d21, d22, d23, d24, d25, d26]) (S' := [.long ((((v12 * v8) * v8) * v8) - (((v6 * v14) * v14) * v14))]) (σ' := (s_l (s_i (s_b σ 66 25 s1) 66 26 (1000 : Int32)) 66 27 (-9223372036854775808 : Int64))) 15 (fun n h => h) ?_
      exact t_M_joins_b118 d _ _ _ _ _ _ _ _ _ _ _ _ _ _ _ v4 v6 v8 v10 v14 v16 ((((v12 * v8) * v8) * v8) - (((v6 * v14) * v14) * v14)) (s_l (s_i (s_b σ 66 25 s1) 66 26 (1000 : Int32)) 66 27 (-9223372036854775808 : Int64)) h hp
    · rw [if_neg hc6] at h
      refine go_st (k' := 118) (L' := [some (.ref 66), d1, d2, d3, some (.long v4), none, some (.long v6), none, some (.long v8), none, some (.long v10), none, some (.long v12), none, some (.long v14), none, some (.int v16), d17, d18, d19, d20, d21, d22, d23, d24, d25, d26]) (S' := [.long (((((3 : Int64) * v4) * v4) + (((((2 : Int64) * (σ.1 66 2).toInt64) * v4) * v8) * v8)) + (((((σ.1 66 3).toInt64 * v8) * v8) * v8) * v8))]) (σ' := (s_l (s_i (s_b σ 66 25 s1) 66 26 (1000 : Int32)) 66 27 (-9223372036854775808 : Int64))) 30 (fun n h => h) ?_
      exact t_M_joins_b118 d _ _ _ _ _ _ _ _ _ _ _ _ _ _ _ v4 v6 v8 v10 v14 v16 (((((3 : Int64) * v4) * v4) + (((((2 : Int64) * (σ.1 66 2).toInt64) * v4) * v8) * v8)) + (((((σ.1 66 3).toInt64 * v8) * v8) * v8) * v8)) (s_l (s_i (s_b σ 66 25 s1) 66 26 (1000 : Int32)) 66 27 (-9223372036854775808 : Int64)) h hp
  · rw [if_pos hc5] at h
    cases h
    exact go_ret 1 (fun _ => hp)
def f_M_joins_b59 (N : Nat) (v4 : Int64) (v6 : Int64) (v8 : Int64) (v10 : Int64) (v12 : Int64) (v14 : Int64) (v16 : Int32) (σ : aSt) : Option aSt :=
  f_M_joins_b60 N v4 v6 v8 v10 v12 v14 v16 false σ
set_option maxRecDepth 20000 in
set_option maxHeartbeats 4000000 in
theorem t_M_joins_b59 (d : Nat) {N : Nat} (d1 d2 d3 d17 d18 d19 d20 d21 d22 d23 d24 d25 d26 : Option Value) (v4 : Int64) (v6 : Int64) (v8 : Int64) (v10 : Int64) (v12 : Int64) (v14 : Int64) (v16 : Int32) (σ : aSt) {P : Option Value → aSt → Prop} {x : aSt} (h : f_M_joins_b59 N v4 v6 v8 v10 v12 v14 v16 σ = some x) (hp : P none x) : aGo (aCall MT (d + 2)) P mc_M_joins 59 [some (.ref 66), d1, d2, d3, some (.long v4), none, some (.long v6), none, some (.long v8), none, some (.long v10), none, some (.long v12), none, some (.long v14), none, some (.int v16), d17, d18, d19, d20, d21, d22, d23, d24, d25, d26] [.ref 66] σ := by
  unfold f_M_joins_b59 at h
  refine go_st (k' := 60) (L' := [some (.ref 66), d1, d2, d3, some (.long v4), none, some (.long v6), none, some (.long v8), none, some (.long v10), none, some (.long v12), none, some (.long v14), none, some (.int v16), d17, d18, d19, d20, d21, d22, d23, d24, d25, d26]) (S' := [.int (0 : Int32), .ref 66]) (σ' := σ) 1 (fun n h => h) ?_
  exact t_M_joins_b60 d _ _ _ _ _ _ _ _ _ _ _ _ _ v4 v6 v8 v10 v12 v14 v16 false σ h hp
def f_M_joins_b48 (N : Nat) (v4 : Int64) (v6 : Int64) (v8 : Int64) (v10 : Int64) (v12 : Int64) (v14 : Int64) (s0 : Int32) (σ : aSt) : Option aSt :=
  (if s0 = 0 then f_M_joins_b59 N v4 v6 v8 v10 v12 v14 s0 σ else (if v6 ≠ (-v12) then f_M_joins_b59 N v4 v6 v8 v10 v12 v14 s0 σ else f_M_joins_b60 N v4 v6 v8 v10 v12 v14 s0 true σ))
set_option maxRecDepth 20000 in
set_option maxHeartbeats 4000000 in
theorem t_M_joins_b48 (d : Nat) {N : Nat} (d1 d2 d3 d16 d17 d18 d19 d20 d21 d22 d23 d24 d25 d26 : Option Value) (v4 : Int64) (v6 : Int64) (v8 : Int64) (v10 : Int64) (v12 : Int64) (v14 : Int64) (s0 : Int32) (σ : aSt) {P : Option Value → aSt → Prop} {x : aSt} (h : f_M_joins_b48 N v4 v6 v8 v10 v12 v14 s0 σ = some x) (hp : P none x) : aGo (aCall MT (d + 2)) P mc_M_joins 48 [some (.ref 66), d1, d2, d3, some (.long v4), none, some (.long v6), none, some (.long v8), none, some (.long v10), none, some (.long v12), none, some (.long v14), none, d16, d17, d18, d19, d20, d21, d22, d23, d24, d25, d26] [.int s0] σ := by
  unfold f_M_joins_b48 at h
  refine go_if (c := s0 = 0) (k1 := 59) (L1 := [some (.ref 66), d1, d2, d3, some (.long v4), none, some (.long v6), none, some (.long v8), none, some (.long v10), none, some (.long v12), none, some (.long v14), none, some (.int s0), d17, d18, d19, d20, d21, d22, d23, d24, d25, d26]) (S1 := [.ref 66]) (σ1 := σ) (k2 := 52) (L2 := [some (.ref 66), d1, d2, d3, some (.long v4), none, some (.long v6), none, some (.long v8), none, some (.long v10), none, some (.long v12), none, some (.long v14), none, some (.int s0), d17, d18, d19, d20, d21, d22, d23, d24, d25, d26]) (S2 := [.ref 66]) (σ2 := σ) 4 (fun n h => h) (fun hc4 => ?_) (fun hc4 => ?_)
  · rw [if_pos hc4] at h
    exact t_M_joins_b59 d _ _ _ _ _ _ _ _ _ _ _ _ _ v4 v6 v8 v10 v12 v14 s0 σ h hp
  · rw [if_neg hc4] at h
    refine go_iff (lcmp_ne v6 (-v12)) (k1 := 59) (L1 := [some (.ref 66), d1, d2, d3, some (.long v4), none, some (.long v6), none, some (.long v8), none, some (.long v10), none, some (.long v12), none, some (.long v14), none, some (.int s0), d17, d18, d19, d20, d21, d22, d23, d24, d25, d26]) (S1 := [.ref 66]) (σ1 := σ) (k2 := 57) (L2 := [some (.ref 66), d1, d2, d3, some (.long v4), none, some (.long v6), none, some (.long v8), none, some (.long v10), none, some (.long v12), none, some (.long v14), none, some (.int s0), d17, d18, d19, d20, d21, d22, d23, d24, d25, d26]) (S2 := [.ref 66]) (σ2 := σ) 5 (fun n h => h) (fun hc21 => ?_) (fun hc21 => ?_)
    · rw [if_pos hc21] at h
      exact t_M_joins_b59 d _ _ _ _ _ _ _ _ _ _ _ _ _ v4 v6 v8 v10 v12 v14 s0 σ h hp
    · rw [if_neg hc21] at h
      refine go_st (k' := 60) (L' := [some (.ref 66), d1, d2, d3, some (.long v4), none, some (.long v6), none, some (.long v8), none, some (.long v10), none, some (.long v12), none, some (.long v14), none, some (.int s0), d17, d18, d19, d20, d21, d22, d23, d24, d25, d26]) (S' := [.int (1 : Int32), .ref 66]) (σ' := σ) 2 (fun n h => h) ?_
      exact t_M_joins_b60 d _ _ _ _ _ _ _ _ _ _ _ _ _ v4 v6 v8 v10 v12 v14 s0 true σ h hp
def f_M_joins_b47 (N : Nat) (v4 : Int64) (v6 : Int64) (v8 : Int64) (v10 : Int64) (v12 : Int64) (v14 : Int64) (σ : aSt) : Option aSt :=
  f_M_joins_b48 N v4 v6 v8 v10 v12 v14 (0 : Int32) σ
set_option maxRecDepth 20000 in
set_option maxHeartbeats 4000000 in
theorem t_M_joins_b47 (d : Nat) {N : Nat} (d1 d2 d3 d16 d17 d18 d19 d20 d21 d22 d23 d24 d25 d26 : Option Value) (v4 : Int64) (v6 : Int64) (v8 : Int64) (v10 : Int64) (v12 : Int64) (v14 : Int64) (σ : aSt) {P : Option Value → aSt → Prop} {x : aSt} (h : f_M_joins_b47 N v4 v6 v8 v10 v12 v14 σ = some x) (hp : P none x) : aGo (aCall MT (d + 2)) P mc_M_joins 47 [some (.ref 66), d1, d2, d3, some (.long v4), none, some (.long v6), none, some (.long v8), none, some (.long v10), none, some (.long v12), none, some (.long v14), none, d16, d17, d18, d19, d20, d21, d22, d23, d24, d25, d26] [] σ := by
  unfold f_M_joins_b47 at h
  refine go_st (k' := 48) (L' := [some (.ref 66), d1, d2, d3, some (.long v4), none, some (.long v6), none, some (.long v8), none, some (.long v10), none, some (.long v12), none, some (.long v14), none, d16, d17, d18, d19, d20, d21, d22, d23, d24, d25, d26]) (S' := [.int (0 : Int32)]) (σ' := σ) 1 (fun n h => h) ?_
  exact t_M_joins_b48 d _ _ _ _ _ _ _ _ _ _ _ _ _ _ v4 v6 v8 v10 v12 v14 (0 : Int32) σ h hp
def f_M_joins (N : Nat) (p0 : Int32) (p1 : Int32) (p2 : Int32) (σ : aSt) : Option aSt :=
  (if 0 ≤ p0 ∧ p0 < (120 : Int32) then (if 0 ≤ p1 ∧ p1 < (120 : Int32) then (if (σ.1 67 p0.toNatClampNeg).toInt64 ≠ (σ.1 67 p1.toNatClampNeg).toInt64 then f_M_joins_b47 N (σ.1 67 p0.toNatClampNeg).toInt64 (σ.2.1 68 p0.toNatClampNeg) (σ.1 69 p0.toNatClampNeg).toInt64 (σ.1 67 p1.toNatClampNeg).toInt64 (p2.toInt64 * (σ.2.1 68 p1.toNatClampNeg)) (σ.1 69 p1.toNatClampNeg).toInt64 σ else (if (σ.1 69 p0.toNatClampNeg).toInt64 ≠ (σ.1 69 p1.toNatClampNeg).toInt64 then f_M_joins_b47 N (σ.1 67 p0.toNatClampNeg).toInt64 (σ.2.1 68 p0.toNatClampNeg) (σ.1 69 p0.toNatClampNeg).toInt64 (σ.1 67 p1.toNatClampNeg).toInt64 (p2.toInt64 * (σ.2.1 68 p1.toNatClampNeg)) (σ.1 69 p1.toNatClampNeg).toInt64 σ else f_M_joins_b48 N (σ.1 67 p0.toNatClampNeg).toInt64 (σ.2.1 68 p0.toNatClampNeg) (σ.1 69 p0.toNatClampNeg).toInt64 (σ.1 67 p1.toNatClampNeg).toInt64 (p2.toInt64 * (σ.2.1 68 p1.toNatClampNeg)) (σ.1 69 p1.toNatClampNeg).toInt64 (1 : Int32) σ)) else none) else none)
set_option maxRecDepth 20000 in
set_option maxHeartbeats 4000000 in
theorem c_M_joins (d : Nat) {N : Nat} (p0 : Int32) (p1 : Int32) (p2 : Int32) (σ : aSt) {P : Option Value → aSt → Prop} {x : aSt} (h : f_M_joins N p0 p1 p2 σ = some x) (hp : P none x) : aCall MT (d + 3) 104 [.ref 66, .int p0, .int p1, .int p2] σ P := by
  unfold f_M_joins at h
  refine call_of (code := mc_M_joins) (L := [some (.ref 66), some (.int p0), some (.int p1), some (.int p2), none, none, none, none, none, none, none, none, none, none, none, none, none, none, none, none, none, none, none, none, none, none, none]) rfl rfl rfl rfl ?_
  obtain ⟨hc1, h⟩ := ite_of h
  refine go_q (Q := inb 0 σ 67 p0) (k' := 4) (L' := [some (.ref 66), some (.int p0), some (.int p1), some (.int p2), none, none, none, none, none, none, none, none, none, none, none, none, none, none, none, none, none, none, none, none, none, none, none]) (S' := [.int (σ.1 67 p0.toNatClampNeg)]) (σ' := σ) 4 (inb_mk rfl hc1.1 hc1.2) (fun n h => h) ?_
  refine go_q (Q := inb 1 σ 68 p0) (k' := 10) (L' := [some (.ref 66), some (.int p0), some (.int p1), some (.int p2), some (.long (σ.1 67 p0.toNatClampNeg).toInt64), none, none, none, none, none, none, none, none, none, none, none, none, none, none, none, none, none, none, none, none, none, none]) (S' := [.long (σ.2.1 68 p0.toNatClampNeg)]) (σ' := σ) 6 (inb_mk rfl hc1.1 hc1.2) (fun n h => h) ?_
  refine go_q (Q := inb 0 σ 69 p0) (k' := 15) (L' := [some (.ref 66), some (.int p0), some (.int p1), some (.int p2), some (.long (σ.1 67 p0.toNatClampNeg).toInt64), none, some (.long (σ.2.1 68 p0.toNatClampNeg)), none, none, none, none, none, none, none, none, none, none, none, none, none, none, none, none, none, none, none, none]) (S' := [.int (σ.1 69 p0.toNatClampNeg)]) (σ' := σ) 5 (inb_mk rfl hc1.1 hc1.2) (fun n h => h) ?_
  obtain ⟨hc2, h⟩ := ite_of h
  refine go_q (Q := inb 0 σ 67 p1) (k' := 21) (L' := [some (.ref 66), some (.int p0), some (.int p1), some (.int p2), some (.long (σ.1 67 p0.toNatClampNeg).toInt64), none, some (.long (σ.2.1 68 p0.toNatClampNeg)), none, some (.long (σ.1 69 p0.toNatClampNeg).toInt64), none, none, none, none, none, none, none, none, none, none, none, none, none, none, none, none, none, none]) (S' := [.int (σ.1 67 p1.toNatClampNeg)]) (σ' := σ) 6 (inb_mk rfl hc2.1 hc2.2) (fun n h => h) ?_
  refine go_q (Q := inb 1 σ 68 p1) (k' := 29) (L' := [some (.ref 66), some (.int p0), some (.int p1), some (.int p2), some (.long (σ.1 67 p0.toNatClampNeg).toInt64), none, some (.long (σ.2.1 68 p0.toNatClampNeg)), none, some (.long (σ.1 69 p0.toNatClampNeg).toInt64), none, some (.long (σ.1 67 p1.toNatClampNeg).toInt64), none, none, none, none, none, none, none, none, none, none, none, none, none, none, none, none]) (S' := [.long (σ.2.1 68 p1.toNatClampNeg), .long p2.toInt64]) (σ' := σ) 8 (inb_mk rfl hc2.1 hc2.2) (fun n h => h) ?_
  refine go_q (Q := inb 0 σ 69 p1) (k' := 35) (L' := [some (.ref 66), some (.int p0), some (.int p1), some (.int p2), some (.long (σ.1 67 p0.toNatClampNeg).toInt64), none, some (.long (σ.2.1 68 p0.toNatClampNeg)), none, some (.long (σ.1 69 p0.toNatClampNeg).toInt64), none, some (.long (σ.1 67 p1.toNatClampNeg).toInt64), none, some (.long (p2.toInt64 * (σ.2.1 68 p1.toNatClampNeg))), none, none, none, none, none, none, none, none, none, none, none, none, none, none]) (S' := [.int (σ.1 69 p1.toNatClampNeg)]) (σ' := σ) 6 (inb_mk rfl hc2.1 hc2.2) (fun n h => h) ?_
  refine go_iff (lcmp_ne (σ.1 67 p0.toNatClampNeg).toInt64 (σ.1 67 p1.toNatClampNeg).toInt64) (k1 := 47) (L1 := [some (.ref 66), some (.int p0), some (.int p1), some (.int p2), some (.long (σ.1 67 p0.toNatClampNeg).toInt64), none, some (.long (σ.2.1 68 p0.toNatClampNeg)), none, some (.long (σ.1 69 p0.toNatClampNeg).toInt64), none, some (.long (σ.1 67 p1.toNatClampNeg).toInt64), none, some (.long (p2.toInt64 * (σ.2.1 68 p1.toNatClampNeg))), none, some (.long (σ.1 69 p1.toNatClampNeg).toInt64), none, none, none, none, none, none, none, none, none, none, none, none]) (S1 := []) (σ1 := σ) (k2 := 41) (L2 := [some (.ref 66), some (.int p0), some (.int p1), some (.int p2), some (.long (σ.1 67 p0.toNatClampNeg).toInt64), none, some (.long (σ.2.1 68 p0.toNatClampNeg)), none, some (.long (σ.1 69 p0.toNatClampNeg).toInt64), none, some (.long (σ.1 67 p1.toNatClampNeg).toInt64), none, some (.long (p2.toInt64 * (σ.2.1 68 p1.toNatClampNeg))), none, some (.long (σ.1 69 p1.toNatClampNeg).toInt64), none, none, none, none, none, none, none, none, none, none, none, none]) (S2 := []) (σ2 := σ) 6 (fun n h => h) (fun hc3 => ?_) (fun hc3 => ?_)
  · rw [if_pos hc3] at h
    exact t_M_joins_b47 d _ _ _ _ _ _ _ _ _ _ _ _ _ _ (σ.1 67 p0.toNatClampNeg).toInt64 (σ.2.1 68 p0.toNatClampNeg) (σ.1 69 p0.toNatClampNeg).toInt64 (σ.1 67 p1.toNatClampNeg).toInt64 (p2.toInt64 * (σ.2.1 68 p1.toNatClampNeg)) (σ.1 69 p1.toNatClampNeg).toInt64 σ h hp
  · rw [if_neg hc3] at h
    refine go_iff (lcmp_ne (σ.1 69 p0.toNatClampNeg).toInt64 (σ.1 69 p1.toNatClampNeg).toInt64) (k1 := 47) (L1 := [some (.ref 66), some (.int p0), some (.int p1), some (.int p2), some (.long (σ.1 67 p0.toNatClampNeg).toInt64), none, some (.long (σ.2.1 68 p0.toNatClampNeg)), none, some (.long (σ.1 69 p0.toNatClampNeg).toInt64), none, some (.long (σ.1 67 p1.toNatClampNeg).toInt64), none, some (.long (p2.toInt64 * (σ.2.1 68 p1.toNatClampNeg))), none, some (.long (σ.1 69 p1.toNatClampNeg).toInt64), none, none, none, none, none, none, none, none, none, none, none, none]) (S1 := []) (σ1 := σ) (k2 := 45) (L2 := [some (.ref 66), some (.int p0), some (.int p1), some (.int p2), some (.long (σ.1 67 p0.toNatClampNeg).toInt64), none, some (.long (σ.2.1 68 p0.toNatClampNeg)), none, some (.long (σ.1 69 p0.toNatClampNeg).toInt64), none, some (.long (σ.1 67 p1.toNatClampNeg).toInt64), none, some (.long (p2.toInt64 * (σ.2.1 68 p1.toNatClampNeg))), none, some (.long (σ.1 69 p1.toNatClampNeg).toInt64), none, none, none, none, none, none, none, none, none, none, none, none]) (S2 := []) (σ2 := σ) 4 (fun n h => h) (fun hc22 => ?_) (fun hc22 => ?_)
    · rw [if_pos hc22] at h
      exact t_M_joins_b47 d _ _ _ _ _ _ _ _ _ _ _ _ _ _ (σ.1 67 p0.toNatClampNeg).toInt64 (σ.2.1 68 p0.toNatClampNeg) (σ.1 69 p0.toNatClampNeg).toInt64 (σ.1 67 p1.toNatClampNeg).toInt64 (p2.toInt64 * (σ.2.1 68 p1.toNatClampNeg)) (σ.1 69 p1.toNatClampNeg).toInt64 σ h hp
    · rw [if_neg hc22] at h
      refine go_st (k' := 48) (L' := [some (.ref 66), some (.int p0), some (.int p1), some (.int p2), some (.long (σ.1 67 p0.toNatClampNeg).toInt64), none, some (.long (σ.2.1 68 p0.toNatClampNeg)), none, some (.long (σ.1 69 p0.toNatClampNeg).toInt64), none, some (.long (σ.1 67 p1.toNatClampNeg).toInt64), none, some (.long (p2.toInt64 * (σ.2.1 68 p1.toNatClampNeg))), none, some (.long (σ.1 69 p1.toNatClampNeg).toInt64), none, none, none, none, none, none, none, none, none, none, none, none]) (S' := [.int (1 : Int32)]) (σ' := σ) 2 (fun n h => h) ?_
      exact t_M_joins_b48 d _ _ _ _ _ _ _ _ _ _ _ _ _ _ (σ.1 67 p0.toNatClampNeg).toInt64 (σ.2.1 68 p0.toNatClampNeg) (σ.1 69 p0.toNatClampNeg).toInt64 (σ.1 67 p1.toNatClampNeg).toInt64 (p2.toInt64 * (σ.2.1 68 p1.toNatClampNeg)) (σ.1 69 p1.toNatClampNeg).toInt64 (1 : Int32) σ h hp
def f_M_sumOf (N : Nat) (p0 : Int32) (p1 : Int32) (p2 : Int32) (σ : aSt) : Option (Int32 × aSt) :=
  (if p0 = (-6 : Int32) then some ((-6 : Int32), σ) else (if p1 ≠ (-6 : Int32) then (if p1 ≠ (1000 : Int32) then (if p0 ≠ (1000 : Int32) then ((f_M_joins N p0 p1 p2 σ).bind fun x5 => some ((x5.1 66 26), x5)) else (if p2 ≤ 0 then ((f_M_turnedOf N p1 σ).bind fun x7 => some (x7, σ)) else some (p1, σ))) else some (p0, σ)) else some ((-6 : Int32), σ)))
set_option maxRecDepth 20000 in
set_option maxHeartbeats 4000000 in
theorem c_M_sumOf (d : Nat) {N : Nat} (p0 : Int32) (p1 : Int32) (p2 : Int32) (σ : aSt) {P : Option Value → aSt → Prop} {x : (Int32 × aSt)} (h : f_M_sumOf N p0 p1 p2 σ = some x) (hp : P (some (.int x.1)) x.2) : aCall MT (d + 4) 105 [.ref 66, .int p0, .int p1, .int p2] σ P := by
  unfold f_M_sumOf at h
  refine call_of (code := mc_M_sumOf) (L := [some (.ref 66), some (.int p0), some (.int p1), some (.int p2)]) rfl rfl rfl rfl ?_
  refine go_if (c := p0 = (-6 : Int32)) (k1 := 6) (L1 := [some (.ref 66), some (.int p0), some (.int p1), some (.int p2)]) (S1 := []) (σ1 := σ) (k2 := 3) (L2 := [some (.ref 66), some (.int p0), some (.int p1), some (.int p2)]) (S2 := []) (σ2 := σ) 3 (fun n h => h) (fun hc1 => ?_) (fun hc1 => ?_)
  · rw [if_pos hc1] at h
    cases h
    exact go_ret 2 (fun _ => hp)
  · rw [if_neg hc1] at h
    refine go_if (c := p1 ≠ (-6 : Int32)) (k1 := 8) (L1 := [some (.ref 66), some (.int p0), some (.int p1), some (.int p2)]) (S1 := []) (σ1 := σ) (k2 := 6) (L2 := [some (.ref 66), some (.int p0), some (.int p1), some (.int p2)]) (S2 := []) (σ2 := σ) 3 (fun n h => h) (fun hc2 => ?_) (fun hc2 => ?_)
    · rw [if_pos hc2] at h
      refine go_if (c := p1 ≠ (1000 : Int32)) (k1 := 13) (L1 := [some (.ref 66), some (.int p0), some (.int p1), some (.int p2)]) (S1 := []) (σ1 := σ) (k2 := 11) (L2 := [some (.ref 66), some (.int p0), some (.int p1), some (.int p2)]) (S2 := []) (σ2 := σ) 3 (fun n h => h) (fun hc3 => ?_) (fun hc3 => ?_)
      · rw [if_pos hc3] at h
        refine go_if (c := p0 ≠ (1000 : Int32)) (k1 := 24) (L1 := [some (.ref 66), some (.int p0), some (.int p1), some (.int p2)]) (S1 := []) (σ1 := σ) (k2 := 16) (L2 := [some (.ref 66), some (.int p0), some (.int p1), some (.int p2)]) (S2 := []) (σ2 := σ) 3 (fun n h => h) (fun hc4 => ?_) (fun hc4 => ?_)
        · rw [if_pos hc4] at h
          obtain ⟨x5, hx5, h⟩ := bind_of h
          refine go_call (r := none) (σc := σ) (σ1 := x5) (mi := 104) (vs := [.ref 66, .int p0, .int p1, .int p2]) (k' := 29) (L' := [some (.ref 66), some (.int p0), some (.int p1), some (.int p2)]) (S' := []) 5 (fun P9 h9 => c_M_joins (d + 0) p0 p1 p2 σ hx5 h9) (fun n h => h) ?_
          cases h
          exact go_ret 3 (fun _ => hp)
        · rw [if_neg hc4] at h
          refine go_if (c := p2 ≤ 0) (k1 := 20) (L1 := [some (.ref 66), some (.int p0), some (.int p1), some (.int p2)]) (S1 := []) (σ1 := σ) (k2 := 18) (L2 := [some (.ref 66), some (.int p0), some (.int p1), some (.int p2)]) (S2 := []) (σ2 := σ) 2 (fun n h => h) (fun hc6 => ?_) (fun hc6 => ?_)
          · rw [if_pos hc6] at h
            obtain ⟨x7, hx7, h⟩ := bind_of h
            refine go_call (r := some (.int x7)) (σc := σ) (σ1 := σ) (mi := 92) (vs := [.ref 66, .int p1]) (k' := 23) (L' := [some (.ref 66), some (.int p0), some (.int p1), some (.int p2)]) (S' := []) 3 (fun P9 h9 => c_M_turnedOf (d + 1) p1 σ hx7 h9) (fun n h => h) ?_
            cases h
            exact go_ret 1 (fun _ => hp)
          · rw [if_neg hc6] at h
            cases h
            exact go_ret 3 (fun _ => hp)
      · rw [if_neg hc3] at h
        cases h
        exact go_ret 2 (fun _ => hp)
    · rw [if_neg hc2] at h
      cases h
      exact go_ret 2 (fun _ => hp)
def f_M_sum (N : Nat) (p0 : Int32) (p1 : Int32) (σ : aSt) : Option (Int32 × aSt) :=
  (if (f_M_isPoint p0 σ) = true then (if (f_M_isPoint p1 σ) = true then ((f_M_sumOf N p0 p1 (1 : Int32) σ).bind fun x3 => some (x3.1, x3.2)) else some ((-2 : Int32), σ)) else some ((-2 : Int32), σ))
set_option maxRecDepth 20000 in
set_option maxHeartbeats 4000000 in
theorem c_M_sum (d : Nat) {N : Nat} (p0 : Int32) (p1 : Int32) (σ : aSt) {P : Option Value → aSt → Prop} {x : (Int32 × aSt)} (h : f_M_sum N p0 p1 σ = some x) (hp : P (some (.int x.1)) x.2) : aCall MT (d + 5) 106 [.ref 66, .int p0, .int p1] σ P := by
  unfold f_M_sum at h
  refine call_of (code := mc_M_sum) (L := [some (.ref 66), some (.int p0), some (.int p1)]) rfl rfl rfl rfl ?_
  refine go_call (r := some (.int (b2i (f_M_isPoint p0 σ)))) (σc := σ) (σ1 := σ) (mi := 90) (vs := [.ref 66, .int p0]) (k' := 3) (L' := [some (.ref 66), some (.int p0), some (.int p1)]) (S' := []) 3 (fun P9 h9 => c_M_isPoint (d + 1) p0 σ h9) (fun n h => h) ?_
  refine go_ifz (b := (f_M_isPoint p0 σ)) (k1 := 14) (L1 := [some (.ref 66), some (.int p0), some (.int p1)]) (S1 := []) (σ1 := σ) (k2 := 4) (L2 := [some (.ref 66), some (.int p0), some (.int p1)]) (S2 := []) (σ2 := σ) 1 (fun n h => h) (fun hc1 => ?_) (fun hc1 => ?_)
  · rw [if_neg hc1] at h
    cases h
    exact go_ret 2 (fun _ => hp)
  · rw [if_pos hc1] at h
    refine go_call (r := some (.int (b2i (f_M_isPoint p1 σ)))) (σc := σ) (σ1 := σ) (mi := 90) (vs := [.ref 66, .int p1]) (k' := 7) (L' := [some (.ref 66), some (.int p0), some (.int p1)]) (S' := []) 3 (fun P9 h9 => c_M_isPoint (d + 1) p1 σ h9) (fun n h => h) ?_
    refine go_ifz (b := (f_M_isPoint p1 σ)) (k1 := 14) (L1 := [some (.ref 66), some (.int p0), some (.int p1)]) (S1 := []) (σ1 := σ) (k2 := 8) (L2 := [some (.ref 66), some (.int p0), some (.int p1)]) (S2 := []) (σ2 := σ) 1 (fun n h => h) (fun hc2 => ?_) (fun hc2 => ?_)
    · rw [if_neg hc2] at h
      cases h
      exact go_ret 2 (fun _ => hp)
    · rw [if_pos hc2] at h
      obtain ⟨x3, hx3, h⟩ := bind_of h
      refine go_call (r := some (.int x3.1)) (σc := σ) (σ1 := x3.2) (mi := 105) (vs := [.ref 66, .int p0, .int p1, .int (1 : Int32)]) (k' := 13) (L' := [some (.ref 66), some (.int p0), some (.int p1)]) (S' := []) 5 (fun P9 h9 => c_M_sumOf (d + 0) p0 p1 (1 : Int32) σ hx3 h9) (fun n h => h) ?_
      cases h
      exact go_ret 2 (fun _ => hp)
def f_M_heightOf (p0 : Int64) (p1 : Int64) : Int64 :=
  (lmax (labs p0) p1)
set_option maxRecDepth 20000 in
set_option maxHeartbeats 4000000 in
theorem c_M_heightOf (d : Nat) (p0 : Int64) (p1 : Int64) (σ : aSt) {P : Option Value → aSt → Prop} (h : P (some (.long ((f_M_heightOf p0 p1)))) σ) : aCall MT (d + 1) 114 [.long p0, .long p1] σ P := by
  unfold f_M_heightOf at h
  refine call_of (code := mc_M_heightOf) (L := [some (.long p0), none, some (.long p1), none]) rfl rfl rfl rfl ?_
  exact go_ret 5 (fun _ => h)
def f_M_of_b30 (N : Nat) (v4 : Int32) (s1 : Int32) (s2 : Int32) (s3 : Int32) (σ : aSt) : Option (Int64 × aSt) :=
  ((f_M_joins N s1 s2 s3 σ).bind fun x6 => (if (x6.2.2 66 25) = true then some ((-9223372036854775808 : Int64), x6) else (if v4 ≠ 0 then (if v4 ≠ (1 : Int32) then some ((f_M_heightOf (x6.2.1 66 23) (x6.2.1 66 24)), x6) else some ((x6.2.1 66 24), x6)) else some ((x6.2.1 66 23), x6))))
set_option maxRecDepth 20000 in
set_option maxHeartbeats 4000000 in
theorem t_M_of_b30 (d : Nat) {N : Nat} (d1 d2 d3 : Option Value) (v4 : Int32) (s1 : Int32) (s2 : Int32) (s3 : Int32) (σ : aSt) {P : Option Value → aSt → Prop} {x : (Int64 × aSt)} (h : f_M_of_b30 N v4 s1 s2 s3 σ = some x) (hp : P (some (.long x.1)) x.2) : aGo (aCall MT (d + 3)) P mc_M_of 30 [some (.ref 66), d1, d2, d3, some (.int v4)] [.int s3, .int s2, .int s1, .ref 66] σ := by
  unfold f_M_of_b30 at h
  obtain ⟨x6, hx6, h⟩ := bind_of h
  refine go_call (r := none) (σc := σ) (σ1 := x6) (mi := 104) (vs := [.ref 66, .int s1, .int s2, .int s3]) (k' := 31) (L' := [some (.ref 66), d1, d2, d3, some (.int v4)]) (S' := []) 1 (fun P9 h9 => c_M_joins (d + 0) s1 s2 s3 σ hx6 h9) (fun n h => h) ?_
  refine go_ifz (b := (x6.2.2 66 25)) (k1 := 36) (L1 := [some (.ref 66), d1, d2, d3, some (.int v4)]) (S1 := []) (σ1 := x6) (k2 := 34) (L2 := [some (.ref 66), d1, d2, d3, some (.int v4)]) (S2 := []) (σ2 := x6) 3 (fun n h => h) (fun hc7 => ?_) (fun hc7 => ?_)
  · rw [if_neg hc7] at h
    refine go_if (c := v4 ≠ 0) (k1 := 41) (L1 := [some (.ref 66), d1, d2, d3, some (.int v4)]) (S1 := []) (σ1 := x6) (k2 := 38) (L2 := [some (.ref 66), d1, d2, d3, some (.int v4)]) (S2 := []) (σ2 := x6) 2 (fun n h => h) (fun hc8 => ?_) (fun hc8 => ?_)
    · rw [if_pos hc8] at h
      refine go_if (c := v4 ≠ (1 : Int32)) (k1 := 47) (L1 := [some (.ref 66), d1, d2, d3, some (.int v4)]) (S1 := []) (σ1 := x6) (k2 := 44) (L2 := [some (.ref 66), d1, d2, d3, some (.int v4)]) (S2 := []) (σ2 := x6) 3 (fun n h => h) (fun hc9 => ?_) (fun hc9 => ?_)
      · rw [if_pos hc9] at h
        refine go_call (r := some (.long (f_M_heightOf (x6.2.1 66 23) (x6.2.1 66 24)))) (σc := x6) (σ1 := x6) (mi := 114) (vs := [.long (x6.2.1 66 23), .long (x6.2.1 66 24)]) (k' := 52) (L' := [some (.ref 66), d1, d2, d3, some (.int v4)]) (S' := []) 5 (fun P9 h9 => c_M_heightOf (d + 2) (x6.2.1 66 23) (x6.2.1 66 24) x6 h9) (fun n h => h) ?_
        cases h
        exact go_ret 1 (fun _ => hp)
      · rw [if_neg hc9] at h
        cases h
        exact go_ret 4 (fun _ => hp)
    · rw [if_neg hc8] at h
      cases h
      exact go_ret 4 (fun _ => hp)
  · rw [if_pos hc7] at h
    cases h
    exact go_ret 2 (fun _ => hp)
def f_M_of (N : Nat) (p0 : Int32) (p1 : Int32) (p2 : Int32) (p3 : Int32) (σ : aSt) : Option (Int64 × aSt) :=
  (if (f_M_isListed p0 σ) = true then (if (f_M_isListed p1 σ) = true then (if (f_M_in p2.toInt64 (0 : Int64) (1 : Int64)) = true then (if (f_M_in p3.toInt64 (0 : Int64) (2 : Int64)) = true then (if p2 ≠ 0 then f_M_of_b30 N p3 p0 p1 (-1 : Int32) σ else f_M_of_b30 N p3 p0 p1 (1 : Int32) σ) else some ((-9223372036854775808 : Int64), σ)) else some ((-9223372036854775808 : Int64), σ)) else some ((-9223372036854775808 : Int64), σ)) else some ((-9223372036854775808 : Int64), σ))
set_option maxRecDepth 20000 in
set_option maxHeartbeats 4000000 in
theorem c_M_of (d : Nat) {N : Nat} (p0 : Int32) (p1 : Int32) (p2 : Int32) (p3 : Int32) (σ : aSt) {P : Option Value → aSt → Prop} {x : (Int64 × aSt)} (h : f_M_of N p0 p1 p2 p3 σ = some x) (hp : P (some (.long x.1)) x.2) : aCall MT (d + 4) 115 [.ref 66, .int p0, .int p1, .int p2, .int p3] σ P := by
  unfold f_M_of at h
  refine call_of (code := mc_M_of) (L := [some (.ref 66), some (.int p0), some (.int p1), some (.int p2), some (.int p3)]) rfl rfl rfl rfl ?_
  refine go_call (r := some (.int (b2i (f_M_isListed p0 σ)))) (σc := σ) (σ1 := σ) (mi := 79) (vs := [.ref 66, .int p0]) (k' := 3) (L' := [some (.ref 66), some (.int p0), some (.int p1), some (.int p2), some (.int p3)]) (S' := []) 3 (fun P9 h9 => c_M_isListed (d + 1) p0 σ h9) (fun n h => h) ?_
  refine go_ifz (b := (f_M_isListed p0 σ)) (k1 := 20) (L1 := [some (.ref 66), some (.int p0), some (.int p1), some (.int p2), some (.int p3)]) (S1 := []) (σ1 := σ) (k2 := 4) (L2 := [some (.ref 66), some (.int p0), some (.int p1), some (.int p2), some (.int p3)]) (S2 := []) (σ2 := σ) 1 (fun n h => h) (fun hc1 => ?_) (fun hc1 => ?_)
  · rw [if_neg hc1] at h
    cases h
    exact go_ret 2 (fun _ => hp)
  · rw [if_pos hc1] at h
    refine go_call (r := some (.int (b2i (f_M_isListed p1 σ)))) (σc := σ) (σ1 := σ) (mi := 79) (vs := [.ref 66, .int p1]) (k' := 7) (L' := [some (.ref 66), some (.int p0), some (.int p1), some (.int p2), some (.int p3)]) (S' := []) 3 (fun P9 h9 => c_M_isListed (d + 1) p1 σ h9) (fun n h => h) ?_
    refine go_ifz (b := (f_M_isListed p1 σ)) (k1 := 20) (L1 := [some (.ref 66), some (.int p0), some (.int p1), some (.int p2), some (.int p3)]) (S1 := []) (σ1 := σ) (k2 := 8) (L2 := [some (.ref 66), some (.int p0), some (.int p1), some (.int p2), some (.int p3)]) (S2 := []) (σ2 := σ) 1 (fun n h => h) (fun hc2 => ?_) (fun hc2 => ?_)
    · rw [if_neg hc2] at h
      cases h
      exact go_ret 2 (fun _ => hp)
    · rw [if_pos hc2] at h
      refine go_call (r := some (.int (b2i (f_M_in p2.toInt64 (0 : Int64) (1 : Int64))))) (σc := σ) (σ1 := σ) (mi := 7) (vs := [.long p2.toInt64, .long (0 : Int64), .long (1 : Int64)]) (k' := 13) (L' := [some (.ref 66), some (.int p0), some (.int p1), some (.int p2), some (.int p3)]) (S' := []) 5 (fun P9 h9 => c_M_in (d + 2) p2.toInt64 (0 : Int64) (1 : Int64) σ h9) (fun n h => h) ?_
      refine go_ifz (b := (f_M_in p2.toInt64 (0 : Int64) (1 : Int64))) (k1 := 20) (L1 := [some (.ref 66), some (.int p0), some (.int p1), some (.int p2), some (.int p3)]) (S1 := []) (σ1 := σ) (k2 := 14) (L2 := [some (.ref 66), some (.int p0), some (.int p1), some (.int p2), some (.int p3)]) (S2 := []) (σ2 := σ) 1 (fun n h => h) (fun hc3 => ?_) (fun hc3 => ?_)
      · rw [if_neg hc3] at h
        cases h
        exact go_ret 2 (fun _ => hp)
      · rw [if_pos hc3] at h
        refine go_call (r := some (.int (b2i (f_M_in p3.toInt64 (0 : Int64) (2 : Int64))))) (σc := σ) (σ1 := σ) (mi := 7) (vs := [.long p3.toInt64, .long (0 : Int64), .long (2 : Int64)]) (k' := 19) (L' := [some (.ref 66), some (.int p0), some (.int p1), some (.int p2), some (.int p3)]) (S' := []) 5 (fun P9 h9 => c_M_in (d + 2) p3.toInt64 (0 : Int64) (2 : Int64) σ h9) (fun n h => h) ?_
        refine go_ifn (b := (f_M_in p3.toInt64 (0 : Int64) (2 : Int64))) (k1 := 22) (L1 := [some (.ref 66), some (.int p0), some (.int p1), some (.int p2), some (.int p3)]) (S1 := []) (σ1 := σ) (k2 := 20) (L2 := [some (.ref 66), some (.int p0), some (.int p1), some (.int p2), some (.int p3)]) (S2 := []) (σ2 := σ) 1 (fun n h => h) (fun hc4 => ?_) (fun hc4 => ?_)
        · rw [if_pos hc4] at h
          refine go_if (c := p2 ≠ 0) (k1 := 29) (L1 := [some (.ref 66), some (.int p0), some (.int p1), some (.int p2), some (.int p3)]) (S1 := [.int p1, .int p0, .ref 66]) (σ1 := σ) (k2 := 27) (L2 := [some (.ref 66), some (.int p0), some (.int p1), some (.int p2), some (.int p3)]) (S2 := [.int p1, .int p0, .ref 66]) (σ2 := σ) 5 (fun n h => h) (fun hc5 => ?_) (fun hc5 => ?_)
          · rw [if_pos hc5] at h
            refine go_st (k' := 30) (L' := [some (.ref 66), some (.int p0), some (.int p1), some (.int p2), some (.int p3)]) (S' := [.int (-1 : Int32), .int p1, .int p0, .ref 66]) (σ' := σ) 1 (fun n h => h) ?_
            exact t_M_of_b30 d _ _ _ p3 p0 p1 (-1 : Int32) σ h hp
          · rw [if_neg hc5] at h
            refine go_st (k' := 30) (L' := [some (.ref 66), some (.int p0), some (.int p1), some (.int p2), some (.int p3)]) (S' := [.int (1 : Int32), .int p1, .int p0, .ref 66]) (σ' := σ) 2 (fun n h => h) ?_
            exact t_M_of_b30 d _ _ _ p3 p0 p1 (1 : Int32) σ h hp
        · rw [if_neg hc4] at h
          cases h
          exact go_ret 2 (fun _ => hp)
def f_M_timesOf_l4 (N : Nat) : Nat → Int32 → Int32 → Int32 → Int32 → aSt → Option (Int32 × aSt)
  | 0, _, _, _, _, _ => none
  | n + 1, v1, v2, v3, v4, σ => (if (iabs v2) ≤ v4 then (if v3 ≠ (-6 : Int32) then (if 0 ≤ v2 then some (v3, σ) else ((f_M_turnedOf N v3 σ).bind fun x4 => some (x4, σ))) else some ((-6 : Int32), σ)) else ((f_M_sumOf N v3 v1 (1 : Int32) σ).bind fun x5 => f_M_timesOf_l4 N n v1 v2 x5.1 (v4 + (1 : Int32)) x5.2))
set_option maxRecDepth 20000 in
set_option maxHeartbeats 4000000 in
theorem t_M_timesOf_l4 (d : Nat) {N : Nat} {x : (Int32 × aSt)} {P : Option Value → aSt → Prop} (hp : P (some (.int x.1)) x.2) : ∀ (n : Nat) (v1 : Int32) (v2 : Int32) (v3 : Int32) (v4 : Int32) (σ : aSt), f_M_timesOf_l4 N n v1 v2 v3 v4 σ = some x → aGo (aCall MT (d + 4)) P mc_M_timesOf 4 [some (.ref 66), some (.int v1), some (.int v2), some (.int v3), some (.int v4)] [] σ := by
  intro n
  induction n with
  | zero => intro v1 v2 v3 v4 σ h; cases h
  | succ n ih =>
    intro v1 v2 v3 v4 σ h
    rw [f_M_timesOf_l4] at h
    refine go_if (c := (iabs v2) ≤ v4) (k1 := 16) (L1 := [some (.ref 66), some (.int v1), some (.int v2), some (.int v3), some (.int v4)]) (S1 := []) (σ1 := σ) (k2 := 8) (L2 := [some (.ref 66), some (.int v1), some (.int v2), some (.int v3), some (.int v4)]) (S2 := []) (σ2 := σ) 4 (fun n h => h) (fun hc1 => ?_) (fun hc1 => ?_)
    · rw [if_pos hc1] at h
      refine go_if (c := v3 ≠ (-6 : Int32)) (k1 := 21) (L1 := [some (.ref 66), some (.int v1), some (.int v2), some (.int v3), some (.int v4)]) (S1 := []) (σ1 := σ) (k2 := 19) (L2 := [some (.ref 66), some (.int v1), some (.int v2), some (.int v3), some (.int v4)]) (S2 := []) (σ2 := σ) 3 (fun n h => h) (fun hc2 => ?_) (fun hc2 => ?_)
      · rw [if_pos hc2] at h
        refine go_if (c := 0 ≤ v2) (k1 := 27) (L1 := [some (.ref 66), some (.int v1), some (.int v2), some (.int v3), some (.int v4)]) (S1 := []) (σ1 := σ) (k2 := 23) (L2 := [some (.ref 66), some (.int v1), some (.int v2), some (.int v3), some (.int v4)]) (S2 := []) (σ2 := σ) 2 (fun n h => h) (fun hc3 => ?_) (fun hc3 => ?_)
        · rw [if_pos hc3] at h
          cases h
          exact go_ret 2 (fun _ => hp)
        · rw [if_neg hc3] at h
          obtain ⟨x4, hx4, h⟩ := bind_of h
          refine go_call (r := some (.int x4)) (σc := σ) (σ1 := σ) (mi := 92) (vs := [.ref 66, .int v3]) (k' := 26) (L' := [some (.ref 66), some (.int v1), some (.int v2), some (.int v3), some (.int v4)]) (S' := []) 3 (fun P9 h9 => c_M_turnedOf (d + 2) v3 σ hx4 h9) (fun n h => h) ?_
          cases h
          exact go_ret 2 (fun _ => hp)
      · rw [if_neg hc2] at h
        cases h
        exact go_ret 3 (fun _ => hp)
    · rw [if_neg hc1] at h
      obtain ⟨x5, hx5, h⟩ := bind_of h
      refine go_call (r := some (.int x5.1)) (σc := σ) (σ1 := x5.2) (mi := 105) (vs := [.ref 66, .int v3, .int v1, .int (1 : Int32)]) (k' := 13) (L' := [some (.ref 66), some (.int v1), some (.int v2), some (.int v3), some (.int v4)]) (S' := []) 5 (fun P9 h9 => c_M_sumOf (d + 0) v3 v1 (1 : Int32) σ hx5 h9) (fun n h => h) ?_
      refine go_st (k' := 4) (L' := [some (.ref 66), some (.int v1), some (.int v2), some (.int x5.1), some (.int (v4 + (1 : Int32)))]) (S' := []) (σ' := x5.2) 3 (fun n h => h) ?_
      exact ih v1 v2 x5.1 (v4 + (1 : Int32)) x5.2 h
def f_M_timesOf (N : Nat) (p0 : Int32) (p1 : Int32) (σ : aSt) : Option (Int32 × aSt) :=
  f_M_timesOf_l4 N N p0 p1 (1000 : Int32) (0 : Int32) σ
set_option maxRecDepth 20000 in
set_option maxHeartbeats 4000000 in
theorem c_M_timesOf (d : Nat) {N : Nat} (p0 : Int32) (p1 : Int32) (σ : aSt) {P : Option Value → aSt → Prop} {x : (Int32 × aSt)} (h : f_M_timesOf N p0 p1 σ = some x) (hp : P (some (.int x.1)) x.2) : aCall MT (d + 5) 118 [.ref 66, .int p0, .int p1] σ P := by
  unfold f_M_timesOf at h
  refine call_of (code := mc_M_timesOf) (L := [some (.ref 66), some (.int p0), some (.int p1), none, none]) rfl rfl rfl rfl ?_
  refine go_st (k' := 4) (L' := [some (.ref 66), some (.int p0), some (.int p1), some (.int (1000 : Int32)), some (.int (0 : Int32))]) (S' := []) (σ' := σ) 4 (fun n h => h) ?_
  exact t_M_timesOf_l4 d hp N p0 p1 (1000 : Int32) (0 : Int32) σ h
def f_M_times (N : Nat) (p0 : Int32) (p1 : Int32) (σ : aSt) : Option (Int32 × aSt) :=
  (if (f_M_isPoint p0 σ) = true then (if (f_M_in p1.toInt64 (-20 : Int64) (20 : Int64)) = true then ((f_M_timesOf N p0 p1 σ).bind fun x3 => some (x3.1, x3.2)) else some ((-2 : Int32), σ)) else some ((-2 : Int32), σ))
set_option maxRecDepth 20000 in
set_option maxHeartbeats 4000000 in
theorem c_M_times (d : Nat) {N : Nat} (p0 : Int32) (p1 : Int32) (σ : aSt) {P : Option Value → aSt → Prop} {x : (Int32 × aSt)} (h : f_M_times N p0 p1 σ = some x) (hp : P (some (.int x.1)) x.2) : aCall MT (d + 6) 119 [.ref 66, .int p0, .int p1] σ P := by
  unfold f_M_times at h
  refine call_of (code := mc_M_times) (L := [some (.ref 66), some (.int p0), some (.int p1)]) rfl rfl rfl rfl ?_
  refine go_call (r := some (.int (b2i (f_M_isPoint p0 σ)))) (σc := σ) (σ1 := σ) (mi := 90) (vs := [.ref 66, .int p0]) (k' := 3) (L' := [some (.ref 66), some (.int p0), some (.int p1)]) (S' := []) 3 (fun P9 h9 => c_M_isPoint (d + 2) p0 σ h9) (fun n h => h) ?_
  refine go_ifz (b := (f_M_isPoint p0 σ)) (k1 := 15) (L1 := [some (.ref 66), some (.int p0), some (.int p1)]) (S1 := []) (σ1 := σ) (k2 := 4) (L2 := [some (.ref 66), some (.int p0), some (.int p1)]) (S2 := []) (σ2 := σ) 1 (fun n h => h) (fun hc1 => ?_) (fun hc1 => ?_)
  · rw [if_neg hc1] at h
    cases h
    exact go_ret 2 (fun _ => hp)
  · rw [if_pos hc1] at h
    refine go_call (r := some (.int (b2i (f_M_in p1.toInt64 (-20 : Int64) (20 : Int64))))) (σc := σ) (σ1 := σ) (mi := 7) (vs := [.long p1.toInt64, .long (-20 : Int64), .long (20 : Int64)]) (k' := 9) (L' := [some (.ref 66), some (.int p0), some (.int p1)]) (S' := []) 5 (fun P9 h9 => c_M_in (d + 4) p1.toInt64 (-20 : Int64) (20 : Int64) σ h9) (fun n h => h) ?_
    refine go_ifz (b := (f_M_in p1.toInt64 (-20 : Int64) (20 : Int64))) (k1 := 15) (L1 := [some (.ref 66), some (.int p0), some (.int p1)]) (S1 := []) (σ1 := σ) (k2 := 10) (L2 := [some (.ref 66), some (.int p0), some (.int p1)]) (S2 := []) (σ2 := σ) 1 (fun n h => h) (fun hc2 => ?_) (fun hc2 => ?_)
    · rw [if_neg hc2] at h
      cases h
      exact go_ret 2 (fun _ => hp)
    · rw [if_pos hc2] at h
      obtain ⟨x3, hx3, h⟩ := bind_of h
      refine go_call (r := some (.int x3.1)) (σc := σ) (σ1 := x3.2) (mi := 118) (vs := [.ref 66, .int p0, .int p1]) (k' := 14) (L' := [some (.ref 66), some (.int p0), some (.int p1)]) (S' := []) 4 (fun P9 h9 => c_M_timesOf (d + 0) p0 p1 σ hx3 h9) (fun n h => h) ?_
      cases h
      exact go_ret 2 (fun _ => hp)
def f_M_orderOf_l4 (N : Nat) : Nat → Int32 → Int32 → Int32 → aSt → Option (Int32 × aSt)
  | 0, _, _, _, _ => none
  | n + 1, v1, v2, v3, σ => (if (12 : Int32) < v3 then some ((0 : Int32), σ) else ((f_M_sumOf N v2 v1 (1 : Int32) σ).bind fun x2 => (if x2.1 ≠ (1000 : Int32) then (if x2.1 ≠ (-6 : Int32) then f_M_orderOf_l4 N n v1 x2.1 (v3 + (1 : Int32)) x2.2 else some ((0 : Int32), x2.2)) else some (v3, x2.2))))
set_option maxRecDepth 20000 in
set_option maxHeartbeats 4000000 in
theorem t_M_orderOf_l4 (d : Nat) {N : Nat} {x : (Int32 × aSt)} {P : Option Value → aSt → Prop} (hp : P (some (.int x.1)) x.2) : ∀ (n : Nat) (v1 : Int32) (v2 : Int32) (v3 : Int32) (σ : aSt), f_M_orderOf_l4 N n v1 v2 v3 σ = some x → aGo (aCall MT (d + 4)) P mc_M_orderOf 4 [some (.ref 66), some (.int v1), some (.int v2), some (.int v3)] [] σ := by
  intro n
  induction n with
  | zero => intro v1 v2 v3 σ h; cases h
  | succ n ih =>
    intro v1 v2 v3 σ h
    rw [f_M_orderOf_l4] at h
    refine go_if (c := (12 : Int32) < v3) (k1 := 25) (L1 := [some (.ref 66), some (.int v1), some (.int v2), some (.int v3)]) (S1 := []) (σ1 := σ) (k2 := 7) (L2 := [some (.ref 66), some (.int v1), some (.int v2), some (.int v3)]) (S2 := []) (σ2 := σ) 3 (fun n h => h) (fun hc1 => ?_) (fun hc1 => ?_)
    · rw [if_pos hc1] at h
      cases h
      exact go_ret 2 (fun _ => hp)
    · rw [if_neg hc1] at h
      obtain ⟨x2, hx2, h⟩ := bind_of h
      refine go_call (r := some (.int x2.1)) (σc := σ) (σ1 := x2.2) (mi := 105) (vs := [.ref 66, .int v2, .int v1, .int (1 : Int32)]) (k' := 12) (L' := [some (.ref 66), some (.int v1), some (.int v2), some (.int v3)]) (S' := []) 5 (fun P9 h9 => c_M_sumOf (d + 0) v2 v1 (1 : Int32) σ hx2 h9) (fun n h => h) ?_
      refine go_if (c := x2.1 ≠ (1000 : Int32)) (k1 := 18) (L1 := [some (.ref 66), some (.int v1), some (.int x2.1), some (.int v3)]) (S1 := []) (σ1 := x2.2) (k2 := 16) (L2 := [some (.ref 66), some (.int v1), some (.int x2.1), some (.int v3)]) (S2 := []) (σ2 := x2.2) 4 (fun n h => h) (fun hc3 => ?_) (fun hc3 => ?_)
      · rw [if_pos hc3] at h
        refine go_if (c := x2.1 ≠ (-6 : Int32)) (k1 := 23) (L1 := [some (.ref 66), some (.int v1), some (.int x2.1), some (.int v3)]) (S1 := []) (σ1 := x2.2) (k2 := 21) (L2 := [some (.ref 66), some (.int v1), some (.int x2.1), some (.int v3)]) (S2 := []) (σ2 := x2.2) 3 (fun n h => h) (fun hc4 => ?_) (fun hc4 => ?_)
        · rw [if_pos hc4] at h
          refine go_st (k' := 4) (L' := [some (.ref 66), some (.int v1), some (.int x2.1), some (.int (v3 + (1 : Int32)))]) (S' := []) (σ' := x2.2) 2 (fun n h => h) ?_
          exact ih v1 x2.1 (v3 + (1 : Int32)) x2.2 h
        · rw [if_neg hc4] at h
          cases h
          exact go_ret 2 (fun _ => hp)
      · rw [if_neg hc3] at h
        cases h
        exact go_ret 2 (fun _ => hp)
def f_M_orderOf (N : Nat) (p0 : Int32) (σ : aSt) : Option (Int32 × aSt) :=
  f_M_orderOf_l4 N N p0 (1000 : Int32) (1 : Int32) σ
set_option maxRecDepth 20000 in
set_option maxHeartbeats 4000000 in
theorem c_M_orderOf (d : Nat) {N : Nat} (p0 : Int32) (σ : aSt) {P : Option Value → aSt → Prop} {x : (Int32 × aSt)} (h : f_M_orderOf N p0 σ = some x) (hp : P (some (.int x.1)) x.2) : aCall MT (d + 5) 122 [.ref 66, .int p0] σ P := by
  unfold f_M_orderOf at h
  refine call_of (code := mc_M_orderOf) (L := [some (.ref 66), some (.int p0), none, none]) rfl rfl rfl rfl ?_
  refine go_st (k' := 4) (L' := [some (.ref 66), some (.int p0), some (.int (1000 : Int32)), some (.int (1 : Int32))]) (S' := []) (σ' := σ) 4 (fun n h => h) ?_
  exact t_M_orderOf_l4 d hp N p0 (1000 : Int32) (1 : Int32) σ h
def f_M_order (N : Nat) (p0 : Int32) (σ : aSt) : Option (Int32 × aSt) :=
  (if (f_M_isPoint p0 σ) = true then ((f_M_orderOf N p0 σ).bind fun x2 => some (x2.1, x2.2)) else some ((-2 : Int32), σ))
set_option maxRecDepth 20000 in
set_option maxHeartbeats 4000000 in
theorem c_M_order (d : Nat) {N : Nat} (p0 : Int32) (σ : aSt) {P : Option Value → aSt → Prop} {x : (Int32 × aSt)} (h : f_M_order N p0 σ = some x) (hp : P (some (.int x.1)) x.2) : aCall MT (d + 6) 123 [.ref 66, .int p0] σ P := by
  unfold f_M_order at h
  refine call_of (code := mc_M_order) (L := [some (.ref 66), some (.int p0)]) rfl rfl rfl rfl ?_
  refine go_call (r := some (.int (b2i (f_M_isPoint p0 σ)))) (σc := σ) (σ1 := σ) (mi := 90) (vs := [.ref 66, .int p0]) (k' := 3) (L' := [some (.ref 66), some (.int p0)]) (S' := []) 3 (fun P9 h9 => c_M_isPoint (d + 2) p0 σ h9) (fun n h => h) ?_
  refine go_ifz (b := (f_M_isPoint p0 σ)) (k1 := 8) (L1 := [some (.ref 66), some (.int p0)]) (S1 := []) (σ1 := σ) (k2 := 4) (L2 := [some (.ref 66), some (.int p0)]) (S2 := []) (σ2 := σ) 1 (fun n h => h) (fun hc1 => ?_) (fun hc1 => ?_)
  · rw [if_neg hc1] at h
    cases h
    exact go_ret 2 (fun _ => hp)
  · rw [if_pos hc1] at h
    obtain ⟨x2, hx2, h⟩ := bind_of h
    refine go_call (r := some (.int x2.1)) (σc := σ) (σ1 := x2.2) (mi := 122) (vs := [.ref 66, .int p0]) (k' := 7) (L' := [some (.ref 66), some (.int p0)]) (S' := []) 3 (fun P9 h9 => c_M_orderOf (d + 0) p0 σ hx2 h9) (fun n h => h) ?_
    cases h
    exact go_ret 2 (fun _ => hp)
def f_M_round_l19 (N : Nat) : Nat → Int32 → Int32 → Int32 → Int32 → Int32 → aSt → Option (Int32 × aSt)
  | 0, _, _, _, _, _, _ => none
  | n + 1, v1, v2, v3, v4, v5, σ => (if (σ.1 66 9) ≤ v5 then (if v1 ≠ 0 then (if v1 ≠ (1 : Int32) then some (v4, σ) else some (v3, σ)) else some (v2, σ)) else ((f_M_orderOf N v5 σ).bind fun x6 => (if x6.1 ≤ 0 then (if x6.1 ≠ (2 : Int32) then f_M_round_l19 N n v1 (v2 + (0 : Int32)) (imax v3 x6.1) (v4 + (0 : Int32)) (v5 + (1 : Int32)) x6.2 else f_M_round_l19 N n v1 (v2 + (0 : Int32)) (imax v3 x6.1) (v4 + (1 : Int32)) (v5 + (1 : Int32)) x6.2) else (if x6.1 ≠ (2 : Int32) then f_M_round_l19 N n v1 (v2 + (1 : Int32)) (imax v3 x6.1) (v4 + (0 : Int32)) (v5 + (1 : Int32)) x6.2 else f_M_round_l19 N n v1 (v2 + (1 : Int32)) (imax v3 x6.1) (v4 + (1 : Int32)) (v5 + (1 : Int32)) x6.2))))
set_option maxRecDepth 20000 in
set_option maxHeartbeats 4000000 in
theorem t_M_round_l19 (d : Nat) {N : Nat} {x : (Int32 × aSt)} {P : Option Value → aSt → Prop} (hp : P (some (.int x.1)) x.2) : ∀ (n : Nat) (d6 : Option Value) (v1 : Int32) (v2 : Int32) (v3 : Int32) (v4 : Int32) (v5 : Int32) (σ : aSt), f_M_round_l19 N n v1 v2 v3 v4 v5 σ = some x → aGo (aCall MT (d + 5)) P mc_M_round 19 [some (.ref 66), some (.int v1), some (.int v2), some (.int v3), some (.int v4), some (.int v5), d6] [] σ := by
  intro n
  induction n with
  | zero => intro d6 v1 v2 v3 v4 v5 σ h; cases h
  | succ n ih =>
    intro d6 v1 v2 v3 v4 v5 σ h
    rw [f_M_round_l19] at h
    refine go_if (c := (σ.1 66 9) ≤ v5) (k1 := 50) (L1 := [some (.ref 66), some (.int v1), some (.int v2), some (.int v3), some (.int v4), some (.int v5), d6]) (S1 := []) (σ1 := σ) (k2 := 23) (L2 := [some (.ref 66), some (.int v1), some (.int v2), some (.int v3), some (.int v4), some (.int v5), d6]) (S2 := []) (σ2 := σ) 4 (fun n h => h) (fun hc3 => ?_) (fun hc3 => ?_)
    · rw [if_pos hc3] at h
      refine go_if (c := v1 ≠ 0) (k1 := 54) (L1 := [some (.ref 66), some (.int v1), some (.int v2), some (.int v3), some (.int v4), some (.int v5), d6]) (S1 := []) (σ1 := σ) (k2 := 52) (L2 := [some (.ref 66), some (.int v1), some (.int v2), some (.int v3), some (.int v4), some (.int v5), d6]) (S2 := []) (σ2 := σ) 2 (fun n h => h) (fun hc4 => ?_) (fun hc4 => ?_)
      · rw [if_pos hc4] at h
        refine go_if (c := v1 ≠ (1 : Int32)) (k1 := 59) (L1 := [some (.ref 66), some (.int v1), some (.int v2), some (.int v3), some (.int v4), some (.int v5), d6]) (S1 := []) (σ1 := σ) (k2 := 57) (L2 := [some (.ref 66), some (.int v1), some (.int v2), some (.int v3), some (.int v4), some (.int v5), d6]) (S2 := []) (σ2 := σ) 3 (fun n h => h) (fun hc5 => ?_) (fun hc5 => ?_)
        · rw [if_pos hc5] at h
          cases h
          exact go_ret 2 (fun _ => hp)
        · rw [if_neg hc5] at h
          cases h
          exact go_ret 3 (fun _ => hp)
      · rw [if_neg hc4] at h
        cases h
        exact go_ret 3 (fun _ => hp)
    · rw [if_neg hc3] at h
      obtain ⟨x6, hx6, h⟩ := bind_of h
      refine go_call (r := some (.int x6.1)) (σc := σ) (σ1 := x6.2) (mi := 122) (vs := [.ref 66, .int v5]) (k' := 26) (L' := [some (.ref 66), some (.int v1), some (.int v2), some (.int v3), some (.int v4), some (.int v5), d6]) (S' := []) 3 (fun P9 h9 => c_M_orderOf (d + 0) v5 σ hx6 h9) (fun n h => h) ?_
      refine go_if (c := x6.1 ≤ 0) (k1 := 32) (L1 := [some (.ref 66), some (.int v1), some (.int v2), some (.int v3), some (.int v4), some (.int v5), some (.int x6.1)]) (S1 := [.int v2]) (σ1 := x6.2) (k2 := 30) (L2 := [some (.ref 66), some (.int v1), some (.int v2), some (.int v3), some (.int v4), some (.int v5), some (.int x6.1)]) (S2 := [.int v2]) (σ2 := x6.2) 4 (fun n h => h) (fun hc7 => ?_) (fun hc7 => ?_)
      · rw [if_pos hc7] at h
        refine go_if (c := x6.1 ≠ (2 : Int32)) (k1 := 45) (L1 := [some (.ref 66), some (.int v1), some (.int (v2 + (0 : Int32))), some (.int (imax v3 x6.1)), some (.int v4), some (.int v5), some (.int x6.1)]) (S1 := [.int v4]) (σ1 := x6.2) (k2 := 43) (L2 := [some (.ref 66), some (.int v1), some (.int (v2 + (0 : Int32))), some (.int (imax v3 x6.1)), some (.int v4), some (.int v5), some (.int x6.1)]) (S2 := [.int v4]) (σ2 := x6.2) 11 (fun n h => h) (fun hc8 => ?_) (fun hc8 => ?_)
        · rw [if_pos hc8] at h
          refine go_st (k' := 19) (L' := [some (.ref 66), some (.int v1), some (.int (v2 + (0 : Int32))), some (.int (imax v3 x6.1)), some (.int (v4 + (0 : Int32))), some (.int (v5 + (1 : Int32))), some (.int x6.1)]) (S' := []) (σ' := x6.2) 5 (fun n h => h) ?_
          exact ih _ v1 (v2 + (0 : Int32)) (imax v3 x6.1) (v4 + (0 : Int32)) (v5 + (1 : Int32)) x6.2 h
        · rw [if_neg hc8] at h
          refine go_st (k' := 19) (L' := [some (.ref 66), some (.int v1), some (.int (v2 + (0 : Int32))), some (.int (imax v3 x6.1)), some (.int (v4 + (1 : Int32))), some (.int (v5 + (1 : Int32))), some (.int x6.1)]) (S' := []) (σ' := x6.2) 6 (fun n h => h) ?_
          exact ih _ v1 (v2 + (0 : Int32)) (imax v3 x6.1) (v4 + (1 : Int32)) (v5 + (1 : Int32)) x6.2 h
      · rw [if_neg hc7] at h
        refine go_if (c := x6.1 ≠ (2 : Int32)) (k1 := 45) (L1 := [some (.ref 66), some (.int v1), some (.int (v2 + (1 : Int32))), some (.int (imax v3 x6.1)), some (.int v4), some (.int v5), some (.int x6.1)]) (S1 := [.int v4]) (σ1 := x6.2) (k2 := 43) (L2 := [some (.ref 66), some (.int v1), some (.int (v2 + (1 : Int32))), some (.int (imax v3 x6.1)), some (.int v4), some (.int v5), some (.int x6.1)]) (S2 := [.int v4]) (σ2 := x6.2) 12 (fun n h => h) (fun hc9 => ?_) (fun hc9 => ?_)
        · rw [if_pos hc9] at h
          refine go_st (k' := 19) (L' := [some (.ref 66), some (.int v1), some (.int (v2 + (1 : Int32))), some (.int (imax v3 x6.1)), some (.int (v4 + (0 : Int32))), some (.int (v5 + (1 : Int32))), some (.int x6.1)]) (S' := []) (σ' := x6.2) 5 (fun n h => h) ?_
          exact ih _ v1 (v2 + (1 : Int32)) (imax v3 x6.1) (v4 + (0 : Int32)) (v5 + (1 : Int32)) x6.2 h
        · rw [if_neg hc9] at h
          refine go_st (k' := 19) (L' := [some (.ref 66), some (.int v1), some (.int (v2 + (1 : Int32))), some (.int (imax v3 x6.1)), some (.int (v4 + (1 : Int32))), some (.int (v5 + (1 : Int32))), some (.int x6.1)]) (S' := []) (σ' := x6.2) 6 (fun n h => h) ?_
          exact ih _ v1 (v2 + (1 : Int32)) (imax v3 x6.1) (v4 + (1 : Int32)) (v5 + (1 : Int32)) x6.2 h
def f_M_round (N : Nat) (p0 : Int32) (σ : aSt) : Option (Int32 × aSt) :=
  (if (σ.2.2 66 1) = true then (if (f_M_in p0.toInt64 (0 : Int64) (2 : Int64)) = true then f_M_round_l19 N N p0 (1 : Int32) (1 : Int32) (0 : Int32) (0 : Int32) σ else some ((-2 : Int32), σ)) else some ((-2 : Int32), σ))
set_option maxRecDepth 20000 in
set_option maxHeartbeats 4000000 in
theorem c_M_round (d : Nat) {N : Nat} (p0 : Int32) (σ : aSt) {P : Option Value → aSt → Prop} {x : (Int32 × aSt)} (h : f_M_round N p0 σ = some x) (hp : P (some (.int x.1)) x.2) : aCall MT (d + 6) 125 [.ref 66, .int p0] σ P := by
  unfold f_M_round at h
  refine call_of (code := mc_M_round) (L := [some (.ref 66), some (.int p0), none, none, none, none, none]) rfl rfl rfl rfl ?_
  refine go_ifz (b := (σ.2.2 66 1)) (k1 := 9) (L1 := [some (.ref 66), some (.int p0), none, none, none, none, none]) (S1 := []) (σ1 := σ) (k2 := 3) (L2 := [some (.ref 66), some (.int p0), none, none, none, none, none]) (S2 := []) (σ2 := σ) 3 (fun n h => h) (fun hc1 => ?_) (fun hc1 => ?_)
  · rw [if_neg hc1] at h
    cases h
    exact go_ret 2 (fun _ => hp)
  · rw [if_pos hc1] at h
    refine go_call (r := some (.int (b2i (f_M_in p0.toInt64 (0 : Int64) (2 : Int64))))) (σc := σ) (σ1 := σ) (mi := 7) (vs := [.long p0.toInt64, .long (0 : Int64), .long (2 : Int64)]) (k' := 8) (L' := [some (.ref 66), some (.int p0), none, none, none, none, none]) (S' := []) 5 (fun P9 h9 => c_M_in (d + 4) p0.toInt64 (0 : Int64) (2 : Int64) σ h9) (fun n h => h) ?_
    refine go_ifn (b := (f_M_in p0.toInt64 (0 : Int64) (2 : Int64))) (k1 := 11) (L1 := [some (.ref 66), some (.int p0), none, none, none, none, none]) (S1 := []) (σ1 := σ) (k2 := 9) (L2 := [some (.ref 66), some (.int p0), none, none, none, none, none]) (S2 := []) (σ2 := σ) 1 (fun n h => h) (fun hc2 => ?_) (fun hc2 => ?_)
    · rw [if_pos hc2] at h
      refine go_st (k' := 19) (L' := [some (.ref 66), some (.int p0), some (.int (1 : Int32)), some (.int (1 : Int32)), some (.int (0 : Int32)), some (.int (0 : Int32)), none]) (S' := []) (σ' := σ) 8 (fun n h => h) ?_
      exact t_M_round_l19 d hp N _ p0 (1 : Int32) (1 : Int32) (0 : Int32) (0 : Int32) σ h
    · rw [if_neg hc2] at h
      cases h
      exact go_ret 2 (fun _ => hp)
def f_M_isWord_202_l21 (N : Nat) (σ : aSt) : Nat → Bool → Int32 → Option Bool
  | 0, _, _ => none
  | n + 1, v2, v3 => (if (4 : Int32) ≤ v3 then some v2 else (if v2 = true then (if 0 ≤ ((σ.1 66 15) + v3) ∧ ((σ.1 66 15) + v3) < (200 : Int32) then (if 0 ≤ v3 ∧ v3 < (4 : Int32) then (if (σ.1 70 ((σ.1 66 15) + v3).toNatClampNeg) ≠ (sch 202 v3) then f_M_isWord_202_l21 N σ n false (v3 + (1 : Int32)) else f_M_isWord_202_l21 N σ n true (v3 + (1 : Int32))) else none) else none) else some v2))
set_option maxRecDepth 20000 in
set_option maxHeartbeats 4000000 in
theorem t_M_isWord_202_l21 (d : Nat) {N : Nat} (σ : aSt) {x : Bool} {P : Option Value → aSt → Prop} (hp : P (some (.int (b2i x))) σ) : ∀ (n : Nat) (v2 : Bool) (v3 : Int32), f_M_isWord_202_l21 N σ n v2 v3 = some x → aGo (aCall MT (d + 1)) P mc_M_isWord 21 [some (.ref 66), some (.ref 202), some (.int (b2i v2)), some (.int v3)] [] σ := by
  intro n
  induction n with
  | zero => intro v2 v3 h; cases h
  | succ n ih =>
    intro v2 v3 h
    rw [f_M_isWord_202_l21] at h
    refine go_if (c := (4 : Int32) ≤ v3) (k1 := 44) (L1 := [some (.ref 66), some (.ref 202), some (.int (b2i v2)), some (.int v3)]) (S1 := []) (σ1 := σ) (k2 := 25) (L2 := [some (.ref 66), some (.ref 202), some (.int (b2i v2)), some (.int v3)]) (S2 := []) (σ2 := σ) 4 (fun n h => h) (fun hc3 => ?_) (fun hc3 => ?_)
    · rw [if_pos hc3] at h
      cases h
      exact go_ret 2 (fun _ => And.intro (b2i_01 _) hp)
    · rw [if_neg hc3] at h
      refine go_ifz (b := v2) (k1 := 44) (L1 := [some (.ref 66), some (.ref 202), some (.int (b2i v2)), some (.int v3)]) (S1 := []) (σ1 := σ) (k2 := 27) (L2 := [some (.ref 66), some (.ref 202), some (.int (b2i v2)), some (.int v3)]) (S2 := []) (σ2 := σ) 2 (fun n h => h) (fun hc4 => ?_) (fun hc4 => ?_)
      · rw [if_neg hc4] at h
        cases h
        exact go_ret 2 (fun _ => And.intro (b2i_01 _) hp)
      · rw [if_pos hc4] at h
        obtain ⟨hc5, h⟩ := ite_of h
        refine go_q (Q := inb 2 σ 70 ((σ.1 66 15) + v3)) (k' := 34) (L' := [some (.ref 66), some (.ref 202), some (.int (b2i v2)), some (.int v3)]) (S' := [.int (σ.1 70 ((σ.1 66 15) + v3).toNatClampNeg)]) (σ' := σ) 7 (inb_mk rfl hc5.1 hc5.2) (fun n h => h) ?_
        obtain ⟨hc6, h⟩ := ite_of h
        refine go_q (Q := 0 ≤ v3 ∧ v3 < slen 202) (k' := 37) (L' := [some (.ref 66), some (.ref 202), some (.int (b2i v2)), some (.int v3)]) (S' := [.int (sch 202 v3), .int (σ.1 70 ((σ.1 66 15) + v3).toNatClampNeg)]) (σ' := σ) 3 hc6 (fun n h => h) ?_
        refine go_if (c := (σ.1 70 ((σ.1 66 15) + v3).toNatClampNeg) ≠ (sch 202 v3)) (k1 := 40) (L1 := [some (.ref 66), some (.ref 202), some (.int (b2i v2)), some (.int v3)]) (S1 := []) (σ1 := σ) (k2 := 38) (L2 := [some (.ref 66), some (.ref 202), some (.int (b2i v2)), some (.int v3)]) (S2 := []) (σ2 := σ) 1 (fun n h => h) (fun hc7 => ?_) (fun hc7 => ?_)
        · rw [if_pos hc7] at h
          refine go_st (k' := 21) (L' := [some (.ref 66), some (.ref 202), some (.int (0 : Int32)), some (.int (v3 + (1 : Int32)))]) (S' := []) (σ' := σ) 4 (fun n h => h) ?_
          exact ih false (v3 + (1 : Int32)) h
        · rw [if_neg hc7] at h
          refine go_st (k' := 21) (L' := [some (.ref 66), some (.ref 202), some (.int (1 : Int32)), some (.int (v3 + (1 : Int32)))]) (S' := []) (σ' := σ) 5 (fun n h => h) ?_
          exact ih true (v3 + (1 : Int32)) h
def f_M_isWord_202_b18 (N : Nat) (s0 : Bool) (σ : aSt) : Option Bool :=
  f_M_isWord_202_l21 N σ N s0 (0 : Int32)
set_option maxRecDepth 20000 in
set_option maxHeartbeats 4000000 in
theorem t_M_isWord_202_b18 (d : Nat) {N : Nat} (d2 d3 : Option Value) (s0 : Bool) (σ : aSt) {P : Option Value → aSt → Prop} {x : Bool} (h : f_M_isWord_202_b18 N s0 σ = some x) (hp : P (some (.int (b2i x))) σ) : aGo (aCall MT (d + 1)) P mc_M_isWord 18 [some (.ref 66), some (.ref 202), d2, d3] [.int (b2i s0)] σ := by
  unfold f_M_isWord_202_b18 at h
  refine go_st (k' := 21) (L' := [some (.ref 66), some (.ref 202), some (.int (b2i s0)), some (.int (0 : Int32))]) (S' := []) (σ' := σ) 3 (fun n h => h) ?_
  exact t_M_isWord_202_l21 d σ hp N s0 (0 : Int32) h
def f_M_isWord_202_b17 (N : Nat) (σ : aSt) : Option Bool :=
  f_M_isWord_202_b18 N false σ
set_option maxRecDepth 20000 in
set_option maxHeartbeats 4000000 in
theorem t_M_isWord_202_b17 (d : Nat) {N : Nat} (d2 d3 : Option Value) (σ : aSt) {P : Option Value → aSt → Prop} {x : Bool} (h : f_M_isWord_202_b17 N σ = some x) (hp : P (some (.int (b2i x))) σ) : aGo (aCall MT (d + 1)) P mc_M_isWord 17 [some (.ref 66), some (.ref 202), d2, d3] [] σ := by
  unfold f_M_isWord_202_b17 at h
  refine go_st (k' := 18) (L' := [some (.ref 66), some (.ref 202), d2, d3]) (S' := [.int (0 : Int32)]) (σ' := σ) 1 (fun n h => h) ?_
  exact t_M_isWord_202_b18 d _ _ false σ h hp
def f_M_isWord_202 (N : Nat) (σ : aSt) : Option Bool :=
  (if (f_M_good σ) = true then (if (σ.1 66 16) ≠ (1 : Int32) then f_M_isWord_202_b17 N σ else (if ((σ.1 66 14) - (σ.1 66 15)) ≠ (4 : Int32) then f_M_isWord_202_b17 N σ else f_M_isWord_202_b18 N true σ)) else f_M_isWord_202_b17 N σ)
set_option maxRecDepth 20000 in
set_option maxHeartbeats 4000000 in
theorem c_M_isWord_202 (d : Nat) {N : Nat} (σ : aSt) {P : Option Value → aSt → Prop} {x : Bool} (h : f_M_isWord_202 N σ = some x) (hp : P (some (.int (b2i x))) σ) : aCall MT (d + 2) 51 [.ref 66, .ref 202] σ P := by
  unfold f_M_isWord_202 at h
  refine call_of (code := mc_M_isWord) (L := [some (.ref 66), some (.ref 202), none, none]) rfl rfl rfl rfl ?_
  refine go_call (r := some (.int (b2i (f_M_good σ)))) (σc := σ) (σ1 := σ) (mi := 50) (vs := [.ref 66]) (k' := 2) (L' := [some (.ref 66), some (.ref 202), none, none]) (S' := []) 2 (fun P9 h9 => c_M_good (d + 0) σ h9) (fun n h => h) ?_
  refine go_ifz (b := (f_M_good σ)) (k1 := 17) (L1 := [some (.ref 66), some (.ref 202), none, none]) (S1 := []) (σ1 := σ) (k2 := 3) (L2 := [some (.ref 66), some (.ref 202), none, none]) (S2 := []) (σ2 := σ) 1 (fun n h => h) (fun hc1 => ?_) (fun hc1 => ?_)
  · rw [if_neg hc1] at h
    exact t_M_isWord_202_b17 d _ _ σ h hp
  · rw [if_pos hc1] at h
    refine go_if (c := (σ.1 66 16) ≠ (1 : Int32)) (k1 := 17) (L1 := [some (.ref 66), some (.ref 202), none, none]) (S1 := []) (σ1 := σ) (k2 := 7) (L2 := [some (.ref 66), some (.ref 202), none, none]) (S2 := []) (σ2 := σ) 4 (fun n h => h) (fun hc2 => ?_) (fun hc2 => ?_)
    · rw [if_pos hc2] at h
      exact t_M_isWord_202_b17 d _ _ σ h hp
    · rw [if_neg hc2] at h
      refine go_if (c := ((σ.1 66 14) - (σ.1 66 15)) ≠ (4 : Int32)) (k1 := 17) (L1 := [some (.ref 66), some (.ref 202), none, none]) (S1 := []) (σ1 := σ) (k2 := 15) (L2 := [some (.ref 66), some (.ref 202), none, none]) (S2 := []) (σ2 := σ) 8 (fun n h => h) (fun hc8 => ?_) (fun hc8 => ?_)
      · rw [if_pos hc8] at h
        exact t_M_isWord_202_b17 d _ _ σ h hp
      · rw [if_neg hc8] at h
        refine go_st (k' := 18) (L' := [some (.ref 66), some (.ref 202), none, none]) (S' := [.int (1 : Int32)]) (σ' := σ) 2 (fun n h => h) ?_
        exact t_M_isWord_202_b18 d _ _ true σ h hp
def f_M_isWord_203_l21 (N : Nat) (σ : aSt) : Nat → Bool → Int32 → Option Bool
  | 0, _, _ => none
  | n + 1, v2, v3 => (if (1 : Int32) ≤ v3 then some v2 else (if v2 = true then (if 0 ≤ ((σ.1 66 15) + v3) ∧ ((σ.1 66 15) + v3) < (200 : Int32) then (if 0 ≤ v3 ∧ v3 < (1 : Int32) then (if (σ.1 70 ((σ.1 66 15) + v3).toNatClampNeg) ≠ (sch 203 v3) then f_M_isWord_203_l21 N σ n false (v3 + (1 : Int32)) else f_M_isWord_203_l21 N σ n true (v3 + (1 : Int32))) else none) else none) else some v2))
set_option maxRecDepth 20000 in
set_option maxHeartbeats 4000000 in
theorem t_M_isWord_203_l21 (d : Nat) {N : Nat} (σ : aSt) {x : Bool} {P : Option Value → aSt → Prop} (hp : P (some (.int (b2i x))) σ) : ∀ (n : Nat) (v2 : Bool) (v3 : Int32), f_M_isWord_203_l21 N σ n v2 v3 = some x → aGo (aCall MT (d + 1)) P mc_M_isWord 21 [some (.ref 66), some (.ref 203), some (.int (b2i v2)), some (.int v3)] [] σ := by
  intro n
  induction n with
  | zero => intro v2 v3 h; cases h
  | succ n ih =>
    intro v2 v3 h
    rw [f_M_isWord_203_l21] at h
    refine go_if (c := (1 : Int32) ≤ v3) (k1 := 44) (L1 := [some (.ref 66), some (.ref 203), some (.int (b2i v2)), some (.int v3)]) (S1 := []) (σ1 := σ) (k2 := 25) (L2 := [some (.ref 66), some (.ref 203), some (.int (b2i v2)), some (.int v3)]) (S2 := []) (σ2 := σ) 4 (fun n h => h) (fun hc3 => ?_) (fun hc3 => ?_)
    · rw [if_pos hc3] at h
      cases h
      exact go_ret 2 (fun _ => And.intro (b2i_01 _) hp)
    · rw [if_neg hc3] at h
      refine go_ifz (b := v2) (k1 := 44) (L1 := [some (.ref 66), some (.ref 203), some (.int (b2i v2)), some (.int v3)]) (S1 := []) (σ1 := σ) (k2 := 27) (L2 := [some (.ref 66), some (.ref 203), some (.int (b2i v2)), some (.int v3)]) (S2 := []) (σ2 := σ) 2 (fun n h => h) (fun hc4 => ?_) (fun hc4 => ?_)
      · rw [if_neg hc4] at h
        cases h
        exact go_ret 2 (fun _ => And.intro (b2i_01 _) hp)
      · rw [if_pos hc4] at h
        obtain ⟨hc5, h⟩ := ite_of h
        refine go_q (Q := inb 2 σ 70 ((σ.1 66 15) + v3)) (k' := 34) (L' := [some (.ref 66), some (.ref 203), some (.int (b2i v2)), some (.int v3)]) (S' := [.int (σ.1 70 ((σ.1 66 15) + v3).toNatClampNeg)]) (σ' := σ) 7 (inb_mk rfl hc5.1 hc5.2) (fun n h => h) ?_
        obtain ⟨hc6, h⟩ := ite_of h
        refine go_q (Q := 0 ≤ v3 ∧ v3 < slen 203) (k' := 37) (L' := [some (.ref 66), some (.ref 203), some (.int (b2i v2)), some (.int v3)]) (S' := [.int (sch 203 v3), .int (σ.1 70 ((σ.1 66 15) + v3).toNatClampNeg)]) (σ' := σ) 3 hc6 (fun n h => h) ?_
        refine go_if (c := (σ.1 70 ((σ.1 66 15) + v3).toNatClampNeg) ≠ (sch 203 v3)) (k1 := 40) (L1 := [some (.ref 66), some (.ref 203), some (.int (b2i v2)), some (.int v3)]) (S1 := []) (σ1 := σ) (k2 := 38) (L2 := [some (.ref 66), some (.ref 203), some (.int (b2i v2)), some (.int v3)]) (S2 := []) (σ2 := σ) 1 (fun n h => h) (fun hc7 => ?_) (fun hc7 => ?_)
        · rw [if_pos hc7] at h
          refine go_st (k' := 21) (L' := [some (.ref 66), some (.ref 203), some (.int (0 : Int32)), some (.int (v3 + (1 : Int32)))]) (S' := []) (σ' := σ) 4 (fun n h => h) ?_
          exact ih false (v3 + (1 : Int32)) h
        · rw [if_neg hc7] at h
          refine go_st (k' := 21) (L' := [some (.ref 66), some (.ref 203), some (.int (1 : Int32)), some (.int (v3 + (1 : Int32)))]) (S' := []) (σ' := σ) 5 (fun n h => h) ?_
          exact ih true (v3 + (1 : Int32)) h
def f_M_isWord_203_b18 (N : Nat) (s0 : Bool) (σ : aSt) : Option Bool :=
  f_M_isWord_203_l21 N σ N s0 (0 : Int32)
set_option maxRecDepth 20000 in
set_option maxHeartbeats 4000000 in
theorem t_M_isWord_203_b18 (d : Nat) {N : Nat} (d2 d3 : Option Value) (s0 : Bool) (σ : aSt) {P : Option Value → aSt → Prop} {x : Bool} (h : f_M_isWord_203_b18 N s0 σ = some x) (hp : P (some (.int (b2i x))) σ) : aGo (aCall MT (d + 1)) P mc_M_isWord 18 [some (.ref 66), some (.ref 203), d2, d3] [.int (b2i s0)] σ := by
  unfold f_M_isWord_203_b18 at h
  refine go_st (k' := 21) (L' := [some (.ref 66), some (.ref 203), some (.int (b2i s0)), some (.int (0 : Int32))]) (S' := []) (σ' := σ) 3 (fun n h => h) ?_
  exact t_M_isWord_203_l21 d σ hp N s0 (0 : Int32) h
def f_M_isWord_203_b17 (N : Nat) (σ : aSt) : Option Bool :=
  f_M_isWord_203_b18 N false σ
set_option maxRecDepth 20000 in
set_option maxHeartbeats 4000000 in
theorem t_M_isWord_203_b17 (d : Nat) {N : Nat} (d2 d3 : Option Value) (σ : aSt) {P : Option Value → aSt → Prop} {x : Bool} (h : f_M_isWord_203_b17 N σ = some x) (hp : P (some (.int (b2i x))) σ) : aGo (aCall MT (d + 1)) P mc_M_isWord 17 [some (.ref 66), some (.ref 203), d2, d3] [] σ := by
  unfold f_M_isWord_203_b17 at h
  refine go_st (k' := 18) (L' := [some (.ref 66), some (.ref 203), d2, d3]) (S' := [.int (0 : Int32)]) (σ' := σ) 1 (fun n h => h) ?_
  exact t_M_isWord_203_b18 d _ _ false σ h hp
def f_M_isWord_203 (N : Nat) (σ : aSt) : Option Bool :=
  (if (f_M_good σ) = true then (if (σ.1 66 16) ≠ (1 : Int32) then f_M_isWord_203_b17 N σ else (if ((σ.1 66 14) - (σ.1 66 15)) ≠ (1 : Int32) then f_M_isWord_203_b17 N σ else f_M_isWord_203_b18 N true σ)) else f_M_isWord_203_b17 N σ)
set_option maxRecDepth 20000 in
set_option maxHeartbeats 4000000 in
theorem c_M_isWord_203 (d : Nat) {N : Nat} (σ : aSt) {P : Option Value → aSt → Prop} {x : Bool} (h : f_M_isWord_203 N σ = some x) (hp : P (some (.int (b2i x))) σ) : aCall MT (d + 2) 51 [.ref 66, .ref 203] σ P := by
  unfold f_M_isWord_203 at h
  refine call_of (code := mc_M_isWord) (L := [some (.ref 66), some (.ref 203), none, none]) rfl rfl rfl rfl ?_
  refine go_call (r := some (.int (b2i (f_M_good σ)))) (σc := σ) (σ1 := σ) (mi := 50) (vs := [.ref 66]) (k' := 2) (L' := [some (.ref 66), some (.ref 203), none, none]) (S' := []) 2 (fun P9 h9 => c_M_good (d + 0) σ h9) (fun n h => h) ?_
  refine go_ifz (b := (f_M_good σ)) (k1 := 17) (L1 := [some (.ref 66), some (.ref 203), none, none]) (S1 := []) (σ1 := σ) (k2 := 3) (L2 := [some (.ref 66), some (.ref 203), none, none]) (S2 := []) (σ2 := σ) 1 (fun n h => h) (fun hc1 => ?_) (fun hc1 => ?_)
  · rw [if_neg hc1] at h
    exact t_M_isWord_203_b17 d _ _ σ h hp
  · rw [if_pos hc1] at h
    refine go_if (c := (σ.1 66 16) ≠ (1 : Int32)) (k1 := 17) (L1 := [some (.ref 66), some (.ref 203), none, none]) (S1 := []) (σ1 := σ) (k2 := 7) (L2 := [some (.ref 66), some (.ref 203), none, none]) (S2 := []) (σ2 := σ) 4 (fun n h => h) (fun hc2 => ?_) (fun hc2 => ?_)
    · rw [if_pos hc2] at h
      exact t_M_isWord_203_b17 d _ _ σ h hp
    · rw [if_neg hc2] at h
      refine go_if (c := ((σ.1 66 14) - (σ.1 66 15)) ≠ (1 : Int32)) (k1 := 17) (L1 := [some (.ref 66), some (.ref 203), none, none]) (S1 := []) (σ1 := σ) (k2 := 15) (L2 := [some (.ref 66), some (.ref 203), none, none]) (S2 := []) (σ2 := σ) 8 (fun n h => h) (fun hc8 => ?_) (fun hc8 => ?_)
      · rw [if_pos hc8] at h
        exact t_M_isWord_203_b17 d _ _ σ h hp
      · rw [if_neg hc8] at h
        refine go_st (k' := 18) (L' := [some (.ref 66), some (.ref 203), none, none]) (S' := [.int (1 : Int32)]) (σ' := σ) 2 (fun n h => h) ?_
        exact t_M_isWord_203_b18 d _ _ true σ h hp
def f_M_pointHere_b14 (N : Nat) (v1 : Int32) (σ : aSt) : Option (Int32 × aSt) :=
  ((f_M_number N (0 : Int32) (99999 : Int32) σ).bind fun x5 => (if (f_M_good x5.2) = true then (if x5.1 < (x5.2.1 66 9) then (if (f_M_good x5.2) = true then ((f_M_timesOf N x5.1 v1 x5.2).bind fun x9 => some (x9.1, x9.2)) else some ((1000 : Int32), x5.2)) else (lt (f_M_errs (2 : Int32) (σ.1 66 15) x5.2) fun x10 => (if (f_M_good x10) = true then ((f_M_timesOf N x5.1 v1 x10).bind fun x12 => some (x12.1, x12.2)) else some ((1000 : Int32), x10)))) else (if (f_M_good x5.2) = true then ((f_M_timesOf N x5.1 v1 x5.2).bind fun x14 => some (x14.1, x14.2)) else some ((1000 : Int32), x5.2))))
set_option maxRecDepth 20000 in
set_option maxHeartbeats 4000000 in
theorem t_M_pointHere_b14 (d : Nat) {N : Nat} (d2 d3 : Option Value) (v1 : Int32) (σ : aSt) {P : Option Value → aSt → Prop} {x : (Int32 × aSt)} (h : f_M_pointHere_b14 N v1 σ = some x) (hp : P (some (.int x.1)) x.2) : aGo (aCall MT (d + 5)) P mc_M_pointHere 14 [some (.ref 66), some (.int v1), d2, d3] [] σ := by
  unfold f_M_pointHere_b14 at h
  obtain ⟨x5, hx5, h⟩ := bind_of h
  refine go_call (r := some (.int x5.1)) (σc := σ) (σ1 := x5.2) (mi := 54) (vs := [.ref 66, .int (0 : Int32), .int (99999 : Int32)]) (k' := 21) (L' := [some (.ref 66), some (.int v1), some (.int (σ.1 66 15)), d3]) (S' := []) 7 (fun P9 h9 => c_M_number (d + 2) (0 : Int32) (99999 : Int32) σ hx5 h9) (fun n h => h) ?_
  refine go_call (r := some (.int (b2i (f_M_good x5.2)))) (σc := x5.2) (σ1 := x5.2) (mi := 50) (vs := [.ref 66]) (k' := 24) (L' := [some (.ref 66), some (.int v1), some (.int (σ.1 66 15)), some (.int x5.1)]) (S' := []) 3 (fun P9 h9 => c_M_good (d + 4) x5.2 h9) (fun n h => h) ?_
  refine go_ifz (b := (f_M_good x5.2)) (k1 := 33) (L1 := [some (.ref 66), some (.int v1), some (.int (σ.1 66 15)), some (.int x5.1)]) (S1 := []) (σ1 := x5.2) (k2 := 25) (L2 := [some (.ref 66), some (.int v1), some (.int (σ.1 66 15)), some (.int x5.1)]) (S2 := []) (σ2 := x5.2) 1 (fun n h => h) (fun hc6 => ?_) (fun hc6 => ?_)
  · rw [if_neg hc6] at h
    refine go_call (r := some (.int (b2i (f_M_good x5.2)))) (σc := x5.2) (σ1 := x5.2) (mi := 50) (vs := [.ref 66]) (k' := 35) (L' := [some (.ref 66), some (.int v1), some (.int (σ.1 66 15)), some (.int x5.1)]) (S' := []) 2 (fun P9 h9 => c_M_good (d + 4) x5.2 h9) (fun n h => h) ?_
    refine go_ifz (b := (f_M_good x5.2)) (k1 := 41) (L1 := [some (.ref 66), some (.int v1), some (.int (σ.1 66 15)), some (.int x5.1)]) (S1 := []) (σ1 := x5.2) (k2 := 36) (L2 := [some (.ref 66), some (.int v1), some (.int (σ.1 66 15)), some (.int x5.1)]) (S2 := []) (σ2 := x5.2) 1 (fun n h => h) (fun hc13 => ?_) (fun hc13 => ?_)
    · rw [if_neg hc13] at h
      cases h
      exact go_ret 2 (fun _ => hp)
    · rw [if_pos hc13] at h
      obtain ⟨x14, hx14, h⟩ := bind_of h
      refine go_call (r := some (.int x14.1)) (σc := x5.2) (σ1 := x14.2) (mi := 118) (vs := [.ref 66, .int x5.1, .int v1]) (k' := 40) (L' := [some (.ref 66), some (.int v1), some (.int (σ.1 66 15)), some (.int x5.1)]) (S' := []) 4 (fun P9 h9 => c_M_timesOf (d + 0) x5.1 v1 x5.2 hx14 h9) (fun n h => h) ?_
      cases h
      exact go_ret 2 (fun _ => hp)
  · rw [if_pos hc6] at h
    refine go_if (c := x5.1 < (x5.2.1 66 9)) (k1 := 33) (L1 := [some (.ref 66), some (.int v1), some (.int (σ.1 66 15)), some (.int x5.1)]) (S1 := []) (σ1 := x5.2) (k2 := 29) (L2 := [some (.ref 66), some (.int v1), some (.int (σ.1 66 15)), some (.int x5.1)]) (S2 := []) (σ2 := x5.2) 4 (fun n h => h) (fun hc7 => ?_) (fun hc7 => ?_)
    · rw [if_pos hc7] at h
      refine go_call (r := some (.int (b2i (f_M_good x5.2)))) (σc := x5.2) (σ1 := x5.2) (mi := 50) (vs := [.ref 66]) (k' := 35) (L' := [some (.ref 66), some (.int v1), some (.int (σ.1 66 15)), some (.int x5.1)]) (S' := []) 2 (fun P9 h9 => c_M_good (d + 4) x5.2 h9) (fun n h => h) ?_
      refine go_ifz (b := (f_M_good x5.2)) (k1 := 41) (L1 := [some (.ref 66), some (.int v1), some (.int (σ.1 66 15)), some (.int x5.1)]) (S1 := []) (σ1 := x5.2) (k2 := 36) (L2 := [some (.ref 66), some (.int v1), some (.int (σ.1 66 15)), some (.int x5.1)]) (S2 := []) (σ2 := x5.2) 1 (fun n h => h) (fun hc8 => ?_) (fun hc8 => ?_)
      · rw [if_neg hc8] at h
        cases h
        exact go_ret 2 (fun _ => hp)
      · rw [if_pos hc8] at h
        obtain ⟨x9, hx9, h⟩ := bind_of h
        refine go_call (r := some (.int x9.1)) (σc := x5.2) (σ1 := x9.2) (mi := 118) (vs := [.ref 66, .int x5.1, .int v1]) (k' := 40) (L' := [some (.ref 66), some (.int v1), some (.int (σ.1 66 15)), some (.int x5.1)]) (S' := []) 4 (fun P9 h9 => c_M_timesOf (d + 0) x5.1 v1 x5.2 hx9 h9) (fun n h => h) ?_
        cases h
        exact go_ret 2 (fun _ => hp)
    · rw [if_neg hc7] at h
      obtain ⟨x10, hx10, h⟩ := lt_of h
      refine go_call (r := none) (σc := x5.2) (σ1 := x10) (mi := 52) (vs := [.ref 66, .int (2 : Int32), .int (σ.1 66 15)]) (k' := 33) (L' := [some (.ref 66), some (.int v1), some (.int (σ.1 66 15)), some (.int x5.1)]) (S' := []) 4 (fun P9 h9 => c_M_errs (d + 3) (2 : Int32) (σ.1 66 15) x5.2 (by rw [← hx10]; exact h9)) (fun n h => h) ?_
      refine go_call (r := some (.int (b2i (f_M_good x10)))) (σc := x10) (σ1 := x10) (mi := 50) (vs := [.ref 66]) (k' := 35) (L' := [some (.ref 66), some (.int v1), some (.int (σ.1 66 15)), some (.int x5.1)]) (S' := []) 2 (fun P9 h9 => c_M_good (d + 4) x10 h9) (fun n h => h) ?_
      refine go_ifz (b := (f_M_good x10)) (k1 := 41) (L1 := [some (.ref 66), some (.int v1), some (.int (σ.1 66 15)), some (.int x5.1)]) (S1 := []) (σ1 := x10) (k2 := 36) (L2 := [some (.ref 66), some (.int v1), some (.int (σ.1 66 15)), some (.int x5.1)]) (S2 := []) (σ2 := x10) 1 (fun n h => h) (fun hc11 => ?_) (fun hc11 => ?_)
      · rw [if_neg hc11] at h
        cases h
        exact go_ret 2 (fun _ => hp)
      · rw [if_pos hc11] at h
        obtain ⟨x12, hx12, h⟩ := bind_of h
        refine go_call (r := some (.int x12.1)) (σc := x10) (σ1 := x12.2) (mi := 118) (vs := [.ref 66, .int x5.1, .int v1]) (k' := 40) (L' := [some (.ref 66), some (.int v1), some (.int (σ.1 66 15)), some (.int x5.1)]) (S' := []) 4 (fun P9 h9 => c_M_timesOf (d + 0) x5.1 v1 x10 hx12 h9) (fun n h => h) ?_
        cases h
        exact go_ret 2 (fun _ => hp)
def f_M_pointHere_b9 (N : Nat) (v1 : Int32) (σ : aSt) : Option (Int32 × aSt) :=
  (if (f_M_good σ) = true then ((f_M_advance N σ).bind fun x4 => f_M_pointHere_b14 N v1 x4) else f_M_pointHere_b14 N v1 σ)
set_option maxRecDepth 20000 in
set_option maxHeartbeats 4000000 in
theorem t_M_pointHere_b9 (d : Nat) {N : Nat} (d2 d3 : Option Value) (v1 : Int32) (σ : aSt) {P : Option Value → aSt → Prop} {x : (Int32 × aSt)} (h : f_M_pointHere_b9 N v1 σ = some x) (hp : P (some (.int x.1)) x.2) : aGo (aCall MT (d + 5)) P mc_M_pointHere 9 [some (.ref 66), some (.int v1), d2, d3] [] σ := by
  unfold f_M_pointHere_b9 at h
  refine go_call (r := some (.int (b2i (f_M_good σ)))) (σc := σ) (σ1 := σ) (mi := 50) (vs := [.ref 66]) (k' := 11) (L' := [some (.ref 66), some (.int v1), d2, d3]) (S' := []) 2 (fun P9 h9 => c_M_good (d + 4) σ h9) (fun n h => h) ?_
  refine go_ifz (b := (f_M_good σ)) (k1 := 14) (L1 := [some (.ref 66), some (.int v1), d2, d3]) (S1 := []) (σ1 := σ) (k2 := 12) (L2 := [some (.ref 66), some (.int v1), d2, d3]) (S2 := []) (σ2 := σ) 1 (fun n h => h) (fun hc3 => ?_) (fun hc3 => ?_)
  · rw [if_neg hc3] at h
    exact t_M_pointHere_b14 d _ _ v1 σ h hp
  · rw [if_pos hc3] at h
    obtain ⟨x4, hx4, h⟩ := bind_of h
    refine go_call (r := none) (σc := σ) (σ1 := x4) (mi := 48) (vs := [.ref 66]) (k' := 14) (L' := [some (.ref 66), some (.int v1), d2, d3]) (S' := []) 2 (fun P9 h9 => c_M_advance (d + 3) σ hx4 h9) (fun n h => h) ?_
    exact t_M_pointHere_b14 d _ _ v1 x4 h hp
def f_M_pointHere (N : Nat) (p0 : Int32) (σ : aSt) : Option (Int32 × aSt) :=
  ((f_M_isWord_203 N σ).bind fun x1 => (if x1 = true then f_M_pointHere_b9 N p0 σ else (lt (f_M_errs (1 : Int32) (σ.1 66 15) σ) fun x15 => f_M_pointHere_b9 N p0 x15)))
set_option maxRecDepth 20000 in
set_option maxHeartbeats 4000000 in
theorem c_M_pointHere (d : Nat) {N : Nat} (p0 : Int32) (σ : aSt) {P : Option Value → aSt → Prop} {x : (Int32 × aSt)} (h : f_M_pointHere N p0 σ = some x) (hp : P (some (.int x.1)) x.2) : aCall MT (d + 6) 132 [.ref 66, .int p0] σ P := by
  unfold f_M_pointHere at h
  refine call_of (code := mc_M_pointHere) (L := [some (.ref 66), some (.int p0), none, none]) rfl rfl rfl rfl ?_
  obtain ⟨x1, hx1, h⟩ := bind_of h
  refine go_call (r := some (.int (b2i x1))) (σc := σ) (σ1 := σ) (mi := 51) (vs := [.ref 66, .ref 203]) (k' := 3) (L' := [some (.ref 66), some (.int p0), none, none]) (S' := []) 3 (fun P9 h9 => c_M_isWord_203 (d + 3) σ hx1 h9) (fun n h => h) ?_
  refine go_ifn (b := x1) (k1 := 9) (L1 := [some (.ref 66), some (.int p0), none, none]) (S1 := []) (σ1 := σ) (k2 := 4) (L2 := [some (.ref 66), some (.int p0), none, none]) (S2 := []) (σ2 := σ) 1 (fun n h => h) (fun hc2 => ?_) (fun hc2 => ?_)
  · rw [if_pos hc2] at h
    exact t_M_pointHere_b9 d _ _ p0 σ h hp
  · rw [if_neg hc2] at h
    obtain ⟨x15, hx15, h⟩ := lt_of h
    refine go_call (r := none) (σc := σ) (σ1 := x15) (mi := 52) (vs := [.ref 66, .int (1 : Int32), .int (σ.1 66 15)]) (k' := 9) (L' := [some (.ref 66), some (.int p0), none, none]) (S' := []) 5 (fun P9 h9 => c_M_errs (d + 3) (1 : Int32) (σ.1 66 15) σ (by rw [← hx15]; exact h9)) (fun n h => h) ?_
    exact t_M_pointHere_b9 d _ _ p0 x15 h hp
