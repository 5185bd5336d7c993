def f_X_solves (N : Nat) (p0 : Int32) (p1 : Int32) (p2 : Int32) (p3 : Int32) (σ : aSt) : Option (Int64 × aSt) :=
  (if (f_X_isPoint p0 σ) = true then (if (f_X_isPoint p1 σ) = true then (if (f_X_isPoint p2 σ) = true then (if p3 < 0 then some ((-9223372036854775808 : Int64), σ) else (if p3 ≤ (1 : Int32) then ((f_Sums_findFactors N p0 p1 p2 σ).bind fun x6 => (if x6.1 = true then some ((f_Sums_factor p3 x6.2).toInt64, x6.2) else some ((-9223372036854775808 : Int64), x6.2))) else some ((-9223372036854775808 : Int64), σ))) else some ((-9223372036854775808 : Int64), σ)) else some ((-9223372036854775808 : Int64), σ)) else some ((-9223372036854775808 : Int64), σ))
set_option maxRecDepth 20000 in
set_option maxHeartbeats 4000000 in
theorem c_X_solves (d : Nat) {N : Nat} (p0 : Int32) (p1 : Int32) (p2 : Int32) (p3 : Int32) (σ : aSt) {P : Option Value → aSt → Prop} {x : (Int64 × aSt)} (h : f_X_solves N p0 p1 p2 p3 σ = some x) (hp : P (some (.long x.1)) x.2) : aCall MT (d + 8) 324 [.ref 0, .int p0, .int p1, .int p2, .int p3] σ P := by
  unfold f_X_solves at h
  refine call_of (code := mc_X_solves) (L := [some (.ref 0), some (.int p0), some (.int p1), some (.int p2), some (.int p3)]) rfl rfl rfl rfl ?_
  refine go_call (r := some (.int (b2i (f_X_isPoint p0 σ)))) (σc := σ) (σ1 := σ) (mi := 85) (vs := [.ref 0, .int p0]) (k' := 3) (L' := [some (.ref 0), some (.int p0), some (.int p1), some (.int p2), some (.int p3)]) (S' := []) 3 (fun P9 h9 => c_X_isPoint (d + 4) p0 σ h9) (fun n h => h) ?_
  refine go_ifz (b := (f_X_isPoint p0 σ)) (k1 := 17) (L1 := [some (.ref 0), some (.int p0), some (.int p1), some (.int p2), some (.int p3)]) (S1 := []) (σ1 := σ) (k2 := 4) (L2 := [some (.ref 0), some (.int p0), some (.int p1), some (.int p2), some (.int p3)]) (S2 := []) (σ2 := σ) 1 (fun n h => h) (fun hc1 => ?_) (fun hc1 => ?_)
  · rw [if_neg hc1] at h
    cases h
    exact go_ret 2 (fun _ => hp)
  · rw [if_pos hc1] at h
    refine go_call (r := some (.int (b2i (f_X_isPoint p1 σ)))) (σc := σ) (σ1 := σ) (mi := 85) (vs := [.ref 0, .int p1]) (k' := 7) (L' := [some (.ref 0), some (.int p0), some (.int p1), some (.int p2), some (.int p3)]) (S' := []) 3 (fun P9 h9 => c_X_isPoint (d + 4) p1 σ h9) (fun n h => h) ?_
    refine go_ifz (b := (f_X_isPoint p1 σ)) (k1 := 17) (L1 := [some (.ref 0), some (.int p0), some (.int p1), some (.int p2), some (.int p3)]) (S1 := []) (σ1 := σ) (k2 := 8) (L2 := [some (.ref 0), some (.int p0), some (.int p1), some (.int p2), some (.int p3)]) (S2 := []) (σ2 := σ) 1 (fun n h => h) (fun hc2 => ?_) (fun hc2 => ?_)
    · rw [if_neg hc2] at h
      cases h
      exact go_ret 2 (fun _ => hp)
    · rw [if_pos hc2] at h
      refine go_call (r := some (.int (b2i (f_X_isPoint p2 σ)))) (σc := σ) (σ1 := σ) (mi := 85) (vs := [.ref 0, .int p2]) (k' := 11) (L' := [some (.ref 0), some (.int p0), some (.int p1), some (.int p2), some (.int p3)]) (S' := []) 3 (fun P9 h9 => c_X_isPoint (d + 4) p2 σ h9) (fun n h => h) ?_
      refine go_ifz (b := (f_X_isPoint p2 σ)) (k1 := 17) (L1 := [some (.ref 0), some (.int p0), some (.int p1), some (.int p2), some (.int p3)]) (S1 := []) (σ1 := σ) (k2 := 12) (L2 := [some (.ref 0), some (.int p0), some (.int p1), some (.int p2), some (.int p3)]) (S2 := []) (σ2 := σ) 1 (fun n h => h) (fun hc3 => ?_) (fun hc3 => ?_)
      · rw [if_neg hc3] at h
        cases h
        exact go_ret 2 (fun _ => hp)
      · rw [if_pos hc3] at h
        refine go_if (c := p3 < 0) (k1 := 17) (L1 := [some (.ref 0), some (.int p0), some (.int p1), some (.int p2), some (.int p3)]) (S1 := []) (σ1 := σ) (k2 := 14) (L2 := [some (.ref 0), some (.int p0), some (.int p1), some (.int p2), some (.int p3)]) (S2 := []) (σ2 := σ) 2 (fun n h => h) (fun hc4 => ?_) (fun hc4 => ?_)
        · rw [if_pos hc4] at h
          cases h
          exact go_ret 2 (fun _ => hp)
        · rw [if_neg hc4] at h
          refine go_if (c := p3 ≤ (1 : Int32)) (k1 := 19) (L1 := [some (.ref 0), some (.int p0), some (.int p1), some (.int p2), some (.int p3)]) (S1 := []) (σ1 := σ) (k2 := 17) (L2 := [some (.ref 0), some (.int p0), some (.int p1), some (.int p2), some (.int p3)]) (S2 := []) (σ2 := σ) 3 (fun n h => h) (fun hc5 => ?_) (fun hc5 => ?_)
          · rw [if_pos hc5] at h
            obtain ⟨x6, hx6, h⟩ := bind_of h
            refine go_call (r := some (.int (b2i x6.1))) (σc := σ) (σ1 := x6.2) (mi := 231) (vs := [.ref 21, .int p0, .int p1, .int p2]) (k' := 25) (L' := [some (.ref 0), some (.int p0), some (.int p1), some (.int p2), some (.int p3)]) (S' := []) 6 (fun P9 h9 => c_Sums_findFactors (d + 0) p0 p1 p2 σ hx6 h9) (fun n h => h) ?_
            refine go_ifz (b := x6.1) (k1 := 32) (L1 := [some (.ref 0), some (.int p0), some (.int p1), some (.int p2), some (.int p3)]) (S1 := []) (σ1 := x6.2) (k2 := 26) (L2 := [some (.ref 0), some (.int p0), some (.int p1), some (.int p2), some (.int p3)]) (S2 := []) (σ2 := x6.2) 1 (fun n h => h) (fun hc7 => ?_) (fun hc7 => ?_)
            · rw [if_neg hc7] at h
              cases h
              exact go_ret 2 (fun _ => hp)
            · rw [if_pos hc7] at h
              refine go_call (r := some (.int (f_Sums_factor p3 x6.2))) (σc := x6.2) (σ1 := x6.2) (mi := 232) (vs := [.ref 21, .int p3]) (k' := 30) (L' := [some (.ref 0), some (.int p0), some (.int p1), some (.int p2), some (.int p3)]) (S' := []) 4 (fun P9 h9 => c_Sums_factor (d + 6) p3 x6.2 h9) (fun n h => h) ?_
              cases h
              exact go_ret 3 (fun _ => hp)
          · rw [if_neg hc5] at h
            cases h
            exact go_ret 2 (fun _ => hp)
def f_Sums_doublingsTo_l4 (N : Nat) : Nat → Int32 → Int32 → Int32 → aSt → Option (Int32 × aSt)
  | 0, _, _, _, _ => none
  | n + 1, v2, v3, v4, σ => (if (120 : Int32) ≤ v4 then some ((-1 : Int32), σ) else (if v3 ≠ v2 then ((f_Sums_total N v3 v3 σ).bind fun x3 => (if x3.1 = (-6 : Int32) then some ((-1 : Int32), x3.2) else (if x3.1 ≠ (1000 : Int32) then f_Sums_doublingsTo_l4 N n v2 x3.1 (v4 + (1 : Int32)) x3.2 else some ((-1 : Int32), x3.2)))) else some (v4, σ)))
set_option maxRecDepth 20000 in
set_option maxHeartbeats 4000000 in
theorem t_Sums_doublingsTo_l4 (d : Nat) {N : Nat} {x : (Int32 × aSt)} {P : Option Value → aSt → Prop} (hp : P (some (.int x.1)) x.2) : ∀ (n : Nat) (d1 : Option Value) (v2 : Int32) (v3 : Int32) (v4 : Int32) (σ : aSt), f_Sums_doublingsTo_l4 N n v2 v3 v4 σ = some x → aGo (aCall MT (d + 4)) P mc_Sums_doublingsTo 4 [some (.ref 21), d1, some (.int v2), some (.int v3), some (.int v4)] [] σ := by
  intro n
  induction n with
  | zero => intro d1 v2 v3 v4 σ h; cases h
  | succ n ih =>
    intro d1 v2 v3 v4 σ h
    rw [f_Sums_doublingsTo_l4] at h
    refine go_if (c := (120 : Int32) ≤ v4) (k1 := 27) (L1 := [some (.ref 21), d1, some (.int v2), some (.int v3), some (.int v4)]) (S1 := []) (σ1 := σ) (k2 := 7) (L2 := [some (.ref 21), d1, some (.int v2), some (.int v3), some (.int v4)]) (S2 := []) (σ2 := σ) 3 (fun n h => h) (fun hc1 => ?_) (fun hc1 => ?_)
    · rw [if_pos hc1] at h
      cases h
      exact go_ret 2 (fun _ => hp)
    · rw [if_neg hc1] at h
      refine go_if (c := v3 ≠ v2) (k1 := 12) (L1 := [some (.ref 21), d1, some (.int v2), some (.int v3), some (.int v4)]) (S1 := []) (σ1 := σ) (k2 := 10) (L2 := [some (.ref 21), d1, some (.int v2), some (.int v3), some (.int v4)]) (S2 := []) (σ2 := σ) 3 (fun n h => h) (fun hc2 => ?_) (fun hc2 => ?_)
      · rw [if_pos hc2] at h
        obtain ⟨x3, hx3, h⟩ := bind_of h
        refine go_call (r := some (.int x3.1)) (σc := σ) (σ1 := x3.2) (mi := 101) (vs := [.ref 21, .int v3, .int v3]) (k' := 16) (L' := [some (.ref 21), d1, some (.int v2), some (.int v3), some (.int v4)]) (S' := []) 4 (fun P9 h9 => c_Sums_total (d + 0) v3 v3 σ hx3 h9) (fun n h => h) ?_
        refine go_if (c := x3.1 = (-6 : Int32)) (k1 := 23) (L1 := [some (.ref 21), d1, some (.int v2), some (.int x3.1), some (.int v4)]) (S1 := []) (σ1 := x3.2) (k2 := 20) (L2 := [some (.ref 21), d1, some (.int v2), some (.int x3.1), some (.int v4)]) (S2 := []) (σ2 := x3.2) 4 (fun n h => h) (fun hc4 => ?_) (fun hc4 => ?_)
        · rw [if_pos hc4] at h
          cases h
          exact go_ret 2 (fun _ => hp)
        · rw [if_neg hc4] at h
          refine go_if (c := x3.1 ≠ (1000 : Int32)) (k1 := 25) (L1 := [some (.ref 21), d1, some (.int v2), some (.int x3.1), some (.int v4)]) (S1 := []) (σ1 := x3.2) (k2 := 23) (L2 := [some (.ref 21), d1, some (.int v2), some (.int x3.1), some (.int v4)]) (S2 := []) (σ2 := x3.2) 3 (fun n h => h) (fun hc5 => ?_) (fun hc5 => ?_)
          · rw [if_pos hc5] at h
            refine go_st (k' := 4) (L' := [some (.ref 21), d1, some (.int v2), some (.int x3.1), some (.int (v4 + (1 : Int32)))]) (S' := []) (σ' := x3.2) 2 (fun n h => h) ?_
            exact ih _ v2 x3.1 (v4 + (1 : Int32)) x3.2 h
          · rw [if_neg hc5] at h
            cases h
            exact go_ret 2 (fun _ => hp)
      · rw [if_neg hc2] at h
        cases h
        exact go_ret 2 (fun _ => hp)
def f_Sums_doublingsTo (N : Nat) (p0 : Int32) (p1 : Int32) (σ : aSt) : Option (Int32 × aSt) :=
  f_Sums_doublingsTo_l4 N N p1 p0 (0 : Int32) σ
set_option maxRecDepth 20000 in
set_option maxHeartbeats 4000000 in
theorem c_Sums_doublingsTo (d : Nat) {N : Nat} (p0 : Int32) (p1 : Int32) (σ : aSt) {P : Option Value → aSt → Prop} {x : (Int32 × aSt)} (h : f_Sums_doublingsTo N p0 p1 σ = some x) (hp : P (some (.int x.1)) x.2) : aCall MT (d + 5) 327 [.ref 21, .int p0, .int p1] σ P := by
  unfold f_Sums_doublingsTo at h
  refine call_of (code := mc_Sums_doublingsTo) (L := [some (.ref 21), some (.int p0), some (.int p1), none, none]) rfl rfl rfl rfl ?_
  refine go_st (k' := 4) (L' := [some (.ref 21), some (.int p0), some (.int p1), some (.int p0), some (.int (0 : Int32))]) (S' := []) (σ' := σ) 4 (fun n h => h) ?_
  exact t_Sums_doublingsTo_l4 d hp N _ p1 p0 (0 : Int32) σ h
def f_X_deep_l10 (N : Nat) : Nat → Int32 → Int32 → Int32 → aSt → Option (Int32 × aSt)
  | 0, _, _, _, _ => none
  | n + 1, v1, v2, v3, σ => (if (f_PointList_shown_11 σ) ≤ v3 then some (v2, σ) else ((f_Sums_doublingsTo N v3 v1 σ).bind fun x3 => f_X_deep_l10 N n v1 (imax v2 (x3.1 + (1 : Int32))) (v3 + (1 : Int32)) x3.2))
set_option maxRecDepth 20000 in
set_option maxHeartbeats 4000000 in
theorem t_X_deep_l10 (d : Nat) {N : Nat} {x : (Int32 × aSt)} {P : Option Value → aSt → Prop} (hp : P (some (.int x.1)) x.2) : ∀ (n : Nat) (v1 : Int32) (v2 : Int32) (v3 : Int32) (σ : aSt), f_X_deep_l10 N n v1 v2 v3 σ = some x → aGo (aCall MT (d + 5)) P mc_X_deep 10 [some (.ref 0), some (.int v1), some (.int v2), some (.int v3)] [] σ := by
  intro n
  induction n with
  | zero => intro v1 v2 v3 σ h; cases h
  | succ n ih =>
    intro v1 v2 v3 σ h
    rw [f_X_deep_l10] at h
    refine go_call (r := some (.int (f_PointList_shown_11 σ))) (σc := σ) (σ1 := σ) (mi := 44) (vs := [.ref 11]) (k' := 14) (L' := [some (.ref 0), some (.int v1), some (.int v2), some (.int v3)]) (S' := [.int v3]) 4 (fun P9 h9 => c_PointList_shown_11 (d + 4) σ h9) (fun n h => h) ?_
    refine go_if (c := (f_PointList_shown_11 σ) ≤ v3) (k1 := 27) (L1 := [some (.ref 0), some (.int v1), some (.int v2), some (.int v3)]) (S1 := []) (σ1 := σ) (k2 := 15) (L2 := [some (.ref 0), some (.int v1), some (.int v2), some (.int v3)]) (S2 := []) (σ2 := σ) 1 (fun n h => h) (fun hc2 => ?_) (fun hc2 => ?_)
    · rw [if_pos hc2] at h
      cases h
      exact go_ret 2 (fun _ => hp)
    · rw [if_neg hc2] at h
      obtain ⟨x3, hx3, h⟩ := bind_of h
      refine go_call (r := some (.int x3.1)) (σc := σ) (σ1 := x3.2) (mi := 327) (vs := [.ref 21, .int v3, .int v1]) (k' := 21) (L' := [some (.ref 0), some (.int v1), some (.int v2), some (.int v3)]) (S' := [.int v2]) 6 (fun P9 h9 => c_Sums_doublingsTo (d + 0) v3 v1 σ hx3 h9) (fun n h => h) ?_
      refine go_st (k' := 10) (L' := [some (.ref 0), some (.int v1), some (.int (imax v2 (x3.1 + (1 : Int32)))), some (.int (v3 + (1 : Int32)))]) (S' := []) (σ' := x3.2) 6 (fun n h => h) ?_
      exact ih v1 (imax v2 (x3.1 + (1 : Int32))) (v3 + (1 : Int32)) x3.2 h
def f_X_deep (N : Nat) (p0 : Int32) (σ : aSt) : Option (Int32 × aSt) :=
  (if (f_X_isListed p0 σ) = true then f_X_deep_l10 N N p0 (1 : Int32) (0 : Int32) σ else some ((-2 : Int32), σ))
set_option maxRecDepth 20000 in
set_option maxHeartbeats 4000000 in
theorem c_X_deep (d : Nat) {N : Nat} (p0 : Int32) (σ : aSt) {P : Option Value → aSt → Prop} {x : (Int32 × aSt)} (h : f_X_deep N p0 σ = some x) (hp : P (some (.int x.1)) x.2) : aCall MT (d + 6) 328 [.ref 0, .int p0] σ P := by
  unfold f_X_deep at h
  refine call_of (code := mc_X_deep) (L := [some (.ref 0), some (.int p0), none, none]) rfl rfl rfl rfl ?_
  refine go_call (r := some (.int (b2i (f_X_isListed p0 σ)))) (σc := σ) (σ1 := σ) (mi := 73) (vs := [.ref 0, .int p0]) (k' := 3) (L' := [some (.ref 0), some (.int p0), none, none]) (S' := []) 3 (fun P9 h9 => c_X_isListed (d + 3) p0 σ h9) (fun n h => h) ?_
  refine go_ifn (b := (f_X_isListed p0 σ)) (k1 := 6) (L1 := [some (.ref 0), some (.int p0), none, none]) (S1 := []) (σ1 := σ) (k2 := 4) (L2 := [some (.ref 0), some (.int p0), none, none]) (S2 := []) (σ2 := σ) 1 (fun n h => h) (fun hc1 => ?_) (fun hc1 => ?_)
  · rw [if_pos hc1] at h
    refine go_st (k' := 10) (L' := [some (.ref 0), some (.int p0), some (.int (1 : Int32)), some (.int (0 : Int32))]) (S' := []) (σ' := σ) 4 (fun n h => h) ?_
    exact t_X_deep_l10 d hp N p0 (1 : Int32) (0 : Int32) σ h
  · rw [if_neg hc1] at h
    cases h
    exact go_ret 2 (fun _ => hp)
def f_Told_putText_205_l2 (N : Nat) : Nat → Int32 → aSt → Option aSt
  | 0, _, _ => none
  | n + 1, v2, σ => (if (6 : Int32) ≤ v2 then some σ else (if 0 ≤ v2 ∧ v2 < (6 : Int32) then (lt (f_Told_putByte (sch 205 v2) σ) fun x3 => f_Told_putText_205_l2 N n (v2 + (1 : Int32)) x3) else none))
set_option maxRecDepth 20000 in
set_option maxHeartbeats 4000000 in
theorem t_Told_putText_205_l2 (d : Nat) {N : Nat} {x : aSt} {P : Option Value → aSt → Prop} (hp : P none x) : ∀ (n : Nat) (v2 : Int32) (σ : aSt), f_Told_putText_205_l2 N n v2 σ = some x → aGo (aCall MT (d + 2)) P mc_Told_putText 2 [some (.ref 4), some (.ref 205), some (.int v2)] [] σ := by
  intro n
  induction n with
  | zero => intro v2 σ h; cases h
  | succ n ih =>
    intro v2 σ h
    rw [f_Told_putText_205_l2] at h
    refine go_if (c := (6 : Int32) ≤ v2) (k1 := 13) (L1 := [some (.ref 4), some (.ref 205), some (.int v2)]) (S1 := []) (σ1 := σ) (k2 := 6) (L2 := [some (.ref 4), some (.ref 205), some (.int v2)]) (S2 := []) (σ2 := σ) 4 (fun n h => h) (fun hc1 => ?_) (fun hc1 => ?_)
    · rw [if_pos hc1] at h
      cases h
      exact go_ret 1 (fun _ => hp)
    · rw [if_neg hc1] at h
      obtain ⟨hc2, h⟩ := ite_of h
      refine go_q (Q := 0 ≤ v2 ∧ v2 < slen 205) (k' := 10) (L' := [some (.ref 4), some (.ref 205), some (.int v2)]) (S' := [.int (sch 205 v2), .ref 4]) (σ' := σ) 4 hc2 (fun n h => h) ?_
      obtain ⟨x3, hx3, h⟩ := lt_of h
      refine go_call (r := none) (σc := σ) (σ1 := x3) (mi := 257) (vs := [.ref 4, .int (sch 205 v2)]) (k' := 11) (L' := [some (.ref 4), some (.ref 205), some (.int v2)]) (S' := []) 1 (fun P9 h9 => c_Told_putByte (d + 0) (sch 205 v2) σ (by rw [← hx3]; exact h9)) (fun n h => h) ?_
      refine go_st (k' := 2) (L' := [some (.ref 4), some (.ref 205), some (.int (v2 + (1 : Int32)))]) (S' := []) (σ' := x3) 2 (fun n h => h) ?_
      exact ih (v2 + (1 : Int32)) x3 h
def f_Told_putText_205 (N : Nat) (σ : aSt) : Option aSt :=
  f_Told_putText_205_l2 N N (0 : Int32) σ
set_option maxRecDepth 20000 in
set_option maxHeartbeats 4000000 in
theorem c_Told_putText_205 (d : Nat) {N : Nat} (σ : aSt) {P : Option Value → aSt → Prop} {x : aSt} (h : f_Told_putText_205 N σ = some x) (hp : P none x) : aCall MT (d + 3) 260 [.ref 4, .ref 205] σ P := by
  unfold f_Told_putText_205 at h
  refine call_of (code := mc_Told_putText) (L := [some (.ref 4), some (.ref 205), none]) rfl rfl rfl rfl ?_
  refine go_st (k' := 2) (L' := [some (.ref 4), some (.ref 205), some (.int (0 : Int32))]) (S' := []) (σ' := σ) 2 (fun n h => h) ?_
  exact t_Told_putText_205_l2 d hp N (0 : Int32) σ h
def f_Told_putText_207_l2 (N : Nat) : Nat → Int32 → aSt → Option aSt
  | 0, _, _ => none
  | n + 1, v2, σ => (if (1 : Int32) ≤ v2 then some σ else (if 0 ≤ v2 ∧ v2 < (1 : Int32) then (lt (f_Told_putByte (sch 207 v2) σ) fun x3 => f_Told_putText_207_l2 N n (v2 + (1 : Int32)) x3) else none))
set_option maxRecDepth 20000 in
set_option maxHeartbeats 4000000 in
theorem t_Told_putText_207_l2 (d : Nat) {N : Nat} {x : aSt} {P : Option Value → aSt → Prop} (hp : P none x) : ∀ (n : Nat) (v2 : Int32) (σ : aSt), f_Told_putText_207_l2 N n v2 σ = some x → aGo (aCall MT (d + 2)) P mc_Told_putText 2 [some (.ref 4), some (.ref 207), some (.int v2)] [] σ := by
  intro n
  induction n with
  | zero => intro v2 σ h; cases h
  | succ n ih =>
    intro v2 σ h
    rw [f_Told_putText_207_l2] at h
    refine go_if (c := (1 : Int32) ≤ v2) (k1 := 13) (L1 := [some (.ref 4), some (.ref 207), some (.int v2)]) (S1 := []) (σ1 := σ) (k2 := 6) (L2 := [some (.ref 4), some (.ref 207), some (.int v2)]) (S2 := []) (σ2 := σ) 4 (fun n h => h) (fun hc1 => ?_) (fun hc1 => ?_)
    · rw [if_pos hc1] at h
      cases h
      exact go_ret 1 (fun _ => hp)
    · rw [if_neg hc1] at h
      obtain ⟨hc2, h⟩ := ite_of h
      refine go_q (Q := 0 ≤ v2 ∧ v2 < slen 207) (k' := 10) (L' := [some (.ref 4), some (.ref 207), some (.int v2)]) (S' := [.int (sch 207 v2), .ref 4]) (σ' := σ) 4 hc2 (fun n h => h) ?_
      obtain ⟨x3, hx3, h⟩ := lt_of h
      refine go_call (r := none) (σc := σ) (σ1 := x3) (mi := 257) (vs := [.ref 4, .int (sch 207 v2)]) (k' := 11) (L' := [some (.ref 4), some (.ref 207), some (.int v2)]) (S' := []) 1 (fun P9 h9 => c_Told_putByte (d + 0) (sch 207 v2) σ (by rw [← hx3]; exact h9)) (fun n h => h) ?_
      refine go_st (k' := 2) (L' := [some (.ref 4), some (.ref 207), some (.int (v2 + (1 : Int32)))]) (S' := []) (σ' := x3) 2 (fun n h => h) ?_
      exact ih (v2 + (1 : Int32)) x3 h
def f_Told_putText_207 (N : Nat) (σ : aSt) : Option aSt :=
  f_Told_putText_207_l2 N N (0 : Int32) σ
set_option maxRecDepth 20000 in
set_option maxHeartbeats 4000000 in
theorem c_Told_putText_207 (d : Nat) {N : Nat} (σ : aSt) {P : Option Value → aSt → Prop} {x : aSt} (h : f_Told_putText_207 N σ = some x) (hp : P none x) : aCall MT (d + 3) 260 [.ref 4, .ref 207] σ P := by
  unfold f_Told_putText_207 at h
  refine call_of (code := mc_Told_putText) (L := [some (.ref 4), some (.ref 207), none]) rfl rfl rfl rfl ?_
  refine go_st (k' := 2) (L' := [some (.ref 4), some (.ref 207), some (.int (0 : Int32))]) (S' := []) (σ' := σ) 2 (fun n h => h) ?_
  exact t_Told_putText_207_l2 d hp N (0 : Int32) σ h
def f_X_tellPart_207_b7 (N : Nat) (v1 : Int32) (s1 : Int32) (σ : aSt) : Option aSt :=
  (lt (f_Told_putByte s1 σ) fun x2 => (if v1 = (1 : Int32) then ((f_Told_putText_207 N x2).bind fun x4 => some x4) else (if v1 = (-1 : Int32) then ((f_Told_putText_207 N x2).bind fun x6 => some x6) else ((f_Told_putNumber N (iabs v1) x2).bind fun x7 => ((f_Told_putText_207 N x7).bind fun x8 => some x8)))))
set_option maxRecDepth 20000 in
set_option maxHeartbeats 4000000 in
theorem t_X_tellPart_207_b7 (d : Nat) {N : Nat} (v1 : Int32) (s1 : Int32) (σ : aSt) {P : Option Value → aSt → Prop} {x : aSt} (h : f_X_tellPart_207_b7 N v1 s1 σ = some x) (hp : P none x) : aGo (aCall MT (d + 3)) P mc_X_tellPart 7 [some (.ref 0), some (.int v1), some (.ref 207)] [.int s1, .ref 4] σ := by
  unfold f_X_tellPart_207_b7 at h
  obtain ⟨x2, hx2, h⟩ := lt_of h
  refine go_call (r := none) (σc := σ) (σ1 := x2) (mi := 257) (vs := [.ref 4, .int s1]) (k' := 8) (L' := [some (.ref 0), some (.int v1), some (.ref 207)]) (S' := []) 1 (fun P9 h9 => c_Told_putByte (d + 1) s1 σ (by rw [← hx2]; exact h9)) (fun n h => h) ?_
  refine go_if (c := v1 = (1 : Int32)) (k1 := 19) (L1 := [some (.ref 0), some (.int v1), some (.ref 207)]) (S1 := []) (σ1 := x2) (k2 := 11) (L2 := [some (.ref 0), some (.int v1), some (.ref 207)]) (S2 := []) (σ2 := x2) 3 (fun n h => h) (fun hc3 => ?_) (fun hc3 => ?_)
  · rw [if_pos hc3] at h
    obtain ⟨x4, hx4, h⟩ := bind_of h
    refine go_call (r := none) (σc := x2) (σ1 := x4) (mi := 260) (vs := [.ref 4, .ref 207]) (k' := 23) (L' := [some (.ref 0), some (.int v1), some (.ref 207)]) (S' := []) 4 (fun P9 h9 => c_Told_putText_207 (d + 0) x2 hx4 h9) (fun n h => h) ?_
    cases h
    exact go_ret 1 (fun _ => hp)
  · rw [if_neg hc3] at h
    refine go_if (c := v1 = (-1 : Int32)) (k1 := 19) (L1 := [some (.ref 0), some (.int v1), some (.ref 207)]) (S1 := []) (σ1 := x2) (k2 := 14) (L2 := [some (.ref 0), some (.int v1), some (.ref 207)]) (S2 := []) (σ2 := x2) 3 (fun n h => h) (fun hc5 => ?_) (fun hc5 => ?_)
    · rw [if_pos hc5] at h
      obtain ⟨x6, hx6, h⟩ := bind_of h
      refine go_call (r := none) (σc := x2) (σ1 := x6) (mi := 260) (vs := [.ref 4, .ref 207]) (k' := 23) (L' := [some (.ref 0), some (.int v1), some (.ref 207)]) (S' := []) 4 (fun P9 h9 => c_Told_putText_207 (d + 0) x2 hx6 h9) (fun n h => h) ?_
      cases h
      exact go_ret 1 (fun _ => hp)
    · rw [if_neg hc5] at h
      obtain ⟨x7, hx7, h⟩ := bind_of h
      refine go_call (r := none) (σc := x2) (σ1 := x7) (mi := 258) (vs := [.ref 4, .int (iabs v1)]) (k' := 19) (L' := [some (.ref 0), some (.int v1), some (.ref 207)]) (S' := []) 5 (fun P9 h9 => c_Told_putNumber (d + 0) (iabs v1) x2 hx7 h9) (fun n h => h) ?_
      obtain ⟨x8, hx8, h⟩ := bind_of h
      refine go_call (r := none) (σc := x7) (σ1 := x8) (mi := 260) (vs := [.ref 4, .ref 207]) (k' := 23) (L' := [some (.ref 0), some (.int v1), some (.ref 207)]) (S' := []) 4 (fun P9 h9 => c_Told_putText_207 (d + 0) x7 hx8 h9) (fun n h => h) ?_
      cases h
      exact go_ret 1 (fun _ => hp)
def f_X_tellPart_207 (N : Nat) (p0 : Int32) (σ : aSt) : Option aSt :=
  (if 0 ≤ p0 then f_X_tellPart_207_b7 N p0 (43 : Int32) σ else f_X_tellPart_207_b7 N p0 (45 : Int32) σ)
set_option maxRecDepth 20000 in
set_option maxHeartbeats 4000000 in
theorem c_X_tellPart_207 (d : Nat) {N : Nat} (p0 : Int32) (σ : aSt) {P : Option Value → aSt → Prop} {x : aSt} (h : f_X_tellPart_207 N p0 σ = some x) (hp : P none x) : aCall MT (d + 4) 331 [.ref 0, .int p0, .ref 207] σ P := by
  unfold f_X_tellPart_207 at h
  refine call_of (code := mc_X_tellPart) (L := [some (.ref 0), some (.int p0), some (.ref 207)]) rfl rfl rfl rfl ?_
  refine go_if (c := 0 ≤ p0) (k1 := 6) (L1 := [some (.ref 0), some (.int p0), some (.ref 207)]) (S1 := [.ref 4]) (σ1 := σ) (k2 := 4) (L2 := [some (.ref 0), some (.int p0), some (.ref 207)]) (S2 := [.ref 4]) (σ2 := σ) 4 (fun n h => h) (fun hc1 => ?_) (fun hc1 => ?_)
  · rw [if_pos hc1] at h
    refine go_st (k' := 7) (L' := [some (.ref 0), some (.int p0), some (.ref 207)]) (S' := [.int (43 : Int32), .ref 4]) (σ' := σ) 1 (fun n h => h) ?_
    exact t_X_tellPart_207_b7 d p0 (43 : Int32) σ h hp
  · rw [if_neg hc1] at h
    refine go_st (k' := 7) (L' := [some (.ref 0), some (.int p0), some (.ref 207)]) (S' := [.int (45 : Int32), .ref 4]) (σ' := σ) 2 (fun n h => h) ?_
    exact t_X_tellPart_207_b7 d p0 (45 : Int32) σ h hp
def f_Told_putText_206_l2 (N : Nat) : Nat → Int32 → aSt → Option aSt
  | 0, _, _ => none
  | n + 1, v2, σ => (if (2 : Int32) ≤ v2 then some σ else (if 0 ≤ v2 ∧ v2 < (2 : Int32) then (lt (f_Told_putByte (sch 206 v2) σ) fun x3 => f_Told_putText_206_l2 N n (v2 + (1 : Int32)) x3) else none))
set_option maxRecDepth 20000 in
set_option maxHeartbeats 4000000 in
theorem t_Told_putText_206_l2 (d : Nat) {N : Nat} {x : aSt} {P : Option Value → aSt → Prop} (hp : P none x) : ∀ (n : Nat) (v2 : Int32) (σ : aSt), f_Told_putText_206_l2 N n v2 σ = some x → aGo (aCall MT (d + 2)) P mc_Told_putText 2 [some (.ref 4), some (.ref 206), some (.int v2)] [] σ := by
  intro n
  induction n with
  | zero => intro v2 σ h; cases h
  | succ n ih =>
    intro v2 σ h
    rw [f_Told_putText_206_l2] at h
    refine go_if (c := (2 : Int32) ≤ v2) (k1 := 13) (L1 := [some (.ref 4), some (.ref 206), some (.int v2)]) (S1 := []) (σ1 := σ) (k2 := 6) (L2 := [some (.ref 4), some (.ref 206), some (.int v2)]) (S2 := []) (σ2 := σ) 4 (fun n h => h) (fun hc1 => ?_) (fun hc1 => ?_)
    · rw [if_pos hc1] at h
      cases h
      exact go_ret 1 (fun _ => hp)
    · rw [if_neg hc1] at h
      obtain ⟨hc2, h⟩ := ite_of h
      refine go_q (Q := 0 ≤ v2 ∧ v2 < slen 206) (k' := 10) (L' := [some (.ref 4), some (.ref 206), some (.int v2)]) (S' := [.int (sch 206 v2), .ref 4]) (σ' := σ) 4 hc2 (fun n h => h) ?_
      obtain ⟨x3, hx3, h⟩ := lt_of h
      refine go_call (r := none) (σc := σ) (σ1 := x3) (mi := 257) (vs := [.ref 4, .int (sch 206 v2)]) (k' := 11) (L' := [some (.ref 4), some (.ref 206), some (.int v2)]) (S' := []) 1 (fun P9 h9 => c_Told_putByte (d + 0) (sch 206 v2) σ (by rw [← hx3]; exact h9)) (fun n h => h) ?_
      refine go_st (k' := 2) (L' := [some (.ref 4), some (.ref 206), some (.int (v2 + (1 : Int32)))]) (S' := []) (σ' := x3) 2 (fun n h => h) ?_
      exact ih (v2 + (1 : Int32)) x3 h
def f_Told_putText_206 (N : Nat) (σ : aSt) : Option aSt :=
  f_Told_putText_206_l2 N N (0 : Int32) σ
set_option maxRecDepth 20000 in
set_option maxHeartbeats 4000000 in
theorem c_Told_putText_206 (d : Nat) {N : Nat} (σ : aSt) {P : Option Value → aSt → Prop} {x : aSt} (h : f_Told_putText_206 N σ = some x) (hp : P none x) : aCall MT (d + 3) 260 [.ref 4, .ref 206] σ P := by
  unfold f_Told_putText_206 at h
  refine call_of (code := mc_Told_putText) (L := [some (.ref 4), some (.ref 206), none]) rfl rfl rfl rfl ?_
  refine go_st (k' := 2) (L' := [some (.ref 4), some (.ref 206), some (.int (0 : Int32))]) (S' := []) (σ' := σ) 2 (fun n h => h) ?_
  exact t_Told_putText_206_l2 d hp N (0 : Int32) σ h
def f_X_tellPart_206_b7 (N : Nat) (v1 : Int32) (s1 : Int32) (σ : aSt) : Option aSt :=
  (lt (f_Told_putByte s1 σ) fun x2 => (if v1 = (1 : Int32) then ((f_Told_putText_206 N x2).bind fun x4 => some x4) else (if v1 = (-1 : Int32) then ((f_Told_putText_206 N x2).bind fun x6 => some x6) else ((f_Told_putNumber N (iabs v1) x2).bind fun x7 => ((f_Told_putText_206 N x7).bind fun x8 => some x8)))))
set_option maxRecDepth 20000 in
set_option maxHeartbeats 4000000 in
theorem t_X_tellPart_206_b7 (d : Nat) {N : Nat} (v1 : Int32) (s1 : Int32) (σ : aSt) {P : Option Value → aSt → Prop} {x : aSt} (h : f_X_tellPart_206_b7 N v1 s1 σ = some x) (hp : P none x) : aGo (aCall MT (d + 3)) P mc_X_tellPart 7 [some (.ref 0), some (.int v1), some (.ref 206)] [.int s1, .ref 4] σ := by
  unfold f_X_tellPart_206_b7 at h
  obtain ⟨x2, hx2, h⟩ := lt_of h
  refine go_call (r := none) (σc := σ) (σ1 := x2) (mi := 257) (vs := [.ref 4, .int s1]) (k' := 8) (L' := [some (.ref 0), some (.int v1), some (.ref 206)]) (S' := []) 1 (fun P9 h9 => c_Told_putByte (d + 1) s1 σ (by rw [← hx2]; exact h9)) (fun n h => h) ?_
  refine go_if (c := v1 = (1 : Int32)) (k1 := 19) (L1 := [some (.ref 0), some (.int v1), some (.ref 206)]) (S1 := []) (σ1 := x2) (k2 := 11) (L2 := [some (.ref 0), some (.int v1), some (.ref 206)]) (S2 := []) (σ2 := x2) 3 (fun n h => h) (fun hc3 => ?_) (fun hc3 => ?_)
  · rw [if_pos hc3] at h
    obtain ⟨x4, hx4, h⟩ := bind_of h
    refine go_call (r := none) (σc := x2) (σ1 := x4) (mi := 260) (vs := [.ref 4, .ref 206]) (k' := 23) (L' := [some (.ref 0), some (.int v1), some (.ref 206)]) (S' := []) 4 (fun P9 h9 => c_Told_putText_206 (d + 0) x2 hx4 h9) (fun n h => h) ?_
    cases h
    exact go_ret 1 (fun _ => hp)
  · rw [if_neg hc3] at h
    refine go_if (c := v1 = (-1 : Int32)) (k1 := 19) (L1 := [some (.ref 0), some (.int v1), some (.ref 206)]) (S1 := []) (σ1 := x2) (k2 := 14) (L2 := [some (.ref 0), some (.int v1), some (.ref 206)]) (S2 := []) (σ2 := x2) 3 (fun n h => h) (fun hc5 => ?_) (fun hc5 => ?_)
    · rw [if_pos hc5] at h
      obtain ⟨x6, hx6, h⟩ := bind_of h
      refine go_call (r := none) (σc := x2) (σ1 := x6) (mi := 260) (vs := [.ref 4, .ref 206]) (k' := 23) (L' := [some (.ref 0), some (.int v1), some (.ref 206)]) (S' := []) 4 (fun P9 h9 => c_Told_putText_206 (d + 0) x2 hx6 h9) (fun n h => h) ?_
      cases h
      exact go_ret 1 (fun _ => hp)
    · rw [if_neg hc5] at h
      obtain ⟨x7, hx7, h⟩ := bind_of h
      refine go_call (r := none) (σc := x2) (σ1 := x7) (mi := 258) (vs := [.ref 4, .int (iabs v1)]) (k' := 19) (L' := [some (.ref 0), some (.int v1), some (.ref 206)]) (S' := []) 5 (fun P9 h9 => c_Told_putNumber (d + 0) (iabs v1) x2 hx7 h9) (fun n h => h) ?_
      obtain ⟨x8, hx8, h⟩ := bind_of h
      refine go_call (r := none) (σc := x7) (σ1 := x8) (mi := 260) (vs := [.ref 4, .ref 206]) (k' := 23) (L' := [some (.ref 0), some (.int v1), some (.ref 206)]) (S' := []) 4 (fun P9 h9 => c_Told_putText_206 (d + 0) x7 hx8 h9) (fun n h => h) ?_
      cases h
      exact go_ret 1 (fun _ => hp)
def f_X_tellPart_206 (N : Nat) (p0 : Int32) (σ : aSt) : Option aSt :=
  (if 0 ≤ p0 then f_X_tellPart_206_b7 N p0 (43 : Int32) σ else f_X_tellPart_206_b7 N p0 (45 : Int32) σ)
set_option maxRecDepth 20000 in
set_option maxHeartbeats 4000000 in
theorem c_X_tellPart_206 (d : Nat) {N : Nat} (p0 : Int32) (σ : aSt) {P : Option Value → aSt → Prop} {x : aSt} (h : f_X_tellPart_206 N p0 σ = some x) (hp : P none x) : aCall MT (d + 4) 331 [.ref 0, .int p0, .ref 206] σ P := by
  unfold f_X_tellPart_206 at h
  refine call_of (code := mc_X_tellPart) (L := [some (.ref 0), some (.int p0), some (.ref 206)]) rfl rfl rfl rfl ?_
  refine go_if (c := 0 ≤ p0) (k1 := 6) (L1 := [some (.ref 0), some (.int p0), some (.ref 206)]) (S1 := [.ref 4]) (σ1 := σ) (k2 := 4) (L2 := [some (.ref 0), some (.int p0), some (.ref 206)]) (S2 := [.ref 4]) (σ2 := σ) 4 (fun n h => h) (fun hc1 => ?_) (fun hc1 => ?_)
  · rw [if_pos hc1] at h
    refine go_st (k' := 7) (L' := [some (.ref 0), some (.int p0), some (.ref 206)]) (S' := [.int (43 : Int32), .ref 4]) (σ' := σ) 1 (fun n h => h) ?_
    exact t_X_tellPart_206_b7 d p0 (43 : Int32) σ h hp
  · rw [if_neg hc1] at h
    refine go_st (k' := 7) (L' := [some (.ref 0), some (.int p0), some (.ref 206)]) (S' := [.int (45 : Int32), .ref 4]) (σ' := σ) 2 (fun n h => h) ?_
    exact t_X_tellPart_206_b7 d p0 (45 : Int32) σ h hp
def f_X_tellCurve (N : Nat) (σ : aSt) : Option (Int32 × aSt) :=
  (if (σ.2.2 0 13) = true then (lt (f_Told_clear σ) fun x2 => ((f_Told_putText_205 N x2).bind fun x3 => (if (f_PointList_a_11 x3) = 0 then ((f_X_tellPart_207 N (f_PointList_b_11 x3) x3).bind fun x5 => some ((f_Told_length x5), x5)) else ((f_X_tellPart_206 N (f_PointList_a_11 x3) x3).bind fun x6 => ((f_X_tellPart_207 N (f_PointList_b_11 x6) x6).bind fun x7 => some ((f_Told_length x7), x7)))))) else some ((-2 : Int32), σ))
set_option maxRecDepth 20000 in
set_option maxHeartbeats 4000000 in
theorem c_X_tellCurve (d : Nat) {N : Nat} (σ : aSt) {P : Option Value → aSt → Prop} {x : (Int32 × aSt)} (h : f_X_tellCurve N σ = some x) (hp : P (some (.int x.1)) x.2) : aCall MT (d + 5) 332 [.ref 0] σ P := by
  unfold f_X_tellCurve at h
  refine call_of (code := mc_X_tellCurve) (L := [some (.ref 0)]) rfl rfl rfl rfl ?_
  refine go_ifn (b := (σ.2.2 0 13)) (k1 := 5) (L1 := [some (.ref 0)]) (S1 := []) (σ1 := σ) (k2 := 3) (L2 := [some (.ref 0)]) (S2 := []) (σ2 := σ) 3 (fun n h => h) (fun hc1 => ?_) (fun hc1 => ?_)
  · rw [if_pos hc1] at h
    obtain ⟨x2, hx2, h⟩ := lt_of h
    refine go_call (r := none) (σc := σ) (σ1 := x2) (mi := 256) (vs := [.ref 4]) (k' := 8) (L' := [some (.ref 0)]) (S' := []) 3 (fun P9 h9 => c_Told_clear (d + 3) σ (by rw [← hx2]; exact h9)) (fun n h => h) ?_
    obtain ⟨x3, hx3, h⟩ := bind_of h
    refine go_call (r := none) (σc := x2) (σ1 := x3) (mi := 260) (vs := [.ref 4, .ref 205]) (k' := 12) (L' := [some (.ref 0)]) (S' := []) 4 (fun P9 h9 => c_Told_putText_205 (d + 1) x2 hx3 h9) (fun n h => h) ?_
    refine go_call (r := some (.int (f_PointList_a_11 x3))) (σc := x3) (σ1 := x3) (mi := 26) (vs := [.ref 11]) (k' := 15) (L' := [some (.ref 0)]) (S' := []) 3 (fun P9 h9 => c_PointList_a_11 (d + 3) x3 h9) (fun n h => h) ?_
    refine go_if (c := (f_PointList_a_11 x3) = 0) (k1 := 22) (L1 := [some (.ref 0)]) (S1 := []) (σ1 := x3) (k2 := 16) (L2 := [some (.ref 0)]) (S2 := []) (σ2 := x3) 1 (fun n h => h) (fun hc4 => ?_) (fun hc4 => ?_)
    · rw [if_pos hc4] at h
      refine go_call (r := some (.int (f_PointList_b_11 x3))) (σc := x3) (σ1 := x3) (mi := 27) (vs := [.ref 11]) (k' := 26) (L' := [some (.ref 0)]) (S' := [.ref 0]) 4 (fun P9 h9 => c_PointList_b_11 (d + 3) x3 h9) (fun n h => h) ?_
      obtain ⟨x5, hx5, h⟩ := bind_of h
      refine go_call (r := none) (σc := x3) (σ1 := x5) (mi := 331) (vs := [.ref 0, .int (f_PointList_b_11 x3), .ref 207]) (k' := 28) (L' := [some (.ref 0)]) (S' := []) 2 (fun P9 h9 => c_X_tellPart_207 (d + 0) (f_PointList_b_11 x3) x3 hx5 h9) (fun n h => h) ?_
      refine go_call (r := some (.int (f_Told_length x5))) (σc := x5) (σ1 := x5) (mi := 68) (vs := [.ref 4]) (k' := 31) (L' := [some (.ref 0)]) (S' := []) 3 (fun P9 h9 => c_Told_length (d + 3) x5 h9) (fun n h => h) ?_
      cases h
      exact go_ret 1 (fun _ => hp)
    · rw [if_neg hc4] at h
      refine go_call (r := some (.int (f_PointList_a_11 x3))) (σc := x3) (σ1 := x3) (mi := 26) (vs := [.ref 11]) (k' := 20) (L' := [some (.ref 0)]) (S' := [.ref 0]) 4 (fun P9 h9 => c_PointList_a_11 (d + 3) x3 h9) (fun n h => h) ?_
      obtain ⟨x6, hx6, h⟩ := bind_of h
      refine go_call (r := none) (σc := x3) (σ1 := x6) (mi := 331) (vs := [.ref 0, .int (f_PointList_a_11 x3), .ref 206]) (k' := 22) (L' := [some (.ref 0)]) (S' := []) 2 (fun P9 h9 => c_X_tellPart_206 (d + 0) (f_PointList_a_11 x3) x3 hx6 h9) (fun n h => h) ?_
      refine go_call (r := some (.int (f_PointList_b_11 x6))) (σc := x6) (σ1 := x6) (mi := 27) (vs := [.ref 11]) (k' := 26) (L' := [some (.ref 0)]) (S' := [.ref 0]) 4 (fun P9 h9 => c_PointList_b_11 (d + 3) x6 h9) (fun n h => h) ?_
      obtain ⟨x7, hx7, h⟩ := bind_of h
      refine go_call (r := none) (σc := x6) (σ1 := x7) (mi := 331) (vs := [.ref 0, .int (f_PointList_b_11 x6), .ref 207]) (k' := 28) (L' := [some (.ref 0)]) (S' := []) 2 (fun P9 h9 => c_X_tellPart_207 (d + 0) (f_PointList_b_11 x6) x6 hx7 h9) (fun n h => h) ?_
      refine go_call (r := some (.int (f_Told_length x7))) (σc := x7) (σ1 := x7) (mi := 68) (vs := [.ref 4]) (k' := 31) (L' := [some (.ref 0)]) (S' := []) 3 (fun P9 h9 => c_Told_length (d + 3) x7 h9) (fun n h => h) ?_
      cases h
      exact go_ret 1 (fun _ => hp)
  · rw [if_neg hc1] at h
    cases h
    exact go_ret 2 (fun _ => hp)
def f_PrimeGroup_clearSeen (σ : aSt) : aSt :=
  (lt (f_fill σ 38 (0 : Int32)) fun x1 => x1)
set_option maxRecDepth 20000 in
set_option maxHeartbeats 4000000 in
theorem c_PrimeGroup_clearSeen (d : Nat) (σ : aSt) {P : Option Value → aSt → Prop} (h : P none (f_PrimeGroup_clearSeen σ)) : aCall MT (d + 2) 335 [.ref 34] σ P := by
  unfold f_PrimeGroup_clearSeen at h
  refine call_of (code := mc_PrimeGroup_clearSeen) (L := [some (.ref 34)]) rfl rfl rfl rfl ?_
  obtain ⟨x1, hx1⟩ : ∃ x1, x1 = f_fill σ 38 (0 : Int32) := ⟨_, rfl⟩
  rw [lt_eq, ← hx1] at h
  refine go_call (r := none) (σc := σ) (σ1 := x1) (mi := 28) (vs := [.ref 38, .int (0 : Int32)]) (k' := 4) (L' := [some (.ref 34)]) (S' := []) 4 (fun P9 h9 => c_fill (d + 0) σ 38 rfl rfl (0 : Int32) (by rw [← hx1]; exact h9)) (fun n h => h) ?_
  exact go_ret 1 (fun _ => h)
def f_PrimeGroup_seesNew_b7 (s0 : Int32) (σ : aSt) : (Bool × aSt) :=
  (if (f_pick σ 38 s0) = 0 then (lt (f_store σ 38 s0 (1 : Int32)) fun x3 => (true, x3)) else (false, σ))
set_option maxRecDepth 20000 in
set_option maxHeartbeats 4000000 in
theorem t_PrimeGroup_seesNew_b7 (d : Nat) (d1 d2 : Option Value) (s0 : Int32) (σ : aSt) {P : Option Value → aSt → Prop} (h : P (some (.int (b2i ((f_PrimeGroup_seesNew_b7 s0 σ).1)))) (f_PrimeGroup_seesNew_b7 s0 σ).2) : aGo (aCall MT (d + 1)) P mc_PrimeGroup_seesNew 7 [some (.ref 34), d1, d2] [.int s0] σ := by
  unfold f_PrimeGroup_seesNew_b7 at h
  refine go_call (r := some (.int (f_pick σ 38 s0))) (σc := σ) (σ1 := σ) (mi := 9) (vs := [.ref 38, .int s0]) (k' := 12) (L' := [some (.ref 34), none, some (.int s0)]) (S' := []) 5 (fun P9 h9 => c_pick (d + 0) σ 38 rfl s0 h9) (fun n h => h) ?_
  refine go_if (c := (f_pick σ 38 s0) = 0) (k1 := 15) (L1 := [some (.ref 34), none, some (.int s0)]) (S1 := []) (σ1 := σ) (k2 := 13) (L2 := [some (.ref 34), none, some (.int s0)]) (S2 := []) (σ2 := σ) 1 (fun n h => h) (fun hc2 => ?_) (fun hc2 => ?_)
  · rw [if_pos hc2] at h
    obtain ⟨x3, hx3⟩ : ∃ x3, x3 = f_store σ 38 s0 (1 : Int32) := ⟨_, rfl⟩
    rw [lt_eq, ← hx3] at h
    refine go_call (r := none) (σc := σ) (σ1 := x3) (mi := 1) (vs := [.ref 38, .int s0, .int (1 : Int32)]) (k' := 20) (L' := [some (.ref 34), none, some (.int s0)]) (S' := []) 5 (fun P9 h9 => c_store (d + 0) σ 38 rfl rfl s0 (1 : Int32) (by rw [← hx3]; exact h9)) (fun n h => h) ?_
    exact go_ret 2 (fun _ => And.intro (Or.inr rfl) h)
  · rw [if_neg hc2] at h
    exact go_ret 2 (fun _ => And.intro (Or.inl rfl) h)
def f_PrimeGroup_seesNew (p0 : Int32) (σ : aSt) : (Bool × aSt) :=
  (if 0 ≤ p0 then f_PrimeGroup_seesNew_b7 (f_PrimeGroup_slotOf p0 σ) σ else f_PrimeGroup_seesNew_b7 (194 : Int32) σ)
set_option maxRecDepth 20000 in
set_option maxHeartbeats 4000000 in
theorem c_PrimeGroup_seesNew (d : Nat) (p0 : Int32) (σ : aSt) {P : Option Value → aSt → Prop} (h : P (some (.int (b2i ((f_PrimeGroup_seesNew p0 σ).1)))) (f_PrimeGroup_seesNew p0 σ).2) : aCall MT (d + 2) 336 [.ref 34, .int p0] σ P := by
  unfold f_PrimeGroup_seesNew at h
  refine call_of (code := mc_PrimeGroup_seesNew) (L := [some (.ref 34), some (.int p0), none]) rfl rfl rfl rfl ?_
  refine go_if (c := 0 ≤ p0) (k1 := 4) (L1 := [some (.ref 34), some (.int p0), none]) (S1 := []) (σ1 := σ) (k2 := 2) (L2 := [some (.ref 34), some (.int p0), none]) (S2 := []) (σ2 := σ) 2 (fun n h => h) (fun hc1 => ?_) (fun hc1 => ?_)
  · rw [if_pos hc1] at h
    refine go_call (r := some (.int (f_PrimeGroup_slotOf p0 σ))) (σc := σ) (σ1 := σ) (mi := 282) (vs := [.ref 34, .int p0]) (k' := 7) (L' := [some (.ref 34), some (.int p0), none]) (S' := []) 3 (fun P9 h9 => c_PrimeGroup_slotOf (d + 0) p0 σ h9) (fun n h => h) ?_
    exact t_PrimeGroup_seesNew_b7 d _ _ (f_PrimeGroup_slotOf p0 σ) σ h
  · rw [if_neg hc1] at h
    refine go_st (k' := 7) (L' := [some (.ref 34), some (.int p0), none]) (S' := [.int (194 : Int32)]) (σ' := σ) 2 (fun n h => h) ?_
    exact t_PrimeGroup_seesNew_b7 d _ _ (194 : Int32) σ h
def f_X_seenBy_l17 (N : Nat) : Nat → Int32 → Int32 → aSt → Option (Int32 × aSt)
  | 0, _, _, _ => none
  | n + 1, v2, v3, σ => (if (f_PointList_shown_11 σ) ≤ v3 then some (v2, σ) else ((f_X_codeBy N v3 σ).bind fun x6 => (lt (f_PrimeGroup_seesNew x6 σ) fun x7 => (if x7.1 = true then f_X_seenBy_l17 N n (v2 + (1 : Int32)) (v3 + (1 : Int32)) x7.2 else f_X_seenBy_l17 N n v2 (v3 + (1 : Int32)) x7.2))))
set_option maxRecDepth 20000 in
set_option maxHeartbeats 4000000 in
theorem t_X_seenBy_l17 (d : Nat) {N : Nat} {x : (Int32 × aSt)} {P : Option Value → aSt → Prop} (hp : P (some (.int x.1)) x.2) : ∀ (n : Nat) (d1 : Option Value) (v2 : Int32) (v3 : Int32) (σ : aSt), f_X_seenBy_l17 N n v2 v3 σ = some x → aGo (aCall MT (d + 4)) P mc_X_seenBy 17 [some (.ref 0), d1, some (.int v2), some (.int v3)] [] σ := by
  intro n
  induction n with
  | zero => intro d1 v2 v3 σ h; cases h
  | succ n ih =>
    intro d1 v2 v3 σ h
    rw [f_X_seenBy_l17] at h
    refine go_call (r := some (.int (f_PointList_shown_11 σ))) (σc := σ) (σ1 := σ) (mi := 44) (vs := [.ref 11]) (k' := 21) (L' := [some (.ref 0), d1, some (.int v2), some (.int v3)]) (S' := [.int v3]) 4 (fun P9 h9 => c_PointList_shown_11 (d + 3) σ h9) (fun n h => h) ?_
    refine go_if (c := (f_PointList_shown_11 σ) ≤ v3) (k1 := 32) (L1 := [some (.ref 0), d1, some (.int v2), some (.int v3)]) (S1 := []) (σ1 := σ) (k2 := 22) (L2 := [some (.ref 0), d1, some (.int v2), some (.int v3)]) (S2 := []) (σ2 := σ) 1 (fun n h => h) (fun hc5 => ?_) (fun hc5 => ?_)
    · rw [if_pos hc5] at h
      cases h
      exact go_ret 2 (fun _ => hp)
    · rw [if_neg hc5] at h
      obtain ⟨x6, hx6, h⟩ := bind_of h
      refine go_call (r := some (.int x6)) (σc := σ) (σ1 := σ) (mi := 151) (vs := [.ref 0, .int v3]) (k' := 27) (L' := [some (.ref 0), d1, some (.int v2), some (.int v3)]) (S' := [.ref 34]) 5 (fun P9 h9 => c_X_codeBy (d + 0) v3 σ hx6 h9) (fun n h => h) ?_
      obtain ⟨x7, hx7, h⟩ := lt_of h
      refine go_call (r := some (.int (b2i x7.1))) (σc := σ) (σ1 := x7.2) (mi := 336) (vs := [.ref 34, .int x6]) (k' := 28) (L' := [some (.ref 0), d1, some (.int v2), some (.int v3)]) (S' := []) 1 (fun P9 h9 => c_PrimeGroup_seesNew (d + 2) x6 σ (by rw [← hx7]; exact h9)) (fun n h => h) ?_
      refine go_ifz (b := x7.1) (k1 := 30) (L1 := [some (.ref 0), d1, some (.int v2), some (.int v3)]) (S1 := []) (σ1 := x7.2) (k2 := 29) (L2 := [some (.ref 0), d1, some (.int v2), some (.int v3)]) (S2 := []) (σ2 := x7.2) 1 (fun n h => h) (fun hc8 => ?_) (fun hc8 => ?_)
      · rw [if_neg hc8] at h
        refine go_st (k' := 17) (L' := [some (.ref 0), d1, some (.int v2), some (.int (v3 + (1 : Int32)))]) (S' := []) (σ' := x7.2) 2 (fun n h => h) ?_
        exact ih _ v2 (v3 + (1 : Int32)) x7.2 h
      · rw [if_pos hc8] at h
        refine go_st (k' := 17) (L' := [some (.ref 0), d1, some (.int (v2 + (1 : Int32))), some (.int (v3 + (1 : Int32)))]) (S' := []) (σ' := x7.2) 3 (fun n h => h) ?_
        exact ih _ (v2 + (1 : Int32)) (v3 + (1 : Int32)) x7.2 h
def f_X_seenBy (N : Nat) (p0 : Int32) (σ : aSt) : Option (Int32 × aSt) :=
  ((f_X_isByPrime N p0 σ).bind fun x1 => (if x1 = true then ((f_PrimeGroup_take N p0 σ).bind fun x3 => (lt (f_PrimeGroup_clearSeen x3) fun x4 => f_X_seenBy_l17 N N (0 : Int32) (0 : Int32) x4)) else some ((-2 : Int32), σ)))
set_option maxRecDepth 20000 in
set_option maxHeartbeats 4000000 in
theorem c_X_seenBy (d : Nat) {N : Nat} (p0 : Int32) (σ : aSt) {P : Option Value → aSt → Prop} {x : (Int32 × aSt)} (h : f_X_seenBy N p0 σ = some x) (hp : P (some (.int x.1)) x.2) : aCall MT (d + 5) 337 [.ref 0, .int p0] σ P := by
  unfold f_X_seenBy at h
  refine call_of (code := mc_X_seenBy) (L := [some (.ref 0), some (.int p0), none, none]) rfl rfl rfl rfl ?_
  obtain ⟨x1, hx1, h⟩ := bind_of h
  refine go_call (r := some (.int (b2i x1))) (σc := σ) (σ1 := σ) (mi := 139) (vs := [.ref 0, .int p0]) (k' := 3) (L' := [some (.ref 0), some (.int p0), none, none]) (S' := []) 3 (fun P9 h9 => c_X_isByPrime (d + 1) p0 σ hx1 h9) (fun n h => h) ?_
  refine go_ifn (b := x1) (k1 := 6) (L1 := [some (.ref 0), some (.int p0), none, none]) (S1 := []) (σ1 := σ) (k2 := 4) (L2 := [some (.ref 0), some (.int p0), none, none]) (S2 := []) (σ2 := σ) 1 (fun n h => h) (fun hc2 => ?_) (fun hc2 => ?_)
  · rw [if_pos hc2] at h
    obtain ⟨x3, hx3, h⟩ := bind_of h
    refine go_call (r := none) (σc := σ) (σ1 := x3) (mi := 141) (vs := [.ref 34, .int p0]) (k' := 10) (L' := [some (.ref 0), some (.int p0), none, none]) (S' := []) 4 (fun P9 h9 => c_PrimeGroup_take (d + 1) p0 σ hx3 h9) (fun n h => h) ?_
    obtain ⟨x4, hx4, h⟩ := lt_of h
    refine go_call (r := none) (σc := x3) (σ1 := x4) (mi := 335) (vs := [.ref 34]) (k' := 13) (L' := [some (.ref 0), some (.int p0), none, none]) (S' := []) 3 (fun P9 h9 => c_PrimeGroup_clearSeen (d + 2) x3 (by rw [← hx4]; exact h9)) (fun n h => h) ?_
    refine go_st (k' := 17) (L' := [some (.ref 0), none, some (.int (0 : Int32)), some (.int (0 : Int32))]) (S' := []) (σ' := x4) 4 (fun n h => h) ?_
    exact t_X_seenBy_l17 d hp N _ (0 : Int32) (0 : Int32) x4 h
  · rw [if_neg hc2] at h
    cases h
    exact go_ret 2 (fun _ => hp)
def f_X_isAlikeBy_b29 (N : Nat) (v1 : Int32) (v2 : Int32) (v3 : Int32) (v4 : Int32) (s0 : Int32) (σ : aSt) : Option Bool :=
  (if v4 ≠ 0 then (if v4 = 0 then some false else (if s0 = 0 then some false else some true)) else (if s0 = 0 then ((f_Whole_residue N ((((f_PointList_m_11 v1 σ).toInt64 * (f_PointList_e_11 v2 σ).toInt64) * (f_PointList_e_11 v2 σ).toInt64) - (((f_PointList_m_11 v2 σ).toInt64 * (f_PointList_e_11 v1 σ).toInt64) * (f_PointList_e_11 v1 σ).toInt64)) v3).bind fun x7 => (if x7 ≠ 0 then some false else ((f_Whole_residue N (((((f_PointList_n_11 v1 σ).toInt64 * (f_PointList_e_11 v2 σ).toInt64) * (f_PointList_e_11 v2 σ).toInt64) * (f_PointList_e_11 v2 σ).toInt64) - ((((f_PointList_n_11 v2 σ).toInt64 * (f_PointList_e_11 v1 σ).toInt64) * (f_PointList_e_11 v1 σ).toInt64) * (f_PointList_e_11 v1 σ).toInt64)) v3).bind fun x9 => (if x9 ≠ 0 then some false else some true)))) else (if v4 = 0 then some false else (if s0 = 0 then some false else some true))))
set_option maxRecDepth 20000 in
set_option maxHeartbeats 4000000 in
theorem t_X_isAlikeBy_b29 (d : Nat) {N : Nat} (d5 d6 d7 d8 d9 : Option Value) (v1 : Int32) (v2 : Int32) (v3 : Int32) (v4 : Int32) (s0 : Int32) (σ : aSt) {P : Option Value → aSt → Prop} {x : Bool} (h : f_X_isAlikeBy_b29 N v1 v2 v3 v4 s0 σ = some x) (hp : P (some (.int (b2i x))) σ) : aGo (aCall MT (d + 1)) P mc_X_isAlikeBy 29 [some (.ref 0), some (.int v1), some (.int v2), some (.int v3), some (.int v4), d5, d6, d7, d8, d9] [.int s0] σ := by
  unfold f_X_isAlikeBy_b29 at h
  refine go_if (c := v4 ≠ 0) (k1 := 34) (L1 := [some (.ref 0), some (.int v1), some (.int v2), some (.int v3), some (.int v4), some (.int s0), d6, d7, d8, d9]) (S1 := []) (σ1 := σ) (k2 := 32) (L2 := [some (.ref 0), some (.int v1), some (.int v2), some (.int v3), some (.int v4), some (.int s0), d6, d7, d8, d9]) (S2 := []) (σ2 := σ) 3 (fun n h => h) (fun hc3 => ?_) (fun hc3 => ?_)
  · rw [if_pos hc3] at h
    refine go_if (c := v4 = 0) (k1 := 40) (L1 := [some (.ref 0), some (.int v1), some (.int v2), some (.int v3), some (.int v4), some (.int s0), d6, d7, d8, d9]) (S1 := []) (σ1 := σ) (k2 := 36) (L2 := [some (.ref 0), some (.int v1), some (.int v2), some (.int v3), some (.int v4), some (.int s0), d6, d7, d8, d9]) (S2 := []) (σ2 := σ) 2 (fun n h => h) (fun hc4 => ?_) (fun hc4 => ?_)
    · rw [if_pos hc4] at h
      cases h
      exact go_ret 2 (fun _ => And.intro (Or.inl rfl) hp)
    · rw [if_neg hc4] at h
      refine go_if (c := s0 = 0) (k1 := 40) (L1 := [some (.ref 0), some (.int v1), some (.int v2), some (.int v3), some (.int v4), some (.int s0), d6, d7, d8, d9]) (S1 := []) (σ1 := σ) (k2 := 38) (L2 := [some (.ref 0), some (.int v1), some (.int v2), some (.int v3), some (.int v4), some (.int s0), d6, d7, d8, d9]) (S2 := []) (σ2 := σ) 2 (fun n h => h) (fun hc5 => ?_) (fun hc5 => ?_)
      · rw [if_pos hc5] at h
        cases h
        exact go_ret 2 (fun _ => And.intro (Or.inl rfl) hp)
      · rw [if_neg hc5] at h
        cases h
        exact go_ret 3 (fun _ => And.intro (Or.inr rfl) hp)
  · rw [if_neg hc3] at h
    refine go_if (c := s0 = 0) (k1 := 42) (L1 := [some (.ref 0), some (.int v1), some (.int v2), some (.int v3), some (.int v4), some (.int s0), d6, d7, d8, d9]) (S1 := []) (σ1 := σ) (k2 := 34) (L2 := [some (.ref 0), some (.int v1), some (.int v2), some (.int v3), some (.int v4), some (.int s0), d6, d7, d8, d9]) (S2 := []) (σ2 := σ) 2 (fun n h => h) (fun hc6 => ?_) (fun hc6 => ?_)
    · rw [if_pos hc6] at h
      refine go_call (r := some (.int (f_PointList_e_11 v1 σ))) (σc := σ) (σ1 := σ) (mi := 76) (vs := [.ref 11, .int v1]) (k' := 46) (L' := [some (.ref 0), some (.int v1), some (.int v2), some (.int v3), some (.int v4), some (.int s0), d6, d7, d8, d9]) (S' := []) 4 (fun P9 h9 => c_PointList_e_11 (d + 0) v1 σ h9) (fun n h => h) ?_
      refine go_call (r := some (.int (f_PointList_e_11 v2 σ))) (σc := σ) (σ1 := σ) (mi := 76) (vs := [.ref 11, .int v2]) (k' := 52) (L' := [some (.ref 0), some (.int v1), some (.int v2), some (.int v3), some (.int v4), none, some (.long (f_PointList_e_11 v1 σ).toInt64), none, d8, d9]) (S' := []) 6 (fun P9 h9 => c_PointList_e_11 (d + 0) v2 σ h9) (fun n h => h) ?_
      refine go_call (r := some (.int (f_PointList_m_11 v1 σ))) (σc := σ) (σ1 := σ) (mi := 74) (vs := [.ref 11, .int v1]) (k' := 58) (L' := [some (.ref 0), some (.int v1), some (.int v2), some (.int v3), some (.int v4), none, some (.long (f_PointList_e_11 v1 σ).toInt64), none, some (.long (f_PointList_e_11 v2 σ).toInt64), none]) (S' := []) 6 (fun P9 h9 => c_PointList_m_11 (d + 0) v1 σ h9) (fun n h => h) ?_
      refine go_call (r := some (.int (f_PointList_m_11 v2 σ))) (σc := σ) (σ1 := σ) (mi := 74) (vs := [.ref 11, .int v2]) (k' := 67) (L' := [some (.ref 0), some (.int v1), some (.int v2), some (.int v3), some (.int v4), none, some (.long (f_PointList_e_11 v1 σ).toInt64), none, some (.long (f_PointList_e_11 v2 σ).toInt64), none]) (S' := [.long (((f_PointList_m_11 v1 σ).toInt64 * (f_PointList_e_11 v2 σ).toInt64) * (f_PointList_e_11 v2 σ).toInt64)]) 9 (fun P9 h9 => c_PointList_m_11 (d + 0) v2 σ h9) (fun n h => h) ?_
      obtain ⟨x7, hx7, h⟩ := bind_of h
      refine go_call (r := some (.int x7)) (σc := σ) (σ1 := σ) (mi := 137) (vs := [.long ((((f_PointList_m_11 v1 σ).toInt64 * (f_PointList_e_11 v2 σ).toInt64) * (f_PointList_e_11 v2 σ).toInt64) - (((f_PointList_m_11 v2 σ).toInt64 * (f_PointList_e_11 v1 σ).toInt64) * (f_PointList_e_11 v1 σ).toInt64)), .int v3]) (k' := 75) (L' := [some (.ref 0), some (.int v1), some (.int v2), some (.int v3), some (.int v4), none, some (.long (f_PointList_e_11 v1 σ).toInt64), none, some (.long (f_PointList_e_11 v2 σ).toInt64), none]) (S' := []) 8 (fun P9 h9 => c_Whole_residue (d + 0) ((((f_PointList_m_11 v1 σ).toInt64 * (f_PointList_e_11 v2 σ).toInt64) * (f_PointList_e_11 v2 σ).toInt64) - (((f_PointList_m_11 v2 σ).toInt64 * (f_PointList_e_11 v1 σ).toInt64) * (f_PointList_e_11 v1 σ).toInt64)) v3 σ hx7 h9) (fun n h => h) ?_
      refine go_if (c := x7 ≠ 0) (k1 := 104) (L1 := [some (.ref 0), some (.int v1), some (.int v2), some (.int v3), some (.int v4), none, some (.long (f_PointList_e_11 v1 σ).toInt64), none, some (.long (f_PointList_e_11 v2 σ).toInt64), none]) (S1 := []) (σ1 := σ) (k2 := 76) (L2 := [some (.ref 0), some (.int v1), some (.int v2), some (.int v3), some (.int v4), none, some (.long (f_PointList_e_11 v1 σ).toInt64), none, some (.long (f_PointList_e_11 v2 σ).toInt64), none]) (S2 := []) (σ2 := σ) 1 (fun n h => h) (fun hc8 => ?_) (fun hc8 => ?_)
      · rw [if_pos hc8] at h
        cases h
        exact go_ret 2 (fun _ => And.intro (Or.inl rfl) hp)
      · rw [if_neg hc8] at h
        refine go_call (r := some (.int (f_PointList_n_11 v1 σ))) (σc := σ) (σ1 := σ) (mi := 75) (vs := [.ref 11, .int v1]) (k' := 80) (L' := [some (.ref 0), some (.int v1), some (.int v2), some (.int v3), some (.int v4), none, some (.long (f_PointList_e_11 v1 σ).toInt64), none, some (.long (f_PointList_e_11 v2 σ).toInt64), none]) (S' := []) 4 (fun P9 h9 => c_PointList_n_11 (d + 0) v1 σ h9) (fun n h => h) ?_
        refine go_call (r := some (.int (f_PointList_n_11 v2 σ))) (σc := σ) (σ1 := σ) (mi := 75) (vs := [.ref 11, .int v2]) (k' := 91) (L' := [some (.ref 0), some (.int v1), some (.int v2), some (.int v3), some (.int v4), none, some (.long (f_PointList_e_11 v1 σ).toInt64), none, some (.long (f_PointList_e_11 v2 σ).toInt64), none]) (S' := [.long ((((f_PointList_n_11 v1 σ).toInt64 * (f_PointList_e_11 v2 σ).toInt64) * (f_PointList_e_11 v2 σ).toInt64) * (f_PointList_e_11 v2 σ).toInt64)]) 11 (fun P9 h9 => c_PointList_n_11 (d + 0) v2 σ h9) (fun n h => h) ?_
        obtain ⟨x9, hx9, h⟩ := bind_of h
        refine go_call (r := some (.int x9)) (σc := σ) (σ1 := σ) (mi := 137) (vs := [.long (((((f_PointList_n_11 v1 σ).toInt64 * (f_PointList_e_11 v2 σ).toInt64) * (f_PointList_e_11 v2 σ).toInt64) * (f_PointList_e_11 v2 σ).toInt64) - ((((f_PointList_n_11 v2 σ).toInt64 * (f_PointList_e_11 v1 σ).toInt64) * (f_PointList_e_11 v1 σ).toInt64) * (f_PointList_e_11 v1 σ).toInt64)), .int v3]) (k' := 101) (L' := [some (.ref 0), some (.int v1), some (.int v2), some (.int v3), some (.int v4), none, some (.long (f_PointList_e_11 v1 σ).toInt64), none, some (.long (f_PointList_e_11 v2 σ).toInt64), none]) (S' := []) 10 (fun P9 h9 => c_Whole_residue (d + 0) (((((f_PointList_n_11 v1 σ).toInt64 * (f_PointList_e_11 v2 σ).toInt64) * (f_PointList_e_11 v2 σ).toInt64) * (f_PointList_e_11 v2 σ).toInt64) - ((((f_PointList_n_11 v2 σ).toInt64 * (f_PointList_e_11 v1 σ).toInt64) * (f_PointList_e_11 v1 σ).toInt64) * (f_PointList_e_11 v1 σ).toInt64)) v3 σ hx9 h9) (fun n h => h) ?_
        refine go_if (c := x9 ≠ 0) (k1 := 104) (L1 := [some (.ref 0), some (.int v1), some (.int v2), some (.int v3), some (.int v4), none, some (.long (f_PointList_e_11 v1 σ).toInt64), none, some (.long (f_PointList_e_11 v2 σ).toInt64), none]) (S1 := []) (σ1 := σ) (k2 := 102) (L2 := [some (.ref 0), some (.int v1), some (.int v2), some (.int v3), some (.int v4), none, some (.long (f_PointList_e_11 v1 σ).toInt64), none, some (.long (f_PointList_e_11 v2 σ).toInt64), none]) (S2 := []) (σ2 := σ) 1 (fun n h => h) (fun hc10 => ?_) (fun hc10 => ?_)
        · rw [if_pos hc10] at h
          cases h
          exact go_ret 2 (fun _ => And.intro (Or.inl rfl) hp)
        · rw [if_neg hc10] at h
          cases h
          exact go_ret 3 (fun _ => And.intro (Or.inr rfl) hp)
    · rw [if_neg hc6] at h
      refine go_if (c := v4 = 0) (k1 := 40) (L1 := [some (.ref 0), some (.int v1), some (.int v2), some (.int v3), some (.int v4), some (.int s0), d6, d7, d8, d9]) (S1 := []) (σ1 := σ) (k2 := 36) (L2 := [some (.ref 0), some (.int v1), some (.int v2), some (.int v3), some (.int v4), some (.int s0), d6, d7, d8, d9]) (S2 := []) (σ2 := σ) 2 (fun n h => h) (fun hc11 => ?_) (fun hc11 => ?_)
      · rw [if_pos hc11] at h
        cases h
        exact go_ret 2 (fun _ => And.intro (Or.inl rfl) hp)
      · rw [if_neg hc11] at h
        refine go_if (c := s0 = 0) (k1 := 40) (L1 := [some (.ref 0), some (.int v1), some (.int v2), some (.int v3), some (.int v4), some (.int s0), d6, d7, d8, d9]) (S1 := []) (σ1 := σ) (k2 := 38) (L2 := [some (.ref 0), some (.int v1), some (.int v2), some (.int v3), some (.int v4), some (.int s0), d6, d7, d8, d9]) (S2 := []) (σ2 := σ) 2 (fun n h => h) (fun hc12 => ?_) (fun hc12 => ?_)
        · rw [if_pos hc12] at h
          cases h
          exact go_ret 2 (fun _ => And.intro (Or.inl rfl) hp)
        · rw [if_neg hc12] at h
          cases h
          exact go_ret 3 (fun _ => And.intro (Or.inr rfl) hp)
def f_X_isAlikeBy_b26 (N : Nat) (v1 : Int32) (v2 : Int32) (v3 : Int32) (v4 : Int32) (σ : aSt) : Option Bool :=
  f_X_isAlikeBy_b29 N v1 v2 v3 v4 (1 : Int32) σ
set_option maxRecDepth 20000 in
set_option maxHeartbeats 4000000 in
theorem t_X_isAlikeBy_b26 (d : Nat) {N : Nat} (d5 d6 d7 d8 d9 : Option Value) (v1 : Int32) (v2 : Int32) (v3 : Int32) (v4 : Int32) (σ : aSt) {P : Option Value → aSt → Prop} {x : Bool} (h : f_X_isAlikeBy_b26 N v1 v2 v3 v4 σ = some x) (hp : P (some (.int (b2i x))) σ) : aGo (aCall MT (d + 1)) P mc_X_isAlikeBy 26 [some (.ref 0), some (.int v1), some (.int v2), some (.int v3), some (.int v4), d5, d6, d7, d8, d9] [] σ := by
  unfold f_X_isAlikeBy_b26 at h
  refine go_st (k' := 29) (L' := [some (.ref 0), some (.int v1), some (.int v2), some (.int v3), some (.int v4), d5, d6, d7, d8, d9]) (S' := [.int (1 : Int32)]) (σ' := σ) 2 (fun n h => h) ?_
  exact t_X_isAlikeBy_b29 d _ _ _ _ _ v1 v2 v3 v4 (1 : Int32) σ h hp
def f_X_isAlikeBy_b14 (N : Nat) (v1 : Int32) (v2 : Int32) (v3 : Int32) (s0 : Int32) (σ : aSt) : Option Bool :=
  (if v2 = (1000 : Int32) then f_X_isAlikeBy_b26 N v1 v2 v3 s0 σ else ((f_Whole_residue N (f_PointList_e_11 v2 σ).toInt64 v3).bind fun x13 => (if x13 ≠ 0 then f_X_isAlikeBy_b29 N v1 v2 v3 s0 (0 : Int32) σ else f_X_isAlikeBy_b26 N v1 v2 v3 s0 σ)))
set_option maxRecDepth 20000 in
set_option maxHeartbeats 4000000 in
theorem t_X_isAlikeBy_b14 (d : Nat) {N : Nat} (d4 d5 d6 d7 d8 d9 : Option Value) (v1 : Int32) (v2 : Int32) (v3 : Int32) (s0 : Int32) (σ : aSt) {P : Option Value → aSt → Prop} {x : Bool} (h : f_X_isAlikeBy_b14 N v1 v2 v3 s0 σ = some x) (hp : P (some (.int (b2i x))) σ) : aGo (aCall MT (d + 1)) P mc_X_isAlikeBy 14 [some (.ref 0), some (.int v1), some (.int v2), some (.int v3), d4, d5, d6, d7, d8, d9] [.int s0] σ := by
  unfold f_X_isAlikeBy_b14 at h
  refine go_if (c := v2 = (1000 : Int32)) (k1 := 26) (L1 := [some (.ref 0), some (.int v1), some (.int v2), some (.int v3), some (.int s0), d5, d6, d7, d8, d9]) (S1 := []) (σ1 := σ) (k2 := 18) (L2 := [some (.ref 0), some (.int v1), some (.int v2), some (.int v3), some (.int s0), d5, d6, d7, d8, d9]) (S2 := []) (σ2 := σ) 4 (fun n h => h) (fun hc2 => ?_) (fun hc2 => ?_)
  · rw [if_pos hc2] at h
    exact t_X_isAlikeBy_b26 d _ _ _ _ _ v1 v2 v3 s0 σ h hp
  · rw [if_neg hc2] at h
    refine go_call (r := some (.int (f_PointList_e_11 v2 σ))) (σc := σ) (σ1 := σ) (mi := 76) (vs := [.ref 11, .int v2]) (k' := 22) (L' := [some (.ref 0), some (.int v1), some (.int v2), some (.int v3), some (.int s0), d5, d6, d7, d8, d9]) (S' := []) 4 (fun P9 h9 => c_PointList_e_11 (d + 0) v2 σ h9) (fun n h => h) ?_
    obtain ⟨x13, hx13, h⟩ := bind_of h
    refine go_call (r := some (.int x13)) (σc := σ) (σ1 := σ) (mi := 137) (vs := [.long (f_PointList_e_11 v2 σ).toInt64, .int v3]) (k' := 25) (L' := [some (.ref 0), some (.int v1), some (.int v2), some (.int v3), some (.int s0), d5, d6, d7, d8, d9]) (S' := []) 3 (fun P9 h9 => c_Whole_residue (d + 0) (f_PointList_e_11 v2 σ).toInt64 v3 σ hx13 h9) (fun n h => h) ?_
    refine go_if (c := x13 ≠ 0) (k1 := 28) (L1 := [some (.ref 0), some (.int v1), some (.int v2), some (.int v3), some (.int s0), d5, d6, d7, d8, d9]) (S1 := []) (σ1 := σ) (k2 := 26) (L2 := [some (.ref 0), some (.int v1), some (.int v2), some (.int v3), some (.int s0), d5, d6, d7, d8, d9]) (S2 := []) (σ2 := σ) 1 (fun n h => h) (fun hc14 => ?_) (fun hc14 => ?_)
    · rw [if_pos hc14] at h
      refine go_st (k' := 29) (L' := [some (.ref 0), some (.int v1), some (.int v2), some (.int v3), some (.int s0), d5, d6, d7, d8, d9]) (S' := [.int (0 : Int32)]) (σ' := σ) 1 (fun n h => h) ?_
      exact t_X_isAlikeBy_b29 d _ _ _ _ _ v1 v2 v3 s0 (0 : Int32) σ h hp
    · rw [if_neg hc14] at h
      exact t_X_isAlikeBy_b26 d _ _ _ _ _ v1 v2 v3 s0 σ h hp
def f_X_isAlikeBy_b11 (N : Nat) (v1 : Int32) (v2 : Int32) (v3 : Int32) (σ : aSt) : Option Bool :=
  f_X_isAlikeBy_b14 N v1 v2 v3 (1 : Int32) σ
set_option maxRecDepth 20000 in
set_option maxHeartbeats 4000000 in
theorem t_X_isAlikeBy_b11 (d : Nat) {N : Nat} (d4 d5 d6 d7 d8 d9 : Option Value) (v1 : Int32) (v2 : Int32) (v3 : Int32) (σ : aSt) {P : Option Value → aSt → Prop} {x : Bool} (h : f_X_isAlikeBy_b11 N v1 v2 v3 σ = some x) (hp : P (some (.int (b2i x))) σ) : aGo (aCall MT (d + 1)) P mc_X_isAlikeBy 11 [some (.ref 0), some (.int v1), some (.int v2), some (.int v3), d4, d5, d6, d7, d8, d9] [] σ := by
  unfold f_X_isAlikeBy_b11 at h
  refine go_st (k' := 14) (L' := [some (.ref 0), some (.int v1), some (.int v2), some (.int v3), d4, d5, d6, d7, d8, d9]) (S' := [.int (1 : Int32)]) (σ' := σ) 2 (fun n h => h) ?_
  exact t_X_isAlikeBy_b14 d _ _ _ _ _ _ v1 v2 v3 (1 : Int32) σ h hp
def f_X_isAlikeBy (N : Nat) (p0 : Int32) (p1 : Int32) (p2 : Int32) (σ : aSt) : Option Bool :=
  (if p0 = (1000 : Int32) then f_X_isAlikeBy_b11 N p0 p1 p2 σ else ((f_Whole_residue N (f_PointList_e_11 p0 σ).toInt64 p2).bind fun x15 => (if x15 ≠ 0 then f_X_isAlikeBy_b14 N p0 p1 p2 (0 : Int32) σ else f_X_isAlikeBy_b11 N p0 p1 p2 σ)))
set_option maxRecDepth 20000 in
set_option maxHeartbeats 4000000 in
theorem c_X_isAlikeBy (d : Nat) {N : Nat} (p0 : Int32) (p1 : Int32) (p2 : Int32) (σ : aSt) {P : Option Value → aSt → Prop} {x : Bool} (h : f_X_isAlikeBy N p0 p1 p2 σ = some x) (hp : P (some (.int (b2i x))) σ) : aCall MT (d + 2) 340 [.ref 0, .int p0, .int p1, .int p2] σ P := by
  unfold f_X_isAlikeBy at h
  refine call_of (code := mc_X_isAlikeBy) (L := [some (.ref 0), some (.int p0), some (.int p1), some (.int p2), none, none, none, none, none, none]) rfl rfl rfl rfl ?_
  refine go_if (c := p0 = (1000 : Int32)) (k1 := 11) (L1 := [some (.ref 0), some (.int p0), some (.int p1), some (.int p2), none, none, none, none, none, none]) (S1 := []) (σ1 := σ) (k2 := 3) (L2 := [some (.ref 0), some (.int p0), some (.int p1), some (.int p2), none, none, none, none, none, none]) (S2 := []) (σ2 := σ) 3 (fun n h => h) (fun hc1 => ?_) (fun hc1 => ?_)
  · rw [if_pos hc1] at h
    exact t_X_isAlikeBy_b11 d _ _ _ _ _ _ p0 p1 p2 σ h hp
  · rw [if_neg hc1] at h
    refine go_call (r := some (.int (f_PointList_e_11 p0 σ))) (σc := σ) (σ1 := σ) (mi := 76) (vs := [.ref 11, .int p0]) (k' := 7) (L' := [some (.ref 0), some (.int p0), some (.int p1), some (.int p2), none, none, none, none, none, none]) (S' := []) 4 (fun P9 h9 => c_PointList_e_11 (d + 0) p0 σ h9) (fun n h => h) ?_
    obtain ⟨x15, hx15, h⟩ := bind_of h
    refine go_call (r := some (.int x15)) (σc := σ) (σ1 := σ) (mi := 137) (vs := [.long (f_PointList_e_11 p0 σ).toInt64, .int p2]) (k' := 10) (L' := [some (.ref 0), some (.int p0), some (.int p1), some (.int p2), none, none, none, none, none, none]) (S' := []) 3 (fun P9 h9 => c_Whole_residue (d + 0) (f_PointList_e_11 p0 σ).toInt64 p2 σ hx15 h9) (fun n h => h) ?_
    refine go_if (c := x15 ≠ 0) (k1 := 13) (L1 := [some (.ref 0), some (.int p0), some (.int p1), some (.int p2), none, none, none, none, none, none]) (S1 := []) (σ1 := σ) (k2 := 11) (L2 := [some (.ref 0), some (.int p0), some (.int p1), some (.int p2), none, none, none, none, none, none]) (S2 := []) (σ2 := σ) 1 (fun n h => h) (fun hc16 => ?_) (fun hc16 => ?_)
    · rw [if_pos hc16] at h
      refine go_st (k' := 14) (L' := [some (.ref 0), some (.int p0), some (.int p1), some (.int p2), none, none, none, none, none, none]) (S' := [.int (0 : Int32)]) (σ' := σ) 1 (fun n h => h) ?_
      exact t_X_isAlikeBy_b14 d _ _ _ _ _ _ p0 p1 p2 (0 : Int32) σ h hp
    · rw [if_neg hc16] at h
      exact t_X_isAlikeBy_b11 d _ _ _ _ _ _ p0 p1 p2 σ h hp
def f_X_firstAlike_l17 (N : Nat) (σ : aSt) : Nat → Int32 → Int32 → Int32 → Int32 → Option Int32
  | 0, _, _, _, _ => none
  | n + 1, v1, v2, v4, v5 => (if v4 ≤ v5 then some (-1 : Int32) else (if 0 ≤ v5 ∧ v5 < (25 : Int32) then ((f_X_isByPrime N (σ.1 87 v5.toNatClampNeg) σ).bind fun x5 => (if x5 = true then ((f_X_isAlikeBy N v1 v2 (σ.1 87 v5.toNatClampNeg) σ).bind fun x7 => (if x7 = true then some (σ.1 87 v5.toNatClampNeg) else f_X_firstAlike_l17 N σ n v1 v2 v4 (v5 + (1 : Int32)))) else f_X_firstAlike_l17 N σ n v1 v2 v4 (v5 + (1 : Int32)))) else none))
set_option maxRecDepth 20000 in
set_option maxHeartbeats 4000000 in
theorem t_X_firstAlike_l17 (d : Nat) {N : Nat} (σ : aSt) {x : Int32} {P : Option Value → aSt → Prop} (hp : P (some (.int x)) σ) : ∀ (n : Nat) (d6 : Option Value) (v1 : Int32) (v2 : Int32) (v4 : Int32) (v5 : Int32), f_X_firstAlike_l17 N σ n v1 v2 v4 v5 = some x → aGo (aCall MT (d + 3)) P mc_X_firstAlike 17 [some (.ref 0), some (.int v1), some (.int v2), some (.ref 87), some (.int v4), some (.int v5), d6] [] σ := by
  intro n
  induction n with
  | zero => intro d6 v1 v2 v4 v5 h; cases h
  | succ n ih =>
    intro d6 v1 v2 v4 v5 h
    rw [f_X_firstAlike_l17] at h
    refine go_if (c := v4 ≤ v5) (k1 := 38) (L1 := [some (.ref 0), some (.int v1), some (.int v2), some (.ref 87), some (.int v4), some (.int v5), d6]) (S1 := []) (σ1 := σ) (k2 := 20) (L2 := [some (.ref 0), some (.int v1), some (.int v2), some (.ref 87), some (.int v4), some (.int v5), d6]) (S2 := []) (σ2 := σ) 3 (fun n h => h) (fun hc3 => ?_) (fun hc3 => ?_)
    · rw [if_pos hc3] at h
      cases h
      exact go_ret 2 (fun _ => hp)
    · rw [if_neg hc3] at h
      obtain ⟨hc4, h⟩ := ite_of h
      refine go_q (Q := inb 0 σ 87 v5) (k' := 23) (L' := [some (.ref 0), some (.int v1), some (.int v2), some (.ref 87), some (.int v4), some (.int v5), d6]) (S' := [.int (σ.1 87 v5.toNatClampNeg)]) (σ' := σ) 3 (inb_mk rfl hc4.1 hc4.2) (fun n h => h) ?_
      obtain ⟨x5, hx5, h⟩ := bind_of h
      refine go_call (r := some (.int (b2i x5))) (σc := σ) (σ1 := σ) (mi := 139) (vs := [.ref 0, .int (σ.1 87 v5.toNatClampNeg)]) (k' := 27) (L' := [some (.ref 0), some (.int v1), some (.int v2), some (.ref 87), some (.int v4), some (.int v5), some (.int (σ.1 87 v5.toNatClampNeg))]) (S' := []) 4 (fun P9 h9 => c_X_isByPrime (d + 0) (σ.1 87 v5.toNatClampNeg) σ hx5 h9) (fun n h => h) ?_
      refine go_ifz (b := x5) (k1 := 36) (L1 := [some (.ref 0), some (.int v1), some (.int v2), some (.ref 87), some (.int v4), some (.int v5), some (.int (σ.1 87 v5.toNatClampNeg))]) (S1 := []) (σ1 := σ) (k2 := 28) (L2 := [some (.ref 0), some (.int v1), some (.int v2), some (.ref 87), some (.int v4), some (.int v5), some (.int (σ.1 87 v5.toNatClampNeg))]) (S2 := []) (σ2 := σ) 1 (fun n h => h) (fun hc6 => ?_) (fun hc6 => ?_)
      · rw [if_neg hc6] at h
        refine go_st (k' := 17) (L' := [some (.ref 0), some (.int v1), some (.int v2), some (.ref 87), some (.int v4), some (.int (v5 + (1 : Int32))), some (.int (σ.1 87 v5.toNatClampNeg))]) (S' := []) (σ' := σ) 2 (fun n h => h) ?_
        exact ih _ v1 v2 v4 (v5 + (1 : Int32)) h
      · rw [if_pos hc6] at h
        obtain ⟨x7, hx7, h⟩ := bind_of h
        refine go_call (r := some (.int (b2i x7))) (σc := σ) (σ1 := σ) (mi := 340) (vs := [.ref 0, .int v1, .int v2, .int (σ.1 87 v5.toNatClampNeg)]) (k' := 33) (L' := [some (.ref 0), some (.int v1), some (.int v2), some (.ref 87), some (.int v4), some (.int v5), some (.int (σ.1 87 v5.toNatClampNeg))]) (S' := []) 5 (fun P9 h9 => c_X_isAlikeBy (d + 1) v1 v2 (σ.1 87 v5.toNatClampNeg) σ hx7 h9) (fun n h => h) ?_
        refine go_ifz (b := x7) (k1 := 36) (L1 := [some (.ref 0), some (.int v1), some (.int v2), some (.ref 87), some (.int v4), some (.int v5), some (.int (σ.1 87 v5.toNatClampNeg))]) (S1 := []) (σ1 := σ) (k2 := 34) (L2 := [some (.ref 0), some (.int v1), some (.int v2), some (.ref 87), some (.int v4), some (.int v5), some (.int (σ.1 87 v5.toNatClampNeg))]) (S2 := []) (σ2 := σ) 1 (fun n h => h) (fun hc8 => ?_) (fun hc8 => ?_)
        · rw [if_neg hc8] at h
          refine go_st (k' := 17) (L' := [some (.ref 0), some (.int v1), some (.int v2), some (.ref 87), some (.int v4), some (.int (v5 + (1 : Int32))), some (.int (σ.1 87 v5.toNatClampNeg))]) (S' := []) (σ' := σ) 2 (fun n h => h) ?_
          exact ih _ v1 v2 v4 (v5 + (1 : Int32)) h
        · rw [if_pos hc8] at h
          cases h
          exact go_ret 2 (fun _ => hp)
def f_X_firstAlike (N : Nat) (p0 : Int32) (p1 : Int32) (σ : aSt) : Option Int32 :=
  (if (f_X_isPoint p0 σ) = true then (if (f_X_isPoint p1 σ) = true then f_X_firstAlike_l17 N σ N p0 p1 (25 : Int32) (0 : Int32) else some (-2 : Int32)) else some (-2 : Int32))
set_option maxRecDepth 20000 in
set_option maxHeartbeats 4000000 in
theorem c_X_firstAlike (d : Nat) {N : Nat} (p0 : Int32) (p1 : Int32) (σ : aSt) {P : Option Value → aSt → Prop} {x : Int32} (h : f_X_firstAlike N p0 p1 σ = some x) (hp : P (some (.int x)) σ) : aCall MT (d + 4) 341 [.ref 0, .int p0, .int p1] σ P := by
  unfold f_X_firstAlike at h
  refine call_of (code := mc_X_firstAlike) (L := [some (.ref 0), some (.int p0), some (.int p1), none, none, none, none]) rfl rfl rfl rfl ?_
  refine go_call (r := some (.int (b2i (f_X_isPoint p0 σ)))) (σc := σ) (σ1 := σ) (mi := 85) (vs := [.ref 0, .int p0]) (k' := 3) (L' := [some (.ref 0), some (.int p0), some (.int p1), none, none, none, none]) (S' := []) 3 (fun P9 h9 => c_X_isPoint (d + 0) p0 σ h9) (fun n h => h) ?_
  refine go_ifz (b := (f_X_isPoint p0 σ)) (k1 := 8) (L1 := [some (.ref 0), some (.int p0), some (.int p1), none, none, none, none]) (S1 := []) (σ1 := σ) (k2 := 4) (L2 := [some (.ref 0), some (.int p0), some (.int p1), none, none, none, none]) (S2 := []) (σ2 := σ) 1 (fun n h => h) (fun hc1 => ?_) (fun hc1 => ?_)
  · rw [if_neg hc1] at h
    cases h
    exact go_ret 2 (fun _ => hp)
  · rw [if_pos hc1] at h
    refine go_call (r := some (.int (b2i (f_X_isPoint p1 σ)))) (σc := σ) (σ1 := σ) (mi := 85) (vs := [.ref 0, .int p1]) (k' := 7) (L' := [some (.ref 0), some (.int p0), some (.int p1), none, none, none, none]) (S' := []) 3 (fun P9 h9 => c_X_isPoint (d + 0) p1 σ h9) (fun n h => h) ?_
    refine go_ifn (b := (f_X_isPoint p1 σ)) (k1 := 10) (L1 := [some (.ref 0), some (.int p0), some (.int p1), none, none, none, none]) (S1 := []) (σ1 := σ) (k2 := 8) (L2 := [some (.ref 0), some (.int p0), some (.int p1), none, none, none, none]) (S2 := []) (σ2 := σ) 1 (fun n h => h) (fun hc2 => ?_) (fun hc2 => ?_)
    · rw [if_pos hc2] at h
      refine go_st (k' := 17) (L' := [some (.ref 0), some (.int p0), some (.int p1), some (.ref 87), some (.int (25 : Int32)), some (.int (0 : Int32)), none]) (S' := []) (σ' := σ) 7 (fun n h => h) ?_
      exact t_X_firstAlike_l17 d σ hp N _ p0 p1 (25 : Int32) (0 : Int32) h
    · rw [if_neg hc2] at h
      cases h
      exact go_ret 2 (fun _ => hp)
def f_ClassTable_sortDivisors_57_l18 (N : Nat) (k50 : Int32 → Int32 → Int32 → Int32 → aSt → Option aSt) : Nat → Int32 → Int32 → Int32 → Int32 → aSt → Option aSt
  | 0, _, _, _, _, _ => none
  | n + 1, v1, v2, v3, v4, σ => (if v4 ≤ 0 then k50 v1 v2 v3 v4 σ else (if (f_pick σ 58 (v4 - (1 : Int32))) ≤ v2 then k50 v1 v2 v3 v4 σ else (lt (f_store σ 58 v4 (f_pick σ 58 (v4 - (1 : Int32)))) fun x4 => (lt (f_store x4 59 v4 (f_pick x4 59 (v4 - (1 : Int32)))) fun x5 => f_ClassTable_sortDivisors_57_l18 N k50 n v1 v2 v3 (v4 + (-1 : Int32)) x5))))
set_option maxRecDepth 20000 in
set_option maxHeartbeats 4000000 in
theorem t_ClassTable_sortDivisors_57_l18 (d : Nat) {N : Nat} (k50 : Int32 → Int32 → Int32 → Int32 → aSt → Option aSt) {x : aSt} {P : Option Value → aSt → Prop} (hp : P none x) (hk50 : ∀ (v1 : Int32) (v2 : Int32) (v3 : Int32) (v4 : Int32) (σ : aSt), k50 v1 v2 v3 v4 σ = some x → aGo (aCall MT (d + 1)) P mc_ClassTable_sortDivisors 50 [some (.ref 57), some (.int v1), some (.int v2), some (.int v3), some (.int v4)] [] σ) : ∀ (n : Nat) (v1 : Int32) (v2 : Int32) (v3 : Int32) (v4 : Int32) (σ : aSt), f_ClassTable_sortDivisors_57_l18 N k50 n v1 v2 v3 v4 σ = some x → aGo (aCall MT (d + 1)) P mc_ClassTable_sortDivisors 18 [some (.ref 57), some (.int v1), some (.int v2), some (.int v3), some (.int v4)] [] σ := by
  intro n
  induction n with
  | zero => intro v1 v2 v3 v4 σ h; cases h
  | succ n ih =>
    intro v1 v2 v3 v4 σ h
    rw [f_ClassTable_sortDivisors_57_l18] at h
    refine go_if (c := v4 ≤ 0) (k1 := 50) (L1 := [some (.ref 57), some (.int v1), some (.int v2), some (.int v3), some (.int v4)]) (S1 := []) (σ1 := σ) (k2 := 20) (L2 := [some (.ref 57), some (.int v1), some (.int v2), some (.int v3), some (.int v4)]) (S2 := []) (σ2 := σ) 2 (fun n h => h) (fun hc2 => ?_) (fun hc2 => ?_)
    · rw [if_pos hc2] at h
      exact hk50 v1 v2 v3 v4 σ h
    · rw [if_neg hc2] at h
      refine go_call (r := some (.int (f_pick σ 58 (v4 - (1 : Int32))))) (σc := σ) (σ1 := σ) (mi := 9) (vs := [.ref 58, .int (v4 - (1 : Int32))]) (k' := 26) (L' := [some (.ref 57), some (.int v1), some (.int v2), some (.int v3), some (.int v4)]) (S' := []) 6 (fun P9 h9 => c_pick (d + 0) σ 58 rfl (v4 - (1 : Int32)) h9) (fun n h => h) ?_
      refine go_if (c := (f_pick σ 58 (v4 - (1 : Int32))) ≤ v2) (k1 := 50) (L1 := [some (.ref 57), some (.int v1), some (.int v2), some (.int v3), some (.int v4)]) (S1 := []) (σ1 := σ) (k2 := 28) (L2 := [some (.ref 57), some (.int v1), some (.int v2), some (.int v3), some (.int v4)]) (S2 := []) (σ2 := σ) 2 (fun n h => h) (fun hc3 => ?_) (fun hc3 => ?_)
      · rw [if_pos hc3] at h
        exact hk50 v1 v2 v3 v4 σ h
      · rw [if_neg hc3] at h
        refine go_call (r := some (.int (f_pick σ 58 (v4 - (1 : Int32))))) (σc := σ) (σ1 := σ) (mi := 9) (vs := [.ref 58, .int (v4 - (1 : Int32))]) (k' := 37) (L' := [some (.ref 57), some (.int v1), some (.int v2), some (.int v3), some (.int v4)]) (S' := [.int v4, .ref 58]) 9 (fun P9 h9 => c_pick (d + 0) σ 58 rfl (v4 - (1 : Int32)) h9) (fun n h => h) ?_
        obtain ⟨x4, hx4, h⟩ := lt_of h
        refine go_call (r := none) (σc := σ) (σ1 := x4) (mi := 1) (vs := [.ref 58, .int v4, .int (f_pick σ 58 (v4 - (1 : Int32)))]) (k' := 38) (L' := [some (.ref 57), some (.int v1), some (.int v2), some (.int v3), some (.int v4)]) (S' := []) 1 (fun P9 h9 => c_store (d + 0) σ 58 rfl rfl v4 (f_pick σ 58 (v4 - (1 : Int32))) (by rw [← hx4]; exact h9)) (fun n h => h) ?_
        refine go_call (r := some (.int (f_pick x4 59 (v4 - (1 : Int32))))) (σc := x4) (σ1 := x4) (mi := 9) (vs := [.ref 59, .int (v4 - (1 : Int32))]) (k' := 47) (L' := [some (.ref 57), some (.int v1), some (.int v2), some (.int v3), some (.int v4)]) (S' := [.int v4, .ref 59]) 9 (fun P9 h9 => c_pick (d + 0) x4 59 rfl (v4 - (1 : Int32)) h9) (fun n h => h) ?_
        obtain ⟨x5, hx5, h⟩ := lt_of h
        refine go_call (r := none) (σc := x4) (σ1 := x5) (mi := 1) (vs := [.ref 59, .int v4, .int (f_pick x4 59 (v4 - (1 : Int32)))]) (k' := 48) (L' := [some (.ref 57), some (.int v1), some (.int v2), some (.int v3), some (.int v4)]) (S' := []) 1 (fun P9 h9 => c_store (d + 0) x4 59 rfl rfl v4 (f_pick x4 59 (v4 - (1 : Int32))) (by rw [← hx5]; exact h9)) (fun n h => h) ?_
        refine go_st (k' := 18) (L' := [some (.ref 57), some (.int v1), some (.int v2), some (.int v3), some (.int (v4 + (-1 : Int32)))]) (S' := []) (σ' := x5) 2 (fun n h => h) ?_
        exact ih v1 v2 v3 (v4 + (-1 : Int32)) x5 h
def f_ClassTable_sortDivisors_57_l2 (N : Nat) : Nat → Int32 → aSt → Option aSt
  | 0, _, _ => none
  | n + 1, v1, σ => (if (σ.1 57 7) ≤ v1 then some σ else f_ClassTable_sortDivisors_57_l18 N (fun (y6 : Int32) (y7 : Int32) (y8 : Int32) (y9 : Int32) σ10 => (lt (f_store σ10 58 y9 y7) fun x11 => (lt (f_store x11 59 y9 y8) fun x12 => f_ClassTable_sortDivisors_57_l2 N n (y6 + (1 : Int32)) x12))) N v1 (f_pick σ 58 v1) (f_pick σ 59 v1) v1 σ)
set_option maxRecDepth 20000 in
set_option maxHeartbeats 4000000 in
theorem t_ClassTable_sortDivisors_57_l2 (d : Nat) {N : Nat} {x : aSt} {P : Option Value → aSt → Prop} (hp : P none x) : ∀ (n : Nat) (d2 d3 d4 : Option Value) (v1 : Int32) (σ : aSt), f_ClassTable_sortDivisors_57_l2 N n v1 σ = some x → aGo (aCall MT (d + 1)) P mc_ClassTable_sortDivisors 2 [some (.ref 57), some (.int v1), d2, d3, d4] [] σ := by
  intro n
  induction n with
  | zero => intro d2 d3 d4 v1 σ h; cases h
  | succ n ih =>
    intro d2 d3 d4 v1 σ h
    rw [f_ClassTable_sortDivisors_57_l2] at h
    refine go_if (c := (σ.1 57 7) ≤ v1) (k1 := 62) (L1 := [some (.ref 57), some (.int v1), d2, d3, d4]) (S1 := []) (σ1 := σ) (k2 := 6) (L2 := [some (.ref 57), some (.int v1), d2, d3, d4]) (S2 := []) (σ2 := σ) 4 (fun n h => h) (fun hc1 => ?_) (fun hc1 => ?_)
    · rw [if_pos hc1] at h
      cases h
      exact go_ret 1 (fun _ => hp)
    · rw [if_neg hc1] at h
      refine go_call (r := some (.int (f_pick σ 58 v1))) (σc := σ) (σ1 := σ) (mi := 9) (vs := [.ref 58, .int v1]) (k' := 10) (L' := [some (.ref 57), some (.int v1), d2, d3, d4]) (S' := []) 4 (fun P9 h9 => c_pick (d + 0) σ 58 rfl v1 h9) (fun n h => h) ?_
      refine go_call (r := some (.int (f_pick σ 59 v1))) (σc := σ) (σ1 := σ) (mi := 9) (vs := [.ref 59, .int v1]) (k' := 15) (L' := [some (.ref 57), some (.int v1), some (.int (f_pick σ 58 v1)), d3, d4]) (S' := []) 5 (fun P9 h9 => c_pick (d + 0) σ 59 rfl v1 h9) (fun n h => h) ?_
      refine go_st (k' := 18) (L' := [some (.ref 57), some (.int v1), some (.int (f_pick σ 58 v1)), some (.int (f_pick σ 59 v1)), some (.int v1)]) (S' := []) (σ' := σ) 3 (fun n h => h) ?_
      refine t_ClassTable_sortDivisors_57_l18 d _ hp (fun y6 y7 y8 y9 σ10 h => ?_) N v1 (f_pick σ 58 v1) (f_pick σ 59 v1) v1 σ h
      · obtain ⟨x11, hx11, h⟩ := lt_of h
        refine go_call (r := none) (σc := σ10) (σ1 := x11) (mi := 1) (vs := [.ref 58, .int y9, .int y7]) (k' := 55) (L' := [some (.ref 57), some (.int y6), some (.int y7), some (.int y8), some (.int y9)]) (S' := []) 5 (fun P9 h9 => c_store (d + 0) σ10 58 rfl rfl y9 y7 (by rw [← hx11]; exact h9)) (fun n h => h) ?_
        obtain ⟨x12, hx12, h⟩ := lt_of h
        refine go_call (r := none) (σc := x11) (σ1 := x12) (mi := 1) (vs := [.ref 59, .int y9, .int y8]) (k' := 60) (L' := [some (.ref 57), some (.int y6), some (.int y7), some (.int y8), some (.int y9)]) (S' := []) 5 (fun P9 h9 => c_store (d + 0) x11 59 rfl rfl y9 y8 (by rw [← hx12]; exact h9)) (fun n h => h) ?_
        refine go_st (k' := 2) (L' := [some (.ref 57), some (.int (y6 + (1 : Int32))), some (.int y7), some (.int y8), some (.int y9)]) (S' := []) (σ' := x12) 2 (fun n h => h) ?_
        exact ih _ _ _ (y6 + (1 : Int32)) x12 h
def f_ClassTable_sortDivisors_57 (N : Nat) (σ : aSt) : Option aSt :=
  f_ClassTable_sortDivisors_57_l2 N N (1 : Int32) σ
set_option maxRecDepth 20000 in
set_option maxHeartbeats 4000000 in
theorem c_ClassTable_sortDivisors_57 (d : Nat) {N : Nat} (σ : aSt) {P : Option Value → aSt → Prop} {x : aSt} (h : f_ClassTable_sortDivisors_57 N σ = some x) (hp : P none x) : aCall MT (d + 2) 164 [.ref 57] σ P := by
  unfold f_ClassTable_sortDivisors_57 at h
  refine call_of (code := mc_ClassTable_sortDivisors) (L := [some (.ref 57), none, none, none, none]) rfl rfl rfl rfl ?_
  refine go_st (k' := 2) (L' := [some (.ref 57), some (.int (1 : Int32)), none, none, none]) (S' := []) (σ' := σ) 2 (fun n h => h) ?_
  exact t_ClassTable_sortDivisors_57_l2 d hp N _ _ _ (1 : Int32) σ h
def f_ClassTable_addPrime_57_l11 (N : Nat) : Nat → Int32 → Int32 → Int32 → Int32 → aSt → Option aSt
  | 0, _, _, _, _, _ => none
  | n + 1, v1, v2, v3, v4, σ => (if v3 ≤ v4 then ((f_ClassTable_sortDivisors_57 N (s_i σ 57 7 ((2 : Int32) * v3))).bind fun x3 => some x3) else (lt (f_store σ 58 (v3 + v4) ((f_pick σ 58 v4) * v1)) fun x4 => (lt (f_store x4 59 (v3 + v4) ((f_pick x4 59 v4) + v2)) fun x5 => f_ClassTable_addPrime_57_l11 N n v1 v2 v3 (v4 + (1 : Int32)) x5)))
set_option maxRecDepth 20000 in
set_option maxHeartbeats 4000000 in
theorem t_ClassTable_addPrime_57_l11 (d : Nat) {N : Nat} {x : aSt} {P : Option Value → aSt → Prop} (hp : P none x) : ∀ (n : Nat) (v1 : Int32) (v2 : Int32) (v3 : Int32) (v4 : Int32) (σ : aSt), f_ClassTable_addPrime_57_l11 N n v1 v2 v3 v4 σ = some x → aGo (aCall MT (d + 2)) P mc_ClassTable_addPrime 11 [some (.ref 57), some (.int v1), some (.int v2), some (.int v3), some (.int v4)] [] σ := by
  intro n
  induction n with
  | zero => intro v1 v2 v3 v4 σ h; cases h
  | succ n ih =>
    intro v1 v2 v3 v4 σ h
    rw [f_ClassTable_addPrime_57_l11] at h
    refine go_if (c := v3 ≤ v4) (k1 := 40) (L1 := [some (.ref 57), some (.int v1), some (.int v2), some (.int v3), some (.int v4)]) (S1 := []) (σ1 := σ) (k2 := 14) (L2 := [some (.ref 57), some (.int v1), some (.int v2), some (.int v3), some (.int v4)]) (S2 := []) (σ2 := σ) 3 (fun n h => h) (fun hc2 => ?_) (fun hc2 => ?_)
    · rw [if_pos hc2] at h
      obtain ⟨x3, hx3, h⟩ := bind_of h
      refine go_call (r := none) (σc := (s_i σ 57 7 ((2 : Int32) * v3))) (σ1 := x3) (mi := 164) (vs := [.ref 57]) (k' := 47) (L' := [some (.ref 57), some (.int v1), some (.int v2), some (.int v3), some (.int v4)]) (S' := []) 7 (fun P9 h9 => c_ClassTable_sortDivisors_57 (d + 0) (s_i σ 57 7 ((2 : Int32) * v3)) hx3 h9) (fun n h => h) ?_
      cases h
      exact go_ret 1 (fun _ => hp)
    · rw [if_neg hc2] at h
      refine go_call (r := some (.int (f_pick σ 58 v4))) (σc := σ) (σ1 := σ) (mi := 9) (vs := [.ref 58, .int v4]) (k' := 23) (L' := [some (.ref 57), some (.int v1), some (.int v2), some (.int v3), some (.int v4)]) (S' := [.int (v3 + v4), .ref 58]) 9 (fun P9 h9 => c_pick (d + 1) σ 58 rfl v4 h9) (fun n h => h) ?_
      obtain ⟨x4, hx4, h⟩ := lt_of h
      refine go_call (r := none) (σc := σ) (σ1 := x4) (mi := 1) (vs := [.ref 58, .int (v3 + v4), .int ((f_pick σ 58 v4) * v1)]) (k' := 26) (L' := [some (.ref 57), some (.int v1), some (.int v2), some (.int v3), some (.int v4)]) (S' := []) 3 (fun P9 h9 => c_store (d + 1) σ 58 rfl rfl (v3 + v4) ((f_pick σ 58 v4) * v1) (by rw [← hx4]; exact h9)) (fun n h => h) ?_
      refine go_call (r := some (.int (f_pick x4 59 v4))) (σc := x4) (σ1 := x4) (mi := 9) (vs := [.ref 59, .int v4]) (k' := 35) (L' := [some (.ref 57), some (.int v1), some (.int v2), some (.int v3), some (.int v4)]) (S' := [.int (v3 + v4), .ref 59]) 9 (fun P9 h9 => c_pick (d + 1) x4 59 rfl v4 h9) (fun n h => h) ?_
      obtain ⟨x5, hx5, h⟩ := lt_of h
      refine go_call (r := none) (σc := x4) (σ1 := x5) (mi := 1) (vs := [.ref 59, .int (v3 + v4), .int ((f_pick x4 59 v4) + v2)]) (k' := 38) (L' := [some (.ref 57), some (.int v1), some (.int v2), some (.int v3), some (.int v4)]) (S' := []) 3 (fun P9 h9 => c_store (d + 1) x4 59 rfl rfl (v3 + v4) ((f_pick x4 59 v4) + v2) (by rw [← hx5]; exact h9)) (fun n h => h) ?_
      refine go_st (k' := 11) (L' := [some (.ref 57), some (.int v1), some (.int v2), some (.int v3), some (.int (v4 + (1 : Int32)))]) (S' := []) (σ' := x5) 2 (fun n h => h) ?_
      exact ih v1 v2 v3 (v4 + (1 : Int32)) x5 h
def f_ClassTable_addPrime_57 (N : Nat) (p0 : Int32) (p1 : Int32) (σ : aSt) : Option aSt :=
  (if ((2 : Int32) * (σ.1 57 7)) ≤ (32 : Int32) then f_ClassTable_addPrime_57_l11 N N p0 p1 (σ.1 57 7) (0 : Int32) σ else some σ)
set_option maxRecDepth 20000 in
set_option maxHeartbeats 4000000 in
theorem c_ClassTable_addPrime_57 (d : Nat) {N : Nat} (p0 : Int32) (p1 : Int32) (σ : aSt) {P : Option Value → aSt → Prop} {x : aSt} (h : f_ClassTable_addPrime_57 N p0 p1 σ = some x) (hp : P none x) : aCall MT (d + 3) 165 [.ref 57, .int p0, .int p1] σ P := by
  unfold f_ClassTable_addPrime_57 at h
  refine call_of (code := mc_ClassTable_addPrime) (L := [some (.ref 57), some (.int p0), some (.int p1), none, none]) rfl rfl rfl rfl ?_
  refine go_if (c := ((2 : Int32) * (σ.1 57 7)) ≤ (32 : Int32)) (k1 := 9) (L1 := [some (.ref 57), some (.int p0), some (.int p1), some (.int (σ.1 57 7)), none]) (S1 := []) (σ1 := σ) (k2 := 8) (L2 := [some (.ref 57), some (.int p0), some (.int p1), some (.int (σ.1 57 7)), none]) (S2 := []) (σ2 := σ) 8 (fun n h => h) (fun hc1 => ?_) (fun hc1 => ?_)
  · rw [if_pos hc1] at h
    refine go_st (k' := 11) (L' := [some (.ref 57), some (.int p0), some (.int p1), some (.int (σ.1 57 7)), some (.int (0 : Int32))]) (S' := []) (σ' := σ) 2 (fun n h => h) ?_
    exact t_ClassTable_addPrime_57_l11 d hp N p0 p1 (σ.1 57 7) (0 : Int32) σ h
  · rw [if_neg hc1] at h
    cases h
    exact go_ret 1 (fun _ => hp)
def f_ClassTable_gatherDivisors_57_l33 (N : Nat) (k46 : Int32 → Int32 → Int32 → aSt → Option aSt) : Nat → Int32 → Int32 → Int32 → Int32 → aSt → Option aSt
  | 0, _, _, _, _, _ => none
  | n + 1, v1, v2, v3, v4, σ => (if (32 : Int32) ≤ v4 then k46 v1 v2 v3 σ else (if ¬ v3 = 0 then (if (irem v1 v3) ≠ 0 then k46 v1 v2 v3 σ else f_ClassTable_gatherDivisors_57_l33 N k46 n (v1 / v3) v2 v3 (v4 + (1 : Int32)) σ) else none))
set_option maxRecDepth 20000 in
set_option maxHeartbeats 4000000 in
theorem t_ClassTable_gatherDivisors_57_l33 (d : Nat) {N : Nat} (k46 : Int32 → Int32 → Int32 → aSt → Option aSt) {x : aSt} {P : Option Value → aSt → Prop} (hp : P none x) (hk46 : ∀ (d4 : Option Value) (v1 : Int32) (v2 : Int32) (v3 : Int32) (σ : aSt), k46 v1 v2 v3 σ = some x → aGo (aCall MT (d + 3)) P mc_ClassTable_gatherDivisors 46 [some (.ref 57), some (.int v1), some (.int v2), some (.int v3), d4] [] σ) : ∀ (n : Nat) (v1 : Int32) (v2 : Int32) (v3 : Int32) (v4 : Int32) (σ : aSt), f_ClassTable_gatherDivisors_57_l33 N k46 n v1 v2 v3 v4 σ = some x → aGo (aCall MT (d + 3)) P mc_ClassTable_gatherDivisors 33 [some (.ref 57), some (.int v1), some (.int v2), some (.int v3), some (.int v4)] [] σ := by
  intro n
  induction n with
  | zero => intro v1 v2 v3 v4 σ h; cases h
  | succ n ih =>
    intro v1 v2 v3 v4 σ h
    rw [f_ClassTable_gatherDivisors_57_l33] at h
    refine go_if (c := (32 : Int32) ≤ v4) (k1 := 46) (L1 := [some (.ref 57), some (.int v1), some (.int v2), some (.int v3), some (.int v4)]) (S1 := []) (σ1 := σ) (k2 := 36) (L2 := [some (.ref 57), some (.int v1), some (.int v2), some (.int v3), some (.int v4)]) (S2 := []) (σ2 := σ) 3 (fun n h => h) (fun hc8 => ?_) (fun hc8 => ?_)
    · rw [if_pos hc8] at h
      exact hk46 _ v1 v2 v3 σ h
    · rw [if_neg hc8] at h
      obtain ⟨hc9, h⟩ := ite_of h
      refine go_q (Q := ¬ v3 = 0) (k' := 39) (L' := [some (.ref 57), some (.int v1), some (.int v2), some (.int v3), some (.int v4)]) (S' := [.int (irem v1 v3)]) (σ' := σ) 3 hc9 (fun n h => h) ?_
      refine go_if (c := (irem v1 v3) ≠ 0) (k1 := 46) (L1 := [some (.ref 57), some (.int v1), some (.int v2), some (.int v3), some (.int v4)]) (S1 := []) (σ1 := σ) (k2 := 40) (L2 := [some (.ref 57), some (.int v1), some (.int v2), some (.int v3), some (.int v4)]) (S2 := []) (σ2 := σ) 1 (fun n h => h) (fun hc10 => ?_) (fun hc10 => ?_)
      · rw [if_pos hc10] at h
        exact hk46 _ v1 v2 v3 σ h
      · rw [if_neg hc10] at h
        refine go_q (Q := ¬ v3 = 0) (k' := 43) (L' := [some (.ref 57), some (.int v1), some (.int v2), some (.int v3), some (.int v4)]) (S' := [.int (v1 / v3)]) (σ' := σ) 3 (hc9) (fun n h => h) ?_
        refine go_st (k' := 33) (L' := [some (.ref 57), some (.int (v1 / v3)), some (.int v2), some (.int v3), some (.int (v4 + (1 : Int32)))]) (S' := []) (σ' := σ) 3 (fun n h => h) ?_
        exact ih (v1 / v3) v2 v3 (v4 + (1 : Int32)) σ h
def f_ClassTable_gatherDivisors_57_l21 (N : Nat) : Nat → Int32 → Int32 → Int32 → aSt → Option aSt
  | 0, _, _, _, _ => none
  | n + 1, v1, v2, v3, σ => (if v1 < (v3 * v3) then (if v1 ≤ (1 : Int32) then some σ else ((f_ClassTable_addPrime_57 N v1 v2 σ).bind fun x5 => some x5)) else (if ¬ v3 = 0 then (if (irem v1 v3) = 0 then f_ClassTable_gatherDivisors_57_l33 N (fun (y11 : Int32) (y12 : Int32) (y13 : Int32) σ14 => ((f_ClassTable_addPrime_57 N y13 y12 σ14).bind fun x15 => f_ClassTable_gatherDivisors_57_l21 N n y11 (y12 * (2 : Int32)) (y13 + (1 : Int32)) x15)) N v1 v2 v3 (0 : Int32) σ else f_ClassTable_gatherDivisors_57_l21 N n v1 v2 (v3 + (1 : Int32)) σ) else none))
set_option maxRecDepth 20000 in
set_option maxHeartbeats 4000000 in
theorem t_ClassTable_gatherDivisors_57_l21 (d : Nat) {N : Nat} {x : aSt} {P : Option Value → aSt → Prop} (hp : P none x) : ∀ (n : Nat) (d4 : Option Value) (v1 : Int32) (v2 : Int32) (v3 : Int32) (σ : aSt), f_ClassTable_gatherDivisors_57_l21 N n v1 v2 v3 σ = some x → aGo (aCall MT (d + 3)) P mc_ClassTable_gatherDivisors 21 [some (.ref 57), some (.int v1), some (.int v2), some (.int v3), d4] [] σ := by
  intro n
  induction n with
  | zero => intro d4 v1 v2 v3 σ h; cases h
  | succ n ih =>
    intro d4 v1 v2 v3 σ h
    rw [f_ClassTable_gatherDivisors_57_l21] at h
    refine go_if (c := v1 < (v3 * v3)) (k1 := 56) (L1 := [some (.ref 57), some (.int v1), some (.int v2), some (.int v3), d4]) (S1 := []) (σ1 := σ) (k2 := 26) (L2 := [some (.ref 57), some (.int v1), some (.int v2), some (.int v3), d4]) (S2 := []) (σ2 := σ) 5 (fun n h => h) (fun hc3 => ?_) (fun hc3 => ?_)
    · rw [if_pos hc3] at h
      refine go_if (c := v1 ≤ (1 : Int32)) (k1 := 63) (L1 := [some (.ref 57), some (.int v1), some (.int v2), some (.int v3), d4]) (S1 := []) (σ1 := σ) (k2 := 59) (L2 := [some (.ref 57), some (.int v1), some (.int v2), some (.int v3), d4]) (S2 := []) (σ2 := σ) 3 (fun n h => h) (fun hc4 => ?_) (fun hc4 => ?_)
      · rw [if_pos hc4] at h
        cases h
        exact go_ret 1 (fun _ => hp)
      · rw [if_neg hc4] at h
        obtain ⟨x5, hx5, h⟩ := bind_of h
        refine go_call (r := none) (σc := σ) (σ1 := x5) (mi := 165) (vs := [.ref 57, .int v1, .int v2]) (k' := 63) (L' := [some (.ref 57), some (.int v1), some (.int v2), some (.int v3), d4]) (S' := []) 4 (fun P9 h9 => c_ClassTable_addPrime_57 (d + 0) v1 v2 σ hx5 h9) (fun n h => h) ?_
        cases h
        exact go_ret 1 (fun _ => hp)
    · rw [if_neg hc3] at h
      obtain ⟨hc6, h⟩ := ite_of h
      refine go_q (Q := ¬ v3 = 0) (k' := 29) (L' := [some (.ref 57), some (.int v1), some (.int v2), some (.int v3), d4]) (S' := [.int (irem v1 v3)]) (σ' := σ) 3 hc6 (fun n h => h) ?_
      refine go_if (c := (irem v1 v3) = 0) (k1 := 31) (L1 := [some (.ref 57), some (.int v1), some (.int v2), some (.int v3), d4]) (S1 := []) (σ1 := σ) (k2 := 30) (L2 := [some (.ref 57), some (.int v1), some (.int v2), some (.int v3), d4]) (S2 := []) (σ2 := σ) 1 (fun n h => h) (fun hc7 => ?_) (fun hc7 => ?_)
      · rw [if_pos hc7] at h
        refine go_st (k' := 33) (L' := [some (.ref 57), some (.int v1), some (.int v2), some (.int v3), some (.int (0 : Int32))]) (S' := []) (σ' := σ) 2 (fun n h => h) ?_
        refine t_ClassTable_gatherDivisors_57_l33 d _ hp (fun d4 y11 y12 y13 σ14 h => ?_) N v1 v2 v3 (0 : Int32) σ h
        · obtain ⟨x15, hx15, h⟩ := bind_of h
          refine go_call (r := none) (σc := σ14) (σ1 := x15) (mi := 165) (vs := [.ref 57, .int y13, .int y12]) (k' := 50) (L' := [some (.ref 57), some (.int y11), some (.int y12), some (.int y13), d4]) (S' := []) 4 (fun P9 h9 => c_ClassTable_addPrime_57 (d + 0) y13 y12 σ14 hx15 h9) (fun n h => h) ?_
          refine go_st (k' := 21) (L' := [some (.ref 57), some (.int y11), some (.int (y12 * (2 : Int32))), some (.int (y13 + (1 : Int32))), d4]) (S' := []) (σ' := x15) 6 (fun n h => h) ?_
          exact ih _ y11 (y12 * (2 : Int32)) (y13 + (1 : Int32)) x15 h
      · rw [if_neg hc7] at h
        refine go_st (k' := 21) (L' := [some (.ref 57), some (.int v1), some (.int v2), some (.int (v3 + (1 : Int32))), d4]) (S' := []) (σ' := σ) 3 (fun n h => h) ?_
        exact ih _ v1 v2 (v3 + (1 : Int32)) σ h
def f_ClassTable_gatherDivisors_57 (N : Nat) (σ : aSt) : Option aSt :=
  (lt (f_store σ 58 (0 : Int32) (1 : Int32)) fun x1 => (lt (f_store x1 59 (0 : Int32) (0 : Int32)) fun x2 => f_ClassTable_gatherDivisors_57_l21 N N (iabs (x2.1 57 9)) (1 : Int32) (2 : Int32) (s_i x2 57 7 (1 : Int32))))
set_option maxRecDepth 20000 in
set_option maxHeartbeats 4000000 in
theorem c_ClassTable_gatherDivisors_57 (d : Nat) {N : Nat} (σ : aSt) {P : Option Value → aSt → Prop} {x : aSt} (h : f_ClassTable_gatherDivisors_57 N σ = some x) (hp : P none x) : aCall MT (d + 4) 166 [.ref 57] σ P := by
  unfold f_ClassTable_gatherDivisors_57 at h
  refine call_of (code := mc_ClassTable_gatherDivisors) (L := [some (.ref 57), none, none, none, none]) rfl rfl rfl rfl ?_
  obtain ⟨x1, hx1, h⟩ := lt_of h
  refine go_call (r := none) (σc := σ) (σ1 := x1) (mi := 1) (vs := [.ref 58, .int (0 : Int32), .int (1 : Int32)]) (k' := 5) (L' := [some (.ref 57), none, none, none, none]) (S' := []) 5 (fun P9 h9 => c_store (d + 2) σ 58 rfl rfl (0 : Int32) (1 : Int32) (by rw [← hx1]; exact h9)) (fun n h => h) ?_
  obtain ⟨x2, hx2, h⟩ := lt_of h
  refine go_call (r := none) (σc := x1) (σ1 := x2) (mi := 1) (vs := [.ref 59, .int (0 : Int32), .int (0 : Int32)]) (k' := 10) (L' := [some (.ref 57), none, none, none, none]) (S' := []) 5 (fun P9 h9 => c_store (d + 2) x1 59 rfl rfl (0 : Int32) (0 : Int32) (by rw [← hx2]; exact h9)) (fun n h => h) ?_
  refine go_st (k' := 21) (L' := [some (.ref 57), some (.int (iabs (x2.1 57 9))), some (.int (1 : Int32)), some (.int (2 : Int32)), none]) (S' := []) (σ' := (s_i x2 57 7 (1 : Int32))) 11 (fun n h => h) ?_
  exact t_ClassTable_gatherDivisors_57_l21 d hp N _ (iabs (x2.1 57 9)) (1 : Int32) (2 : Int32) (s_i x2 57 7 (1 : Int32)) h
def f_ClassTable_size_57 (σ : aSt) : Int32 :=
  ((2 : Int32) * (σ.1 57 7))
set_option maxRecDepth 20000 in
set_option maxHeartbeats 4000000 in
theorem c_ClassTable_size_57 (d : Nat) (σ : aSt) {P : Option Value → aSt → Prop} (h : P (some (.int ((f_ClassTable_size_57 σ)))) σ) : aCall MT (d + 1) 167 [.ref 57] σ P := by
  unfold f_ClassTable_size_57 at h
  refine call_of (code := mc_ClassTable_size) (L := [some (.ref 57)]) rfl rfl rfl rfl ?_
  exact go_ret 5 (fun _ => h)
def f_ClassTable_divisor_57 (p0 : Int32) (σ : aSt) : Int32 :=
  (if (irem p0 (2 : Int32)) ≠ 0 then (-(f_pick σ 58 (p0 / (2 : Int32)))) else (f_pick σ 58 (p0 / (2 : Int32))))
set_option maxRecDepth 20000 in
set_option maxHeartbeats 4000000 in
theorem c_ClassTable_divisor_57 (d : Nat) (p0 : Int32) (σ : aSt) {P : Option Value → aSt → Prop} (h : P (some (.int ((f_ClassTable_divisor_57 p0 σ)))) σ) : aCall MT (d + 2) 168 [.ref 57, .int p0] σ P := by
  unfold f_ClassTable_divisor_57 at h
  refine call_of (code := mc_ClassTable_divisor) (L := [some (.ref 57), some (.int p0), none]) rfl rfl rfl rfl ?_
  refine go_q (Q := ¬ (2 : Int32) = 0) (k' := 5) (L' := [some (.ref 57), some (.int p0), none]) (S' := [.int (p0 / (2 : Int32)), .ref 58]) (σ' := σ) 5 (by decide) (fun n h => h) ?_
  refine go_call (r := some (.int (f_pick σ 58 (p0 / (2 : Int32))))) (σc := σ) (σ1 := σ) (mi := 9) (vs := [.ref 58, .int (p0 / (2 : Int32))]) (k' := 6) (L' := [some (.ref 57), some (.int p0), none]) (S' := []) 1 (fun P9 h9 => c_pick (d + 0) σ 58 rfl (p0 / (2 : Int32)) h9) (fun n h => h) ?_
  refine go_q (Q := ¬ (2 : Int32) = 0) (k' := 10) (L' := [some (.ref 57), some (.int p0), some (.int (f_pick σ 58 (p0 / (2 : Int32))))]) (S' := [.int (irem p0 (2 : Int32))]) (σ' := σ) 4 (by decide) (fun n h => h) ?_
  refine go_if (c := (irem p0 (2 : Int32)) ≠ 0) (k1 := 13) (L1 := [some (.ref 57), some (.int p0), some (.int (f_pick σ 58 (p0 / (2 : Int32))))]) (S1 := []) (σ1 := σ) (k2 := 11) (L2 := [some (.ref 57), some (.int p0), some (.int (f_pick σ 58 (p0 / (2 : Int32))))]) (S2 := []) (σ2 := σ) 1 (fun n h => h) (fun hc1 => ?_) (fun hc1 => ?_)
  · rw [if_pos hc1] at h
    exact go_ret 3 (fun _ => h)
  · rw [if_neg hc1] at h
    exact go_ret 3 (fun _ => h)
def f_ClassTable_valueAt_57 (p0 : Int64) (p1 : Int64) (p2 : Int64) (p3 : Int64) (σ : aSt) : Int64 :=
  ((((p0 * p2) * p2) + (((σ.1 57 8).toInt64 * p2) * p3)) + ((p1 * p3) * p3))
set_option maxRecDepth 20000 in
set_option maxHeartbeats 4000000 in
theorem c_ClassTable_valueAt_57 (d : Nat) (p0 : Int64) (p1 : Int64) (p2 : Int64) (p3 : Int64) (σ : aSt) {P : Option Value → aSt → Prop} (h : P (some (.long ((f_ClassTable_valueAt_57 p0 p1 p2 p3 σ)))) σ) : aCall MT (d + 1) 169 [.ref 57, .long p0, .long p1, .long p2, .long p3] σ P := by
  unfold f_ClassTable_valueAt_57 at h
  refine call_of (code := mc_ClassTable_valueAt) (L := [some (.ref 57), some (.long p0), none, some (.long p1), none, some (.long p2), none, some (.long p3), none]) rfl rfl rfl rfl ?_
  exact go_ret 20 (fun _ => h)
def f_ClassTable_mayBeBy_57_l56 (N : Nat) (σ : aSt) : Nat → Int32 → Int32 → Int32 → Int32 → Int64 → Int32 → Option Bool
  | 0, _, _, _, _, _, _ => none
  | n + 1, v1, v2, v3, v4, v5, v7 => (if v4 ≤ v7 then some false else ((f_Whole_residue N (f_ClassTable_valueAt_57 v1.toInt64 v2.toInt64 (v7.toInt64 * v7.toInt64) (1 : Int64) σ) v4).bind fun x7 => (if ((lushr v5 x7) &&& (1 : Int64)) = (0 : Int64) then (if 0 ≤ v3 ∧ v3 < (6 : Int32) then f_ClassTable_mayBeBy_57_l56 N σ n v1 v2 v3 v4 v5 (v7 + (σ.1 89 v3.toNatClampNeg)) else none) else some true)))
set_option maxRecDepth 20000 in
set_option maxHeartbeats 4000000 in
theorem t_ClassTable_mayBeBy_57_l56 (d : Nat) {N : Nat} (σ : aSt) {x : Bool} {P : Option Value → aSt → Prop} (hp : P (some (.int (b2i x))) σ) : ∀ (n : Nat) (d8 : Option Value) (v1 : Int32) (v2 : Int32) (v3 : Int32) (v4 : Int32) (v5 : Int64) (v7 : Int32), f_ClassTable_mayBeBy_57_l56 N σ n v1 v2 v3 v4 v5 v7 = some x → aGo (aCall MT (d + 1)) P mc_ClassTable_mayBeBy 56 [some (.ref 57), some (.int v1), some (.int v2), some (.int v3), some (.int v4), some (.long v5), none, some (.int v7), d8] [] σ := by
  intro n
  induction n with
  | zero => intro d8 v1 v2 v3 v4 v5 v7 h; cases h
  | succ n ih =>
    intro d8 v1 v2 v3 v4 v5 v7 h
    rw [f_ClassTable_mayBeBy_57_l56] at h
    refine go_if (c := v4 ≤ v7) (k1 := 91) (L1 := [some (.ref 57), some (.int v1), some (.int v2), some (.int v3), some (.int v4), some (.long v5), none, some (.int v7), d8]) (S1 := []) (σ1 := σ) (k2 := 59) (L2 := [some (.ref 57), some (.int v1), some (.int v2), some (.int v3), some (.int v4), some (.long v5), none, some (.int v7), d8]) (S2 := []) (σ2 := σ) 3 (fun n h => h) (fun hc6 => ?_) (fun hc6 => ?_)
    · rw [if_pos hc6] at h
      cases h
      exact go_ret 2 (fun _ => And.intro (Or.inl rfl) hp)
    · rw [if_neg hc6] at h
      refine go_call (r := some (.long (f_ClassTable_valueAt_57 v1.toInt64 v2.toInt64 (v7.toInt64 * v7.toInt64) (1 : Int64) σ))) (σc := σ) (σ1 := σ) (mi := 169) (vs := [.ref 57, .long v1.toInt64, .long v2.toInt64, .long (v7.toInt64 * v7.toInt64), .long (1 : Int64)]) (k' := 71) (L' := [some (.ref 57), some (.int v1), some (.int v2), some (.int v3), some (.int v4), some (.long v5), none, some (.int v7), d8]) (S' := []) 12 (fun P9 h9 => c_ClassTable_valueAt_57 (d + 0) v1.toInt64 v2.toInt64 (v7.toInt64 * v7.toInt64) (1 : Int64) σ h9) (fun n h => h) ?_
      obtain ⟨x7, hx7, h⟩ := bind_of h
      refine go_call (r := some (.int x7)) (σc := σ) (σ1 := σ) (mi := 137) (vs := [.long (f_ClassTable_valueAt_57 v1.toInt64 v2.toInt64 (v7.toInt64 * v7.toInt64) (1 : Int64) σ), .int v4]) (k' := 73) (L' := [some (.ref 57), some (.int v1), some (.int v2), some (.int v3), some (.int v4), some (.long v5), none, some (.int v7), d8]) (S' := []) 2 (fun P9 h9 => c_Whole_residue (d + 0) (f_ClassTable_valueAt_57 v1.toInt64 v2.toInt64 (v7.toInt64 * v7.toInt64) (1 : Int64) σ) v4 σ hx7 h9) (fun n h => h) ?_
      refine go_iff (lcmp_eq ((lushr v5 x7) &&& (1 : Int64)) (0 : Int64)) (k1 := 84) (L1 := [some (.ref 57), some (.int v1), some (.int v2), some (.int v3), some (.int v4), some (.long v5), none, some (.int v7), some (.int x7)]) (S1 := []) (σ1 := σ) (k2 := 82) (L2 := [some (.ref 57), some (.int v1), some (.int v2), some (.int v3), some (.int v4), some (.long v5), none, some (.int v7), some (.int x7)]) (S2 := []) (σ2 := σ) 9 (fun n h => h) (fun hc8 => ?_) (fun hc8 => ?_)
      · rw [if_pos hc8] at h
        obtain ⟨hc9, h⟩ := ite_of h
        refine go_q (Q := inb 0 σ 89 v3) (k' := 88) (L' := [some (.ref 57), some (.int v1), some (.int v2), some (.int v3), some (.int v4), some (.long v5), none, some (.int v7), some (.int x7)]) (S' := [.int (σ.1 89 v3.toNatClampNeg), .int v7]) (σ' := σ) 4 (inb_mk rfl hc9.1 hc9.2) (fun n h => h) ?_
        refine go_st (k' := 56) (L' := [some (.ref 57), some (.int v1), some (.int v2), some (.int v3), some (.int v4), some (.long v5), none, some (.int (v7 + (σ.1 89 v3.toNatClampNeg))), some (.int x7)]) (S' := []) (σ' := σ) 3 (fun n h => h) ?_
        exact ih _ v1 v2 v3 v4 v5 (v7 + (σ.1 89 v3.toNatClampNeg)) h
      · rw [if_neg hc8] at h
        cases h
        exact go_ret 2 (fun _ => And.intro (Or.inr rfl) hp)
def f_ClassTable_mayBeBy_57_l24 (N : Nat) (σ : aSt) : Nat → Int32 → Int32 → Int32 → Int32 → Int64 → Int32 → Option Bool
  | 0, _, _, _, _, _, _ => none
  | n + 1, v1, v2, v3, v4, v5, v7 => (if v4 ≤ v7 then f_ClassTable_mayBeBy_57_l56 N σ N v1 v2 v3 v4 v5 (0 : Int32) else ((f_Whole_residue N (f_ClassTable_valueAt_57 v1.toInt64 v2.toInt64 (1 : Int64) (v7.toInt64 * v7.toInt64) σ) v4).bind fun x10 => (if ((lushr v5 x10) &&& (1 : Int64)) = (0 : Int64) then f_ClassTable_mayBeBy_57_l24 N σ n v1 v2 v3 v4 v5 (v7 + (1 : Int32)) else some true)))
set_option maxRecDepth 20000 in
set_option maxHeartbeats 4000000 in
theorem t_ClassTable_mayBeBy_57_l24 (d : Nat) {N : Nat} (σ : aSt) {x : Bool} {P : Option Value → aSt → Prop} (hp : P (some (.int (b2i x))) σ) : ∀ (n : Nat) (d8 : Option Value) (v1 : Int32) (v2 : Int32) (v3 : Int32) (v4 : Int32) (v5 : Int64) (v7 : Int32), f_ClassTable_mayBeBy_57_l24 N σ n v1 v2 v3 v4 v5 v7 = some x → aGo (aCall MT (d + 1)) P mc_ClassTable_mayBeBy 24 [some (.ref 57), some (.int v1), some (.int v2), some (.int v3), some (.int v4), some (.long v5), none, some (.int v7), d8] [] σ := by
  intro n
  induction n with
  | zero => intro d8 v1 v2 v3 v4 v5 v7 h; cases h
  | succ n ih =>
    intro d8 v1 v2 v3 v4 v5 v7 h
    rw [f_ClassTable_mayBeBy_57_l24] at h
    refine go_if (c := v4 ≤ v7) (k1 := 54) (L1 := [some (.ref 57), some (.int v1), some (.int v2), some (.int v3), some (.int v4), some (.long v5), none, some (.int v7), d8]) (S1 := []) (σ1 := σ) (k2 := 27) (L2 := [some (.ref 57), some (.int v1), some (.int v2), some (.int v3), some (.int v4), some (.long v5), none, some (.int v7), d8]) (S2 := []) (σ2 := σ) 3 (fun n h => h) (fun hc5 => ?_) (fun hc5 => ?_)
    · rw [if_pos hc5] at h
      refine go_st (k' := 56) (L' := [some (.ref 57), some (.int v1), some (.int v2), some (.int v3), some (.int v4), some (.long v5), none, some (.int (0 : Int32)), d8]) (S' := []) (σ' := σ) 2 (fun n h => h) ?_
      exact t_ClassTable_mayBeBy_57_l56 d σ hp N _ v1 v2 v3 v4 v5 (0 : Int32) h
    · rw [if_neg hc5] at h
      refine go_call (r := some (.long (f_ClassTable_valueAt_57 v1.toInt64 v2.toInt64 (1 : Int64) (v7.toInt64 * v7.toInt64) σ))) (σc := σ) (σ1 := σ) (mi := 169) (vs := [.ref 57, .long v1.toInt64, .long v2.toInt64, .long (1 : Int64), .long (v7.toInt64 * v7.toInt64)]) (k' := 39) (L' := [some (.ref 57), some (.int v1), some (.int v2), some (.int v3), some (.int v4), some (.long v5), none, some (.int v7), d8]) (S' := []) 12 (fun P9 h9 => c_ClassTable_valueAt_57 (d + 0) v1.toInt64 v2.toInt64 (1 : Int64) (v7.toInt64 * v7.toInt64) σ h9) (fun n h => h) ?_
      obtain ⟨x10, hx10, h⟩ := bind_of h
      refine go_call (r := some (.int x10)) (σc := σ) (σ1 := σ) (mi := 137) (vs := [.long (f_ClassTable_valueAt_57 v1.toInt64 v2.toInt64 (1 : Int64) (v7.toInt64 * v7.toInt64) σ), .int v4]) (k' := 41) (L' := [some (.ref 57), some (.int v1), some (.int v2), some (.int v3), some (.int v4), some (.long v5), none, some (.int v7), d8]) (S' := []) 2 (fun P9 h9 => c_Whole_residue (d + 0) (f_ClassTable_valueAt_57 v1.toInt64 v2.toInt64 (1 : Int64) (v7.toInt64 * v7.toInt64) σ) v4 σ hx10 h9) (fun n h => h) ?_
      refine go_iff (lcmp_eq ((lushr v5 x10) &&& (1 : Int64)) (0 : Int64)) (k1 := 52) (L1 := [some (.ref 57), some (.int v1), some (.int v2), some (.int v3), some (.int v4), some (.long v5), none, some (.int v7), some (.int x10)]) (S1 := []) (σ1 := σ) (k2 := 50) (L2 := [some (.ref 57), some (.int v1), some (.int v2), some (.int v3), some (.int v4), some (.long v5), none, some (.int v7), some (.int x10)]) (S2 := []) (σ2 := σ) 9 (fun n h => h) (fun hc11 => ?_) (fun hc11 => ?_)
      · rw [if_pos hc11] at h
        refine go_st (k' := 24) (L' := [some (.ref 57), some (.int v1), some (.int v2), some (.int v3), some (.int v4), some (.long v5), none, some (.int (v7 + (1 : Int32))), some (.int x10)]) (S' := []) (σ' := σ) 2 (fun n h => h) ?_
        exact ih _ v1 v2 v3 v4 v5 (v7 + (1 : Int32)) h
      · rw [if_neg hc11] at h
        cases h
        exact go_ret 2 (fun _ => And.intro (Or.inr rfl) hp)
def f_ClassTable_mayBeBy_57 (N : Nat) (p0 : Int32) (p1 : Int32) (p2 : Int32) (σ : aSt) : Option Bool :=
  (if (6 : Int32) ≤ p2 then some false else (if (6 : Int32) ≤ p2 then some false else (if p2 < (6 : Int32) then (if 0 ≤ p2 ∧ p2 < (6 : Int32) then f_ClassTable_mayBeBy_57_l24 N σ N p0 p1 p2 (σ.1 88 p2.toNatClampNeg) (σ.2.1 90 p2.toNatClampNeg) (0 : Int32) else none) else some false)))
set_option maxRecDepth 20000 in
set_option maxHeartbeats 4000000 in
theorem c_ClassTable_mayBeBy_57 (d : Nat) {N : Nat} (p0 : Int32) (p1 : Int32) (p2 : Int32) (σ : aSt) {P : Option Value → aSt → Prop} {x : Bool} (h : f_ClassTable_mayBeBy_57 N p0 p1 p2 σ = some x) (hp : P (some (.int (b2i x))) σ) : aCall MT (d + 2) 170 [.ref 57, .int p0, .int p1, .int p2] σ P := by
  unfold f_ClassTable_mayBeBy_57 at h
  refine call_of (code := mc_ClassTable_mayBeBy) (L := [some (.ref 57), some (.int p0), some (.int p1), some (.int p2), none, none, none, none, none]) rfl rfl rfl rfl ?_
  refine go_if (c := (6 : Int32) ≤ p2) (k1 := 12) (L1 := [some (.ref 57), some (.int p0), some (.int p1), some (.int p2), none, none, none, none, none]) (S1 := []) (σ1 := σ) (k2 := 4) (L2 := [some (.ref 57), some (.int p0), some (.int p1), some (.int p2), none, none, none, none, none]) (S2 := []) (σ2 := σ) 4 (fun n h => h) (fun hc1 => ?_) (fun hc1 => ?_)
  · rw [if_pos hc1] at h
    cases h
    exact go_ret 2 (fun _ => And.intro (Or.inl rfl) hp)
  · rw [if_neg hc1] at h
    refine go_if (c := (6 : Int32) ≤ p2) (k1 := 12) (L1 := [some (.ref 57), some (.int p0), some (.int p1), some (.int p2), none, none, none, none, none]) (S1 := []) (σ1 := σ) (k2 := 8) (L2 := [some (.ref 57), some (.int p0), some (.int p1), some (.int p2), none, none, none, none, none]) (S2 := []) (σ2 := σ) 4 (fun n h => h) (fun hc2 => ?_) (fun hc2 => ?_)
    · rw [if_pos hc2] at h
      cases h
      exact go_ret 2 (fun _ => And.intro (Or.inl rfl) hp)
    · rw [if_neg hc2] at h
      refine go_if (c := p2 < (6 : Int32)) (k1 := 14) (L1 := [some (.ref 57), some (.int p0), some (.int p1), some (.int p2), none, none, none, none, none]) (S1 := []) (σ1 := σ) (k2 := 12) (L2 := [some (.ref 57), some (.int p0), some (.int p1), some (.int p2), none, none, none, none, none]) (S2 := []) (σ2 := σ) 4 (fun n h => h) (fun hc3 => ?_) (fun hc3 => ?_)
      · rw [if_pos hc3] at h
        obtain ⟨hc4, h⟩ := ite_of h
        refine go_q (Q := inb 0 σ 88 p2) (k' := 17) (L' := [some (.ref 57), some (.int p0), some (.int p1), some (.int p2), none, none, none, none, none]) (S' := [.int (σ.1 88 p2.toNatClampNeg)]) (σ' := σ) 3 (inb_mk rfl hc4.1 hc4.2) (fun n h => h) ?_
        refine go_q (Q := inb 1 σ 90 p2) (k' := 21) (L' := [some (.ref 57), some (.int p0), some (.int p1), some (.int p2), some (.int (σ.1 88 p2.toNatClampNeg)), none, none, none, none]) (S' := [.long (σ.2.1 90 p2.toNatClampNeg)]) (σ' := σ) 4 (inb_mk rfl hc4.1 hc4.2) (fun n h => h) ?_
        refine go_st (k' := 24) (L' := [some (.ref 57), some (.int p0), some (.int p1), some (.int p2), some (.int (σ.1 88 p2.toNatClampNeg)), some (.long (σ.2.1 90 p2.toNatClampNeg)), none, some (.int (0 : Int32)), none]) (S' := []) (σ' := σ) 3 (fun n h => h) ?_
        exact t_ClassTable_mayBeBy_57_l24 d σ hp N _ p0 p1 p2 (σ.1 88 p2.toNatClampNeg) (σ.2.1 90 p2.toNatClampNeg) (0 : Int32) h
      · rw [if_neg hc3] at h
        cases h
        exact go_ret 2 (fun _ => And.intro (Or.inl rfl) hp)
def f_ClassTable_mayBe_57_l30 (N : Nat) (σ : aSt) : Nat → Int32 → Int32 → Int32 → Option Bool
  | 0, _, _, _ => none
  | n + 1, v1, v2, v3 => (if (6 : Int32) ≤ v3 then some true else ((f_ClassTable_mayBeBy_57 N v1 v2 v3 σ).bind fun x3 => (if x3 = true then f_ClassTable_mayBe_57_l30 N σ n v1 v2 (v3 + (1 : Int32)) else some false)))
set_option maxRecDepth 20000 in
set_option maxHeartbeats 4000000 in
theorem t_ClassTable_mayBe_57_l30 (d : Nat) {N : Nat} (σ : aSt) {x : Bool} {P : Option Value → aSt → Prop} (hp : P (some (.int (b2i x))) σ) : ∀ (n : Nat) (v1 : Int32) (v2 : Int32) (v3 : Int32), f_ClassTable_mayBe_57_l30 N σ n v1 v2 v3 = some x → aGo (aCall MT (d + 2)) P mc_ClassTable_mayBe 30 [some (.ref 57), some (.int v1), some (.int v2), some (.int v3)] [] σ := by
  intro n
  induction n with
  | zero => intro v1 v2 v3 h; cases h
  | succ n ih =>
    intro v1 v2 v3 h
    rw [f_ClassTable_mayBe_57_l30] at h
    refine go_if (c := (6 : Int32) ≤ v3) (k1 := 44) (L1 := [some (.ref 57), some (.int v1), some (.int v2), some (.int v3)]) (S1 := []) (σ1 := σ) (k2 := 34) (L2 := [some (.ref 57), some (.int v1), some (.int v2), some (.int v3)]) (S2 := []) (σ2 := σ) 4 (fun n h => h) (fun hc2 => ?_) (fun hc2 => ?_)
    · rw [if_pos hc2] at h
      cases h
      exact go_ret 2 (fun _ => And.intro (Or.inr rfl) hp)
    · rw [if_neg hc2] at h
      obtain ⟨x3, hx3, h⟩ := bind_of h
      refine go_call (r := some (.int (b2i x3))) (σc := σ) (σ1 := σ) (mi := 170) (vs := [.ref 57, .int v1, .int v2, .int v3]) (k' := 39) (L' := [some (.ref 57), some (.int v1), some (.int v2), some (.int v3)]) (S' := []) 5 (fun P9 h9 => c_ClassTable_mayBeBy_57 (d + 0) v1 v2 v3 σ hx3 h9) (fun n h => h) ?_
      refine go_ifn (b := x3) (k1 := 42) (L1 := [some (.ref 57), some (.int v1), some (.int v2), some (.int v3)]) (S1 := []) (σ1 := σ) (k2 := 40) (L2 := [some (.ref 57), some (.int v1), some (.int v2), some (.int v3)]) (S2 := []) (σ2 := σ) 1 (fun n h => h) (fun hc4 => ?_) (fun hc4 => ?_)
      · rw [if_pos hc4] at h
        refine go_st (k' := 30) (L' := [some (.ref 57), some (.int v1), some (.int v2), some (.int (v3 + (1 : Int32)))]) (S' := []) (σ' := σ) 2 (fun n h => h) ?_
        exact ih v1 v2 (v3 + (1 : Int32)) h
      · rw [if_neg hc4] at h
        cases h
        exact go_ret 2 (fun _ => And.intro (Or.inl rfl) hp)
def f_ClassTable_mayBe_57_b28 (N : Nat) (v1 : Int32) (v2 : Int32) (σ : aSt) : Option Bool :=
  f_ClassTable_mayBe_57_l30 N σ N v1 v2 (0 : Int32)
set_option maxRecDepth 20000 in
set_option maxHeartbeats 4000000 in
theorem t_ClassTable_mayBe_57_b28 (d : Nat) {N : Nat} (d3 : Option Value) (v1 : Int32) (v2 : Int32) (σ : aSt) {P : Option Value → aSt → Prop} {x : Bool} (h : f_ClassTable_mayBe_57_b28 N v1 v2 σ = some x) (hp : P (some (.int (b2i x))) σ) : aGo (aCall MT (d + 2)) P mc_ClassTable_mayBe 28 [some (.ref 57), some (.int v1), some (.int v2), d3] [] σ := by
  unfold f_ClassTable_mayBe_57_b28 at h
  refine go_st (k' := 30) (L' := [some (.ref 57), some (.int v1), some (.int v2), some (.int (0 : Int32))]) (S' := []) (σ' := σ) 2 (fun n h => h) ?_
  exact t_ClassTable_mayBe_57_l30 d σ hp N v1 v2 (0 : Int32) h
def f_ClassTable_mayBe_57 (N : Nat) (p0 : Int32) (σ : aSt) : Option Bool :=
  (if 0 ≤ p0 then f_ClassTable_mayBe_57_b28 N p0 (f_Whole_quotient (σ.1 57 9).toInt64 p0.toInt64).toInt32 σ else (if 0 ≤ (f_Whole_quotient (σ.1 57 9).toInt64 p0.toInt64).toInt32 then f_ClassTable_mayBe_57_b28 N p0 (f_Whole_quotient (σ.1 57 9).toInt64 p0.toInt64).toInt32 σ else (if (σ.1 57 8) ≤ 0 then some false else (if 0 < (((σ.1 57 8) * (σ.1 57 8)) - ((4 : Int32) * (σ.1 57 9))) then f_ClassTable_mayBe_57_b28 N p0 (f_Whole_quotient (σ.1 57 9).toInt64 p0.toInt64).toInt32 σ else some false))))
set_option maxRecDepth 20000 in
set_option maxHeartbeats 4000000 in
theorem c_ClassTable_mayBe_57 (d : Nat) {N : Nat} (p0 : Int32) (σ : aSt) {P : Option Value → aSt → Prop} {x : Bool} (h : f_ClassTable_mayBe_57 N p0 σ = some x) (hp : P (some (.int (b2i x))) σ) : aCall MT (d + 3) 171 [.ref 57, .int p0] σ P := by
  unfold f_ClassTable_mayBe_57 at h
  refine call_of (code := mc_ClassTable_mayBe) (L := [some (.ref 57), some (.int p0), none, none]) rfl rfl rfl rfl ?_
  refine go_call (r := some (.long (f_Whole_quotient (σ.1 57 9).toInt64 p0.toInt64))) (σc := σ) (σ1 := σ) (mi := 97) (vs := [.long (σ.1 57 9).toInt64, .long p0.toInt64]) (k' := 6) (L' := [some (.ref 57), some (.int p0), none, none]) (S' := []) 6 (fun P9 h9 => c_Whole_quotient (d + 1) (σ.1 57 9).toInt64 p0.toInt64 σ h9) (fun n h => h) ?_
  refine go_if (c := 0 ≤ p0) (k1 := 28) (L1 := [some (.ref 57), some (.int p0), some (.int (f_Whole_quotient (σ.1 57 9).toInt64 p0.toInt64).toInt32), none]) (S1 := []) (σ1 := σ) (k2 := 10) (L2 := [some (.ref 57), some (.int p0), some (.int (f_Whole_quotient (σ.1 57 9).toInt64 p0.toInt64).toInt32), none]) (S2 := []) (σ2 := σ) 4 (fun n h => h) (fun hc1 => ?_) (fun hc1 => ?_)
  · rw [if_pos hc1] at h
    exact t_ClassTable_mayBe_57_b28 d _ p0 (f_Whole_quotient (σ.1 57 9).toInt64 p0.toInt64).toInt32 σ h hp
  · rw [if_neg hc1] at h
    refine go_if (c := 0 ≤ (f_Whole_quotient (σ.1 57 9).toInt64 p0.toInt64).toInt32) (k1 := 28) (L1 := [some (.ref 57), some (.int p0), some (.int (f_Whole_quotient (σ.1 57 9).toInt64 p0.toInt64).toInt32), none]) (S1 := []) (σ1 := σ) (k2 := 12) (L2 := [some (.ref 57), some (.int p0), some (.int (f_Whole_quotient (σ.1 57 9).toInt64 p0.toInt64).toInt32), none]) (S2 := []) (σ2 := σ) 2 (fun n h => h) (fun hc5 => ?_) (fun hc5 => ?_)
    · rw [if_pos hc5] at h
      exact t_ClassTable_mayBe_57_b28 d _ p0 (f_Whole_quotient (σ.1 57 9).toInt64 p0.toInt64).toInt32 σ h hp
    · rw [if_neg hc5] at h
      refine go_if (c := (σ.1 57 8) ≤ 0) (k1 := 26) (L1 := [some (.ref 57), some (.int p0), some (.int (f_Whole_quotient (σ.1 57 9).toInt64 p0.toInt64).toInt32), none]) (S1 := []) (σ1 := σ) (k2 := 15) (L2 := [some (.ref 57), some (.int p0), some (.int (f_Whole_quotient (σ.1 57 9).toInt64 p0.toInt64).toInt32), none]) (S2 := []) (σ2 := σ) 3 (fun n h => h) (fun hc6 => ?_) (fun hc6 => ?_)
      · rw [if_pos hc6] at h
        cases h
        exact go_ret 2 (fun _ => And.intro (Or.inl rfl) hp)
      · rw [if_neg hc6] at h
        refine go_if (c := 0 < (((σ.1 57 8) * (σ.1 57 8)) - ((4 : Int32) * (σ.1 57 9)))) (k1 := 28) (L1 := [some (.ref 57), some (.int p0), some (.int (f_Whole_quotient (σ.1 57 9).toInt64 p0.toInt64).toInt32), none]) (S1 := []) (σ1 := σ) (k2 := 26) (L2 := [some (.ref 57), some (.int p0), some (.int (f_Whole_quotient (σ.1 57 9).toInt64 p0.toInt64).toInt32), none]) (S2 := []) (σ2 := σ) 11 (fun n h => h) (fun hc7 => ?_) (fun hc7 => ?_)
        · rw [if_pos hc7] at h
          exact t_ClassTable_mayBe_57_b28 d _ p0 (f_Whole_quotient (σ.1 57 9).toInt64 p0.toInt64).toInt32 σ h hp
        · rw [if_neg hc7] at h
          cases h
          exact go_ret 2 (fun _ => And.intro (Or.inl rfl) hp)
def f_ClassTable_tally_57 (p0 : Int32) (σ : aSt) : Int32 :=
  (f_pick σ 64 p0)
set_option maxRecDepth 20000 in
set_option maxHeartbeats 4000000 in
theorem c_ClassTable_tally_57 (d : Nat) (p0 : Int32) (σ : aSt) {P : Option Value → aSt → Prop} (h : P (some (.int ((f_ClassTable_tally_57 p0 σ)))) σ) : aCall MT (d + 2) 172 [.ref 57, .int p0] σ P := by
  unfold f_ClassTable_tally_57 at h
  refine call_of (code := mc_ClassTable_tally) (L := [some (.ref 57), some (.int p0)]) rfl rfl rfl rfl ?_
  refine go_call (r := some (.int (f_pick σ 64 p0))) (σc := σ) (σ1 := σ) (mi := 9) (vs := [.ref 64, .int p0]) (k' := 4) (L' := [some (.ref 57), some (.int p0)]) (S' := []) 4 (fun P9 h9 => c_pick (d + 0) σ 64 rfl p0 h9) (fun n h => h) ?_
  exact go_ret 1 (fun _ => h)
def f_ClassTable_search_57_l19 (N : Nat) (k66 : Int32 → Int32 → Int32 → Int32 → aSt → Option aSt) : Nat → Int32 → Int32 → Int32 → Int32 → Int32 → Int32 → aSt → Option aSt
  | 0, _, _, _, _, _, _, _ => none
  | n + 1, v1, v2, v3, v4, v5, v6, σ => (if (20 : Int32) < v6 then k66 v1 v2 v3 v4 σ else (if (f_ClassTable_valueAt_57 v2.toInt64 v3.toInt64 (v6 * v6).toInt64 v5.toInt64 σ) < (0 : Int64) then f_ClassTable_search_57_l19 N k66 n v1 v2 v3 v4 v5 (v6 + (1 : Int32)) σ else ((f_Whole_rootOf N (f_ClassTable_valueAt_57 v2.toInt64 v3.toInt64 (v6 * v6).toInt64 v5.toInt64 σ)).bind fun x4 => (if x4 < (0 : Int64) then f_ClassTable_search_57_l19 N k66 n v1 v2 v3 v4 v5 (v6 + (1 : Int32)) σ else ((f_Whole_gcd N v6.toInt64 v4.toInt64).bind fun x6 => (if x6 = (1 : Int64) then (lt (f_store σ 61 v1 v6) fun x8 => (lt (f_store x8 62 v1 v4) fun x9 => some x9)) else f_ClassTable_search_57_l19 N k66 n v1 v2 v3 v4 v5 (v6 + (1 : Int32)) σ))))))
set_option maxRecDepth 20000 in
set_option maxHeartbeats 4000000 in
theorem t_ClassTable_search_57_l19 (d : Nat) {N : Nat} (k66 : Int32 → Int32 → Int32 → Int32 → aSt → Option aSt) {x : aSt} {P : Option Value → aSt → Prop} (hp : P none x) (hk66 : ∀ (d5 d6 d7 d8 : Option Value) (v1 : Int32) (v2 : Int32) (v3 : Int32) (v4 : Int32) (σ : aSt), k66 v1 v2 v3 v4 σ = some x → aGo (aCall MT (d + 3)) P mc_ClassTable_search 66 [some (.ref 57), some (.int v1), some (.int v2), some (.int v3), some (.int v4), d5, d6, d7, d8] [] σ) : ∀ (n : Nat) (d7 d8 : Option Value) (v1 : Int32) (v2 : Int32) (v3 : Int32) (v4 : Int32) (v5 : Int32) (v6 : Int32) (σ : aSt), f_ClassTable_search_57_l19 N k66 n v1 v2 v3 v4 v5 v6 σ = some x → aGo (aCall MT (d + 3)) P mc_ClassTable_search 19 [some (.ref 57), some (.int v1), some (.int v2), some (.int v3), some (.int v4), some (.int v5), some (.int v6), d7, d8] [] σ := by
  intro n
  induction n with
  | zero => intro d7 d8 v1 v2 v3 v4 v5 v6 σ h; cases h
  | succ n ih =>
    intro d7 d8 v1 v2 v3 v4 v5 v6 σ h
    rw [f_ClassTable_search_57_l19] at h
    refine go_if (c := (20 : Int32) < v6) (k1 := 66) (L1 := [some (.ref 57), some (.int v1), some (.int v2), some (.int v3), some (.int v4), some (.int v5), some (.int v6), d7, d8]) (S1 := []) (σ1 := σ) (k2 := 22) (L2 := [some (.ref 57), some (.int v1), some (.int v2), some (.int v3), some (.int v4), some (.int v5), some (.int v6), d7, d8]) (S2 := []) (σ2 := σ) 3 (fun n h => h) (fun hc2 => ?_) (fun hc2 => ?_)
    · rw [if_pos hc2] at h
      exact hk66 _ _ _ _ v1 v2 v3 v4 σ h
    · rw [if_neg hc2] at h
      refine go_call (r := some (.long (f_ClassTable_valueAt_57 v2.toInt64 v3.toInt64 (v6 * v6).toInt64 v5.toInt64 σ))) (σc := σ) (σ1 := σ) (mi := 169) (vs := [.ref 57, .long v2.toInt64, .long v3.toInt64, .long (v6 * v6).toInt64, .long v5.toInt64]) (k' := 34) (L' := [some (.ref 57), some (.int v1), some (.int v2), some (.int v3), some (.int v4), some (.int v5), some (.int v6), d7, d8]) (S' := []) 12 (fun P9 h9 => c_ClassTable_valueAt_57 (d + 2) v2.toInt64 v3.toInt64 (v6 * v6).toInt64 v5.toInt64 σ h9) (fun n h => h) ?_
      refine go_iff (lcmp_lt (f_ClassTable_valueAt_57 v2.toInt64 v3.toInt64 (v6 * v6).toInt64 v5.toInt64 σ) (0 : Int64)) (k1 := 64) (L1 := [some (.ref 57), some (.int v1), some (.int v2), some (.int v3), some (.int v4), some (.int v5), some (.int v6), some (.long (f_ClassTable_valueAt_57 v2.toInt64 v3.toInt64 (v6 * v6).toInt64 v5.toInt64 σ)), none]) (S1 := []) (σ1 := σ) (k2 := 39) (L2 := [some (.ref 57), some (.int v1), some (.int v2), some (.int v3), some (.int v4), some (.int v5), some (.int v6), some (.long (f_ClassTable_valueAt_57 v2.toInt64 v3.toInt64 (v6 * v6).toInt64 v5.toInt64 σ)), none]) (S2 := []) (σ2 := σ) 5 (fun n h => h) (fun hc3 => ?_) (fun hc3 => ?_)
      · rw [if_pos hc3] at h
        refine go_st (k' := 19) (L' := [some (.ref 57), some (.int v1), some (.int v2), some (.int v3), some (.int v4), some (.int v5), some (.int (v6 + (1 : Int32))), some (.long (f_ClassTable_valueAt_57 v2.toInt64 v3.toInt64 (v6 * v6).toInt64 v5.toInt64 σ)), none]) (S' := []) (σ' := σ) 2 (fun n h => h) ?_
        exact ih _ _ v1 v2 v3 v4 v5 (v6 + (1 : Int32)) σ h
      · rw [if_neg hc3] at h
        obtain ⟨x4, hx4, h⟩ := bind_of h
        refine go_call (r := some (.long x4)) (σc := σ) (σ1 := σ) (mi := 37) (vs := [.long (f_ClassTable_valueAt_57 v2.toInt64 v3.toInt64 (v6 * v6).toInt64 v5.toInt64 σ)]) (k' := 41) (L' := [some (.ref 57), some (.int v1), some (.int v2), some (.int v3), some (.int v4), some (.int v5), some (.int v6), some (.long (f_ClassTable_valueAt_57 v2.toInt64 v3.toInt64 (v6 * v6).toInt64 v5.toInt64 σ)), none]) (S' := []) 2 (fun P9 h9 => c_Whole_rootOf (d + 0) (f_ClassTable_valueAt_57 v2.toInt64 v3.toInt64 (v6 * v6).toInt64 v5.toInt64 σ) σ hx4 h9) (fun n h => h) ?_
        refine go_iff (lcmp_lt x4 (0 : Int64)) (k1 := 64) (L1 := [some (.ref 57), some (.int v1), some (.int v2), some (.int v3), some (.int v4), some (.int v5), some (.int v6), some (.long (f_ClassTable_valueAt_57 v2.toInt64 v3.toInt64 (v6 * v6).toInt64 v5.toInt64 σ)), none]) (S1 := []) (σ1 := σ) (k2 := 44) (L2 := [some (.ref 57), some (.int v1), some (.int v2), some (.int v3), some (.int v4), some (.int v5), some (.int v6), some (.long (f_ClassTable_valueAt_57 v2.toInt64 v3.toInt64 (v6 * v6).toInt64 v5.toInt64 σ)), none]) (S2 := []) (σ2 := σ) 3 (fun n h => h) (fun hc5 => ?_) (fun hc5 => ?_)
        · rw [if_pos hc5] at h
          refine go_st (k' := 19) (L' := [some (.ref 57), some (.int v1), some (.int v2), some (.int v3), some (.int v4), some (.int v5), some (.int (v6 + (1 : Int32))), some (.long (f_ClassTable_valueAt_57 v2.toInt64 v3.toInt64 (v6 * v6).toInt64 v5.toInt64 σ)), none]) (S' := []) (σ' := σ) 2 (fun n h => h) ?_
          exact ih _ _ v1 v2 v3 v4 v5 (v6 + (1 : Int32)) σ h
        · rw [if_neg hc5] at h
          obtain ⟨x6, hx6, h⟩ := bind_of h
          refine go_call (r := some (.long x6)) (σc := σ) (σ1 := σ) (mi := 38) (vs := [.long v6.toInt64, .long v4.toInt64]) (k' := 49) (L' := [some (.ref 57), some (.int v1), some (.int v2), some (.int v3), some (.int v4), some (.int v5), some (.int v6), some (.long (f_ClassTable_valueAt_57 v2.toInt64 v3.toInt64 (v6 * v6).toInt64 v5.toInt64 σ)), none]) (S' := []) 5 (fun P9 h9 => c_Whole_gcd (d + 2) v6.toInt64 v4.toInt64 σ hx6 h9) (fun n h => h) ?_
          refine go_iff (lcmp_eq x6 (1 : Int64)) (k1 := 53) (L1 := [some (.ref 57), some (.int v1), some (.int v2), some (.int v3), some (.int v4), some (.int v5), some (.int v6), some (.long (f_ClassTable_valueAt_57 v2.toInt64 v3.toInt64 (v6 * v6).toInt64 v5.toInt64 σ)), none]) (S1 := []) (σ1 := σ) (k2 := 52) (L2 := [some (.ref 57), some (.int v1), some (.int v2), some (.int v3), some (.int v4), some (.int v5), some (.int v6), some (.long (f_ClassTable_valueAt_57 v2.toInt64 v3.toInt64 (v6 * v6).toInt64 v5.toInt64 σ)), none]) (S2 := []) (σ2 := σ) 3 (fun n h => h) (fun hc7 => ?_) (fun hc7 => ?_)
          · rw [if_pos hc7] at h
            obtain ⟨x8, hx8, h⟩ := lt_of h
            refine go_call (r := none) (σc := σ) (σ1 := x8) (mi := 1) (vs := [.ref 61, .int v1, .int v6]) (k' := 58) (L' := [some (.ref 57), some (.int v1), some (.int v2), some (.int v3), some (.int v4), some (.int v5), some (.int v6), some (.long (f_ClassTable_valueAt_57 v2.toInt64 v3.toInt64 (v6 * v6).toInt64 v5.toInt64 σ)), none]) (S' := []) 5 (fun P9 h9 => c_store (d + 2) σ 61 rfl rfl v1 v6 (by rw [← hx8]; exact h9)) (fun n h => h) ?_
            obtain ⟨x9, hx9, h⟩ := lt_of h
            refine go_call (r := none) (σc := x8) (σ1 := x9) (mi := 1) (vs := [.ref 62, .int v1, .int v4]) (k' := 63) (L' := [some (.ref 57), some (.int v1), some (.int v2), some (.int v3), some (.int v4), some (.int v5), some (.int v6), some (.long (f_ClassTable_valueAt_57 v2.toInt64 v3.toInt64 (v6 * v6).toInt64 v5.toInt64 σ)), none]) (S' := []) 5 (fun P9 h9 => c_store (d + 2) x8 62 rfl rfl v1 v4 (by rw [← hx9]; exact h9)) (fun n h => h) ?_
            cases h
            exact go_ret 1 (fun _ => hp)
          · rw [if_neg hc7] at h
            refine go_st (k' := 19) (L' := [some (.ref 57), some (.int v1), some (.int v2), some (.int v3), some (.int v4), some (.int v5), some (.int (v6 + (1 : Int32))), some (.long (f_ClassTable_valueAt_57 v2.toInt64 v3.toInt64 (v6 * v6).toInt64 v5.toInt64 σ)), none]) (S' := []) (σ' := σ) 3 (fun n h => h) ?_
            exact ih _ _ v1 v2 v3 v4 v5 (v6 + (1 : Int32)) σ h
def f_ClassTable_search_57_l10 (N : Nat) : Nat → Int32 → Int32 → Int32 → Int32 → aSt → Option aSt
  | 0, _, _, _, _, _ => none
  | n + 1, v1, v2, v3, v4, σ => (if (20 : Int32) < v4 then some σ else f_ClassTable_search_57_l19 N (fun (y10 : Int32) (y11 : Int32) (y12 : Int32) (y13 : Int32) σ14 => f_ClassTable_search_57_l10 N n y10 y11 y12 (y13 + (1 : Int32)) σ14) N v1 v2 v3 v4 (v4 * v4) (0 : Int32) σ)
set_option maxRecDepth 20000 in
set_option maxHeartbeats 4000000 in
theorem t_ClassTable_search_57_l10 (d : Nat) {N : Nat} {x : aSt} {P : Option Value → aSt → Prop} (hp : P none x) : ∀ (n : Nat) (d5 d6 d7 d8 : Option Value) (v1 : Int32) (v2 : Int32) (v3 : Int32) (v4 : Int32) (σ : aSt), f_ClassTable_search_57_l10 N n v1 v2 v3 v4 σ = some x → aGo (aCall MT (d + 3)) P mc_ClassTable_search 10 [some (.ref 57), some (.int v1), some (.int v2), some (.int v3), some (.int v4), d5, d6, d7, d8] [] σ := by
  intro n
  induction n with
  | zero => intro d5 d6 d7 d8 v1 v2 v3 v4 σ h; cases h
  | succ n ih =>
    intro d5 d6 d7 d8 v1 v2 v3 v4 σ h
    rw [f_ClassTable_search_57_l10] at h
    refine go_if (c := (20 : Int32) < v4) (k1 := 68) (L1 := [some (.ref 57), some (.int v1), some (.int v2), some (.int v3), some (.int v4), d5, d6, d7, d8]) (S1 := []) (σ1 := σ) (k2 := 13) (L2 := [some (.ref 57), some (.int v1), some (.int v2), some (.int v3), some (.int v4), d5, d6, d7, d8]) (S2 := []) (σ2 := σ) 3 (fun n h => h) (fun hc1 => ?_) (fun hc1 => ?_)
    · rw [if_pos hc1] at h
      cases h
      exact go_ret 1 (fun _ => hp)
    · rw [if_neg hc1] at h
      refine go_st (k' := 19) (L' := [some (.ref 57), some (.int v1), some (.int v2), some (.int v3), some (.int v4), some (.int (v4 * v4)), some (.int (0 : Int32)), d7, d8]) (S' := []) (σ' := σ) 6 (fun n h => h) ?_
      refine t_ClassTable_search_57_l19 d _ hp (fun d5 d6 d7 d8 y10 y11 y12 y13 σ14 h => ?_) N _ _ v1 v2 v3 v4 (v4 * v4) (0 : Int32) σ h
      · refine go_st (k' := 10) (L' := [some (.ref 57), some (.int y10), some (.int y11), some (.int y12), some (.int (y13 + (1 : Int32))), d5, d6, d7, d8]) (S' := []) (σ' := σ14) 2 (fun n h => h) ?_
        exact ih _ _ _ _ y10 y11 y12 (y13 + (1 : Int32)) σ14 h
def f_ClassTable_search_57 (N : Nat) (p0 : Int32) (p1 : Int32) (σ : aSt) : Option aSt :=
  f_ClassTable_search_57_l10 N N p0 p1 (f_Whole_quotient (σ.1 57 9).toInt64 p1.toInt64).toInt32 (0 : Int32) σ
set_option maxRecDepth 20000 in
set_option maxHeartbeats 4000000 in
theorem c_ClassTable_search_57 (d : Nat) {N : Nat} (p0 : Int32) (p1 : Int32) (σ : aSt) {P : Option Value → aSt → Prop} {x : aSt} (h : f_ClassTable_search_57 N p0 p1 σ = some x) (hp : P none x) : aCall MT (d + 4) 173 [.ref 57, .int p0, .int p1] σ P := by
  unfold f_ClassTable_search_57 at h
  refine call_of (code := mc_ClassTable_search) (L := [some (.ref 57), some (.int p0), some (.int p1), none, none, none, none, none, none]) rfl rfl rfl rfl ?_
  refine go_call (r := some (.long (f_Whole_quotient (σ.1 57 9).toInt64 p1.toInt64))) (σc := σ) (σ1 := σ) (mi := 97) (vs := [.long (σ.1 57 9).toInt64, .long p1.toInt64]) (k' := 6) (L' := [some (.ref 57), some (.int p0), some (.int p1), none, none, none, none, none, none]) (S' := []) 6 (fun P9 h9 => c_Whole_quotient (d + 2) (σ.1 57 9).toInt64 p1.toInt64 σ h9) (fun n h => h) ?_
  refine go_st (k' := 10) (L' := [some (.ref 57), some (.int p0), some (.int p1), some (.int (f_Whole_quotient (σ.1 57 9).toInt64 p1.toInt64).toInt32), some (.int (0 : Int32)), none, none, none, none]) (S' := []) (σ' := σ) 4 (fun n h => h) ?_
  exact t_ClassTable_search_57_l10 d hp N _ _ _ _ p0 p1 (f_Whole_quotient (σ.1 57 9).toInt64 p1.toInt64).toInt32 (0 : Int32) σ h
def f_ClassTable_isFound_57 (p0 : Int32) (σ : aSt) : Bool :=
  (if (f_pick σ 61 p0) < 0 then false else true)
set_option maxRecDepth 20000 in
set_option maxHeartbeats 4000000 in
theorem c_ClassTable_isFound_57 (d : Nat) (p0 : Int32) (σ : aSt) {P : Option Value → aSt → Prop} (h : P (some (.int (b2i ((f_ClassTable_isFound_57 p0 σ))))) σ) : aCall MT (d + 2) 174 [.ref 57, .int p0] σ P := by
  unfold f_ClassTable_isFound_57 at h
  refine call_of (code := mc_ClassTable_isFound) (L := [some (.ref 57), some (.int p0)]) rfl rfl rfl rfl ?_
  refine go_call (r := some (.int (f_pick σ 61 p0))) (σc := σ) (σ1 := σ) (mi := 9) (vs := [.ref 61, .int p0]) (k' := 4) (L' := [some (.ref 57), some (.int p0)]) (S' := []) 4 (fun P9 h9 => c_pick (d + 0) σ 61 rfl p0 h9) (fun n h => h) ?_
  refine go_if (c := (f_pick σ 61 p0) < 0) (k1 := 7) (L1 := [some (.ref 57), some (.int p0)]) (S1 := []) (σ1 := σ) (k2 := 5) (L2 := [some (.ref 57), some (.int p0)]) (S2 := []) (σ2 := σ) 1 (fun n h => h) (fun hc1 => ?_) (fun hc1 => ?_)
  · rw [if_pos hc1] at h
    exact go_ret 2 (fun _ => And.intro (Or.inl rfl) h)
  · rw [if_neg hc1] at h
    exact go_ret 3 (fun _ => And.intro (Or.inr rfl) h)
def f_ClassTable_mask_57 (p0 : Int32) (σ : aSt) : Int32 :=
  (if (irem p0 (2 : Int32)) ≠ 0 then ((f_pick σ 59 (p0 / (2 : Int32))) + (32 : Int32)) else ((f_pick σ 59 (p0 / (2 : Int32))) + (0 : Int32)))
set_option maxRecDepth 20000 in
set_option maxHeartbeats 4000000 in
theorem c_ClassTable_mask_57 (d : Nat) (p0 : Int32) (σ : aSt) {P : Option Value → aSt → Prop} (h : P (some (.int ((f_ClassTable_mask_57 p0 σ)))) σ) : aCall MT (d + 2) 175 [.ref 57, .int p0] σ P := by
  unfold f_ClassTable_mask_57 at h
  refine call_of (code := mc_ClassTable_mask) (L := [some (.ref 57), some (.int p0)]) rfl rfl rfl rfl ?_
  refine go_q (Q := ¬ (2 : Int32) = 0) (k' := 5) (L' := [some (.ref 57), some (.int p0)]) (S' := [.int (p0 / (2 : Int32)), .ref 59]) (σ' := σ) 5 (by decide) (fun n h => h) ?_
  refine go_call (r := some (.int (f_pick σ 59 (p0 / (2 : Int32))))) (σc := σ) (σ1 := σ) (mi := 9) (vs := [.ref 59, .int (p0 / (2 : Int32))]) (k' := 6) (L' := [some (.ref 57), some (.int p0)]) (S' := []) 1 (fun P9 h9 => c_pick (d + 0) σ 59 rfl (p0 / (2 : Int32)) h9) (fun n h => h) ?_
  refine go_q (Q := ¬ (2 : Int32) = 0) (k' := 9) (L' := [some (.ref 57), some (.int p0)]) (S' := [.int (irem p0 (2 : Int32)), .int (f_pick σ 59 (p0 / (2 : Int32)))]) (σ' := σ) 3 (by decide) (fun n h => h) ?_
  refine go_if (c := (irem p0 (2 : Int32)) ≠ 0) (k1 := 12) (L1 := [some (.ref 57), some (.int p0)]) (S1 := [.int (f_pick σ 59 (p0 / (2 : Int32)))]) (σ1 := σ) (k2 := 10) (L2 := [some (.ref 57), some (.int p0)]) (S2 := [.int (f_pick σ 59 (p0 / (2 : Int32)))]) (σ2 := σ) 1 (fun n h => h) (fun hc1 => ?_) (fun hc1 => ?_)
  · rw [if_pos hc1] at h
    exact go_ret 3 (fun _ => h)
  · rw [if_neg hc1] at h
    exact go_ret 4 (fun _ => h)
def f_ClassTable_makeProducts_57_l8 (N : Nat) : Nat → Int32 → Int32 → aSt → Option aSt
  | 0, _, _, _ => none
  | n + 1, v1, v2, σ => (if (64 : Int32) ≤ v2 then some σ else (if (f_pick σ 63 v2) = 0 then f_ClassTable_makeProducts_57_l8 N n v1 (v2 + (1 : Int32)) σ else (lt (f_store σ 63 (v2 ^^^ v1) (1 : Int32)) fun x4 => f_ClassTable_makeProducts_57_l8 N n v1 (v2 + (1 : Int32)) x4)))
set_option maxRecDepth 20000 in
set_option maxHeartbeats 4000000 in
theorem t_ClassTable_makeProducts_57_l8 (d : Nat) {N : Nat} {x : aSt} {P : Option Value → aSt → Prop} (hp : P none x) : ∀ (n : Nat) (v1 : Int32) (v2 : Int32) (σ : aSt), f_ClassTable_makeProducts_57_l8 N n v1 v2 σ = some x → aGo (aCall MT (d + 1)) P mc_ClassTable_makeProducts 8 [some (.ref 57), some (.int v1), some (.int v2)] [] σ := by
  intro n
  induction n with
  | zero => intro v1 v2 σ h; cases h
  | succ n ih =>
    intro v1 v2 σ h
    rw [f_ClassTable_makeProducts_57_l8] at h
    refine go_if (c := (64 : Int32) ≤ v2) (k1 := 25) (L1 := [some (.ref 57), some (.int v1), some (.int v2)]) (S1 := []) (σ1 := σ) (k2 := 11) (L2 := [some (.ref 57), some (.int v1), some (.int v2)]) (S2 := []) (σ2 := σ) 3 (fun n h => h) (fun hc2 => ?_) (fun hc2 => ?_)
    · rw [if_pos hc2] at h
      cases h
      exact go_ret 1 (fun _ => hp)
    · rw [if_neg hc2] at h
      refine go_call (r := some (.int (f_pick σ 63 v2))) (σc := σ) (σ1 := σ) (mi := 9) (vs := [.ref 63, .int v2]) (k' := 15) (L' := [some (.ref 57), some (.int v1), some (.int v2)]) (S' := []) 4 (fun P9 h9 => c_pick (d + 0) σ 63 rfl v2 h9) (fun n h => h) ?_
      refine go_if (c := (f_pick σ 63 v2) = 0) (k1 := 23) (L1 := [some (.ref 57), some (.int v1), some (.int v2)]) (S1 := []) (σ1 := σ) (k2 := 16) (L2 := [some (.ref 57), some (.int v1), some (.int v2)]) (S2 := []) (σ2 := σ) 1 (fun n h => h) (fun hc3 => ?_) (fun hc3 => ?_)
      · rw [if_pos hc3] at h
        refine go_st (k' := 8) (L' := [some (.ref 57), some (.int v1), some (.int (v2 + (1 : Int32)))]) (S' := []) (σ' := σ) 2 (fun n h => h) ?_
        exact ih v1 (v2 + (1 : Int32)) σ h
      · rw [if_neg hc3] at h
        obtain ⟨x4, hx4, h⟩ := lt_of h
        refine go_call (r := none) (σc := σ) (σ1 := x4) (mi := 1) (vs := [.ref 63, .int (v2 ^^^ v1), .int (1 : Int32)]) (k' := 23) (L' := [some (.ref 57), some (.int v1), some (.int v2)]) (S' := []) 7 (fun P9 h9 => c_store (d + 0) σ 63 rfl rfl (v2 ^^^ v1) (1 : Int32) (by rw [← hx4]; exact h9)) (fun n h => h) ?_
        refine go_st (k' := 8) (L' := [some (.ref 57), some (.int v1), some (.int (v2 + (1 : Int32)))]) (S' := []) (σ' := x4) 2 (fun n h => h) ?_
        exact ih v1 (v2 + (1 : Int32)) x4 h
def f_ClassTable_makeProducts_57 (N : Nat) (p0 : Int32) (σ : aSt) : Option aSt :=
  (if (f_pick σ 63 p0) = 0 then f_ClassTable_makeProducts_57_l8 N N p0 (0 : Int32) σ else some σ)
set_option maxRecDepth 20000 in
set_option maxHeartbeats 4000000 in
theorem c_ClassTable_makeProducts_57 (d : Nat) {N : Nat} (p0 : Int32) (σ : aSt) {P : Option Value → aSt → Prop} {x : aSt} (h : f_ClassTable_makeProducts_57 N p0 σ = some x) (hp : P none x) : aCall MT (d + 2) 176 [.ref 57, .int p0] σ P := by
  unfold f_ClassTable_makeProducts_57 at h
  refine call_of (code := mc_ClassTable_makeProducts) (L := [some (.ref 57), some (.int p0), none]) rfl rfl rfl rfl ?_
  refine go_call (r := some (.int (f_pick σ 63 p0))) (σc := σ) (σ1 := σ) (mi := 9) (vs := [.ref 63, .int p0]) (k' := 4) (L' := [some (.ref 57), some (.int p0), none]) (S' := []) 4 (fun P9 h9 => c_pick (d + 0) σ 63 rfl p0 h9) (fun n h => h) ?_
  refine go_if (c := (f_pick σ 63 p0) = 0) (k1 := 6) (L1 := [some (.ref 57), some (.int p0), none]) (S1 := []) (σ1 := σ) (k2 := 5) (L2 := [some (.ref 57), some (.int p0), none]) (S2 := []) (σ2 := σ) 1 (fun n h => h) (fun hc1 => ?_) (fun hc1 => ?_)
  · rw [if_pos hc1] at h
    refine go_st (k' := 8) (L' := [some (.ref 57), some (.int p0), some (.int (0 : Int32))]) (S' := []) (σ' := σ) 2 (fun n h => h) ?_
    exact t_ClassTable_makeProducts_57_l8 d hp N p0 (0 : Int32) σ h
  · rw [if_neg hc1] at h
    cases h
    exact go_ret 1 (fun _ => hp)
def f_ClassTable_judge_57_b16 (N : Nat) (v1 : Int32) (v2 : Int32) (v3 : Bool) (s1 : Int32) (s2 : Int32) (σ : aSt) : Option aSt :=
  (lt (f_store σ 60 s1 s2) fun x3 => (lt (f_store x3 61 v1 (-1 : Int32)) fun x4 => (if v3 = true then (lt (f_store x4 64 (2 : Int32) ((f_ClassTable_tally_57 (2 : Int32) x4) + (1 : Int32))) fun x6 => ((f_ClassTable_search_57 N v1 v2 x6).bind fun x7 => (if (f_ClassTable_isFound_57 v1 x7) = true then (lt (f_store x7 64 (1 : Int32) ((f_ClassTable_tally_57 (1 : Int32) x7) + (1 : Int32))) fun x9 => ((f_ClassTable_makeProducts_57 N (f_ClassTable_mask_57 v1 x9) x9).bind fun x10 => some x10)) else some x7))) else some x4)))
set_option maxRecDepth 20000 in
set_option maxHeartbeats 4000000 in
theorem t_ClassTable_judge_57_b16 (d : Nat) {N : Nat} (v1 : Int32) (v2 : Int32) (v3 : Bool) (s1 : Int32) (s2 : Int32) (σ : aSt) {P : Option Value → aSt → Prop} {x : aSt} (h : f_ClassTable_judge_57_b16 N v1 v2 v3 s1 s2 σ = some x) (hp : P none x) : aGo (aCall MT (d + 4)) P mc_ClassTable_judge 16 [some (.ref 57), some (.int v1), some (.int v2), some (.int (b2i v3))] [.int s2, .int s1, .ref 60] σ := by
  unfold f_ClassTable_judge_57_b16 at h
  obtain ⟨x3, hx3, h⟩ := lt_of h
  refine go_call (r := none) (σc := σ) (σ1 := x3) (mi := 1) (vs := [.ref 60, .int s1, .int s2]) (k' := 17) (L' := [some (.ref 57), some (.int v1), some (.int v2), some (.int (b2i v3))]) (S' := []) 1 (fun P9 h9 => c_store (d + 3) σ 60 rfl rfl s1 s2 (by rw [← hx3]; exact h9)) (fun n h => h) ?_
  obtain ⟨x4, hx4, h⟩ := lt_of h
  refine go_call (r := none) (σc := x3) (σ1 := x4) (mi := 1) (vs := [.ref 61, .int v1, .int (-1 : Int32)]) (k' := 22) (L' := [some (.ref 57), some (.int v1), some (.int v2), some (.int (b2i v3))]) (S' := []) 5 (fun P9 h9 => c_store (d + 3) x3 61 rfl rfl v1 (-1 : Int32) (by rw [← hx4]; exact h9)) (fun n h => h) ?_
  refine go_ifn (b := v3) (k1 := 25) (L1 := [some (.ref 57), some (.int v1), some (.int v2), some (.int (b2i v3))]) (S1 := []) (σ1 := x4) (k2 := 24) (L2 := [some (.ref 57), some (.int v1), some (.int v2), some (.int (b2i v3))]) (S2 := []) (σ2 := x4) 2 (fun n h => h) (fun hc5 => ?_) (fun hc5 => ?_)
  · rw [if_pos hc5] at h
    refine go_call (r := some (.int (f_ClassTable_tally_57 (2 : Int32) x4))) (σc := x4) (σ1 := x4) (mi := 172) (vs := [.ref 57, .int (2 : Int32)]) (k' := 31) (L' := [some (.ref 57), some (.int v1), some (.int v2), some (.int (b2i v3))]) (S' := [.int (2 : Int32), .ref 64]) 6 (fun P9 h9 => c_ClassTable_tally_57 (d + 2) (2 : Int32) x4 h9) (fun n h => h) ?_
    obtain ⟨x6, hx6, h⟩ := lt_of h
    refine go_call (r := none) (σc := x4) (σ1 := x6) (mi := 1) (vs := [.ref 64, .int (2 : Int32), .int ((f_ClassTable_tally_57 (2 : Int32) x4) + (1 : Int32))]) (k' := 34) (L' := [some (.ref 57), some (.int v1), some (.int v2), some (.int (b2i v3))]) (S' := []) 3 (fun P9 h9 => c_store (d + 3) x4 64 rfl rfl (2 : Int32) ((f_ClassTable_tally_57 (2 : Int32) x4) + (1 : Int32)) (by rw [← hx6]; exact h9)) (fun n h => h) ?_
    obtain ⟨x7, hx7, h⟩ := bind_of h
    refine go_call (r := none) (σc := x6) (σ1 := x7) (mi := 173) (vs := [.ref 57, .int v1, .int v2]) (k' := 38) (L' := [some (.ref 57), some (.int v1), some (.int v2), some (.int (b2i v3))]) (S' := []) 4 (fun P9 h9 => c_ClassTable_search_57 (d + 0) v1 v2 x6 hx7 h9) (fun n h => h) ?_
    refine go_call (r := some (.int (b2i (f_ClassTable_isFound_57 v1 x7)))) (σc := x7) (σ1 := x7) (mi := 174) (vs := [.ref 57, .int v1]) (k' := 41) (L' := [some (.ref 57), some (.int v1), some (.int v2), some (.int (b2i v3))]) (S' := []) 3 (fun P9 h9 => c_ClassTable_isFound_57 (d + 2) v1 x7 h9) (fun n h => h) ?_
    refine go_ifn (b := (f_ClassTable_isFound_57 v1 x7)) (k1 := 43) (L1 := [some (.ref 57), some (.int v1), some (.int v2), some (.int (b2i v3))]) (S1 := []) (σ1 := x7) (k2 := 42) (L2 := [some (.ref 57), some (.int v1), some (.int v2), some (.int (b2i v3))]) (S2 := []) (σ2 := x7) 1 (fun n h => h) (fun hc8 => ?_) (fun hc8 => ?_)
    · rw [if_pos hc8] at h
      refine go_call (r := some (.int (f_ClassTable_tally_57 (1 : Int32) x7))) (σc := x7) (σ1 := x7) (mi := 172) (vs := [.ref 57, .int (1 : Int32)]) (k' := 49) (L' := [some (.ref 57), some (.int v1), some (.int v2), some (.int (b2i v3))]) (S' := [.int (1 : Int32), .ref 64]) 6 (fun P9 h9 => c_ClassTable_tally_57 (d + 2) (1 : Int32) x7 h9) (fun n h => h) ?_
      obtain ⟨x9, hx9, h⟩ := lt_of h
      refine go_call (r := none) (σc := x7) (σ1 := x9) (mi := 1) (vs := [.ref 64, .int (1 : Int32), .int ((f_ClassTable_tally_57 (1 : Int32) x7) + (1 : Int32))]) (k' := 52) (L' := [some (.ref 57), some (.int v1), some (.int v2), some (.int (b2i v3))]) (S' := []) 3 (fun P9 h9 => c_store (d + 3) x7 64 rfl rfl (1 : Int32) ((f_ClassTable_tally_57 (1 : Int32) x7) + (1 : Int32)) (by rw [← hx9]; exact h9)) (fun n h => h) ?_
      refine go_call (r := some (.int (f_ClassTable_mask_57 v1 x9))) (σc := x9) (σ1 := x9) (mi := 175) (vs := [.ref 57, .int v1]) (k' := 56) (L' := [some (.ref 57), some (.int v1), some (.int v2), some (.int (b2i v3))]) (S' := [.ref 57]) 4 (fun P9 h9 => c_ClassTable_mask_57 (d + 2) v1 x9 h9) (fun n h => h) ?_
      obtain ⟨x10, hx10, h⟩ := bind_of h
      refine go_call (r := none) (σc := x9) (σ1 := x10) (mi := 176) (vs := [.ref 57, .int (f_ClassTable_mask_57 v1 x9)]) (k' := 57) (L' := [some (.ref 57), some (.int v1), some (.int v2), some (.int (b2i v3))]) (S' := []) 1 (fun P9 h9 => c_ClassTable_makeProducts_57 (d + 2) (f_ClassTable_mask_57 v1 x9) x9 hx10 h9) (fun n h => h) ?_
      cases h
      exact go_ret 1 (fun _ => hp)
    · rw [if_neg hc8] at h
      cases h
      exact go_ret 1 (fun _ => hp)
  · rw [if_neg hc5] at h
    cases h
    exact go_ret 1 (fun _ => hp)
def f_ClassTable_judge_57 (N : Nat) (p0 : Int32) (σ : aSt) : Option aSt :=
  ((f_ClassTable_mayBe_57 N (f_ClassTable_divisor_57 p0 σ) σ).bind fun x1 => (if x1 = true then f_ClassTable_judge_57_b16 N p0 (f_ClassTable_divisor_57 p0 σ) x1 p0 (1 : Int32) σ else f_ClassTable_judge_57_b16 N p0 (f_ClassTable_divisor_57 p0 σ) x1 p0 (0 : Int32) σ))
set_option maxRecDepth 20000 in
set_option maxHeartbeats 4000000 in
theorem c_ClassTable_judge_57 (d : Nat) {N : Nat} (p0 : Int32) (σ : aSt) {P : Option Value → aSt → Prop} {x : aSt} (h : f_ClassTable_judge_57 N p0 σ = some x) (hp : P none x) : aCall MT (d + 5) 177 [.ref 57, .int p0] σ P := by
  unfold f_ClassTable_judge_57 at h
  refine call_of (code := mc_ClassTable_judge) (L := [some (.ref 57), some (.int p0), none, none]) rfl rfl rfl rfl ?_
  refine go_call (r := some (.int (f_ClassTable_divisor_57 p0 σ))) (σc := σ) (σ1 := σ) (mi := 168) (vs := [.ref 57, .int p0]) (k' := 3) (L' := [some (.ref 57), some (.int p0), none, none]) (S' := []) 3 (fun P9 h9 => c_ClassTable_divisor_57 (d + 2) p0 σ h9) (fun n h => h) ?_
  obtain ⟨x1, hx1, h⟩ := bind_of h
  refine go_call (r := some (.int (b2i x1))) (σc := σ) (σ1 := σ) (mi := 171) (vs := [.ref 57, .int (f_ClassTable_divisor_57 p0 σ)]) (k' := 7) (L' := [some (.ref 57), some (.int p0), some (.int (f_ClassTable_divisor_57 p0 σ)), none]) (S' := []) 4 (fun P9 h9 => c_ClassTable_mayBe_57 (d + 1) (f_ClassTable_divisor_57 p0 σ) σ hx1 h9) (fun n h => h) ?_
  refine go_ifz (b := x1) (k1 := 15) (L1 := [some (.ref 57), some (.int p0), some (.int (f_ClassTable_divisor_57 p0 σ)), some (.int (b2i x1))]) (S1 := [.int p0, .ref 60]) (σ1 := σ) (k2 := 13) (L2 := [some (.ref 57), some (.int p0), some (.int (f_ClassTable_divisor_57 p0 σ)), some (.int (b2i x1))]) (S2 := [.int p0, .ref 60]) (σ2 := σ) 6 (fun n h => h) (fun hc2 => ?_) (fun hc2 => ?_)
  · rw [if_neg hc2] at h
    refine go_st (k' := 16) (L' := [some (.ref 57), some (.int p0), some (.int (f_ClassTable_divisor_57 p0 σ)), some (.int (b2i x1))]) (S' := [.int (0 : Int32), .int p0, .ref 60]) (σ' := σ) 1 (fun n h => h) ?_
    exact t_ClassTable_judge_57_b16 d p0 (f_ClassTable_divisor_57 p0 σ) x1 p0 (0 : Int32) σ h hp
  · rw [if_pos hc2] at h
    refine go_st (k' := 16) (L' := [some (.ref 57), some (.int p0), some (.int (f_ClassTable_divisor_57 p0 σ)), some (.int (b2i x1))]) (S' := [.int (1 : Int32), .int p0, .ref 60]) (σ' := σ) 2 (fun n h => h) ?_
    exact t_ClassTable_judge_57_b16 d p0 (f_ClassTable_divisor_57 p0 σ) x1 p0 (1 : Int32) σ h hp
def f_ClassTable_prepare_57_l51 (N : Nat) : Nat → Int32 → Int32 → Int32 → aSt → Option aSt
  | 0, _, _, _, _ => none
  | n + 1, v3, v5, v6, σ => (if v5 ≤ v6 then (lt (f_store σ 64 (0 : Int32) (f_ClassTable_size_57 σ)) fun x8 => (lt (f_store x8 64 (3 : Int32) v3) fun x9 => some x9)) else (if 0 ≤ v6 ∧ v6 < (64 : Int32) then f_ClassTable_prepare_57_l51 N n (v3 + (σ.1 63 v6.toNatClampNeg)) v5 (v6 + (1 : Int32)) σ else none))
set_option maxRecDepth 20000 in
set_option maxHeartbeats 4000000 in
theorem t_ClassTable_prepare_57_l51 (d : Nat) {N : Nat} {x : aSt} {P : Option Value → aSt → Prop} (hp : P none x) : ∀ (n : Nat) (d1 d2 d7 : Option Value) (v3 : Int32) (v5 : Int32) (v6 : Int32) (σ : aSt), f_ClassTable_prepare_57_l51 N n v3 v5 v6 σ = some x → aGo (aCall MT (d + 5)) P mc_ClassTable_prepare 51 [some (.ref 57), d1, d2, some (.int v3), some (.ref 63), some (.int v5), some (.int v6), d7] [] σ := by
  intro n
  induction n with
  | zero => intro d1 d2 d7 v3 v5 v6 σ h; cases h
  | succ n ih =>
    intro d1 d2 d7 v3 v5 v6 σ h
    rw [f_ClassTable_prepare_57_l51] at h
    refine go_if (c := v5 ≤ v6) (k1 := 64) (L1 := [some (.ref 57), d1, d2, some (.int v3), some (.ref 63), some (.int v5), some (.int v6), d7]) (S1 := []) (σ1 := σ) (k2 := 54) (L2 := [some (.ref 57), d1, d2, some (.int v3), some (.ref 63), some (.int v5), some (.int v6), d7]) (S2 := []) (σ2 := σ) 3 (fun n h => h) (fun hc7 => ?_) (fun hc7 => ?_)
    · rw [if_pos hc7] at h
      refine go_call (r := some (.int (f_ClassTable_size_57 σ))) (σc := σ) (σ1 := σ) (mi := 167) (vs := [.ref 57]) (k' := 69) (L' := [some (.ref 57), d1, d2, some (.int v3), some (.ref 63), some (.int v5), some (.int v6), d7]) (S' := [.int (0 : Int32), .ref 64]) 5 (fun P9 h9 => c_ClassTable_size_57 (d + 4) σ h9) (fun n h => h) ?_
      obtain ⟨x8, hx8, h⟩ := lt_of h
      refine go_call (r := none) (σc := σ) (σ1 := x8) (mi := 1) (vs := [.ref 64, .int (0 : Int32), .int (f_ClassTable_size_57 σ)]) (k' := 70) (L' := [some (.ref 57), d1, d2, some (.int v3), some (.ref 63), some (.int v5), some (.int v6), d7]) (S' := []) 1 (fun P9 h9 => c_store (d + 4) σ 64 rfl rfl (0 : Int32) (f_ClassTable_size_57 σ) (by rw [← hx8]; exact h9)) (fun n h => h) ?_
      obtain ⟨x9, hx9, h⟩ := lt_of h
      refine go_call (r := none) (σc := x8) (σ1 := x9) (mi := 1) (vs := [.ref 64, .int (3 : Int32), .int v3]) (k' := 75) (L' := [some (.ref 57), d1, d2, some (.int v3), some (.ref 63), some (.int v5), some (.int v6), d7]) (S' := []) 5 (fun P9 h9 => c_store (d + 4) x8 64 rfl rfl (3 : Int32) v3 (by rw [← hx9]; exact h9)) (fun n h => h) ?_
      cases h
      exact go_ret 1 (fun _ => hp)
    · rw [if_neg hc7] at h
      obtain ⟨hc10, h⟩ := ite_of h
      refine go_q (Q := inb 0 σ 63 v6) (k' := 57) (L' := [some (.ref 57), d1, d2, some (.int v3), some (.ref 63), some (.int v5), some (.int v6), d7]) (S' := [.int (σ.1 63 v6.toNatClampNeg)]) (σ' := σ) 3 (inb_mk rfl hc10.1 hc10.2) (fun n h => h) ?_
      refine go_st (k' := 51) (L' := [some (.ref 57), d1, none, some (.int (v3 + (σ.1 63 v6.toNatClampNeg))), some (.ref 63), some (.int v5), some (.int (v6 + (1 : Int32))), some (.int (σ.1 63 v6.toNatClampNeg))]) (S' := []) (σ' := σ) 7 (fun n h => h) ?_
      exact ih _ _ _ (v3 + (σ.1 63 v6.toNatClampNeg)) v5 (v6 + (1 : Int32)) σ h
def f_ClassTable_prepare_57_l32 (N : Nat) : Nat → Int32 → aSt → Option aSt
  | 0, _, _ => none
  | n + 1, v3, σ => (if (f_ClassTable_size_57 σ) ≤ v3 then f_ClassTable_prepare_57_l51 N N (0 : Int32) (64 : Int32) (0 : Int32) σ else ((f_ClassTable_judge_57 N v3 σ).bind fun x11 => f_ClassTable_prepare_57_l32 N n (v3 + (1 : Int32)) x11))
set_option maxRecDepth 20000 in
set_option maxHeartbeats 4000000 in
theorem t_ClassTable_prepare_57_l32 (d : Nat) {N : Nat} {x : aSt} {P : Option Value → aSt → Prop} (hp : P none x) : ∀ (n : Nat) (d1 d2 d4 d5 d6 d7 : Option Value) (v3 : Int32) (σ : aSt), f_ClassTable_prepare_57_l32 N n v3 σ = some x → aGo (aCall MT (d + 5)) P mc_ClassTable_prepare 32 [some (.ref 57), d1, d2, some (.int v3), d4, d5, d6, d7] [] σ := by
  intro n
  induction n with
  | zero => intro d1 d2 d4 d5 d6 d7 v3 σ h; cases h
  | succ n ih =>
    intro d1 d2 d4 d5 d6 d7 v3 σ h
    rw [f_ClassTable_prepare_57_l32] at h
    refine go_call (r := some (.int (f_ClassTable_size_57 σ))) (σc := σ) (σ1 := σ) (mi := 167) (vs := [.ref 57]) (k' := 35) (L' := [some (.ref 57), d1, d2, some (.int v3), d4, d5, d6, d7]) (S' := [.int v3]) 3 (fun P9 h9 => c_ClassTable_size_57 (d + 4) σ h9) (fun n h => h) ?_
    refine go_if (c := (f_ClassTable_size_57 σ) ≤ v3) (k1 := 41) (L1 := [some (.ref 57), d1, d2, some (.int v3), d4, d5, d6, d7]) (S1 := []) (σ1 := σ) (k2 := 36) (L2 := [some (.ref 57), d1, d2, some (.int v3), d4, d5, d6, d7]) (S2 := []) (σ2 := σ) 1 (fun n h => h) (fun hc6 => ?_) (fun hc6 => ?_)
    · rw [if_pos hc6] at h
      refine go_st (k' := 51) (L' := [some (.ref 57), d1, none, some (.int (0 : Int32)), some (.ref 63), some (.int (64 : Int32)), some (.int (0 : Int32)), d7]) (S' := []) (σ' := σ) 10 (fun n h => h) ?_
      exact t_ClassTable_prepare_57_l51 d hp N _ _ _ (0 : Int32) (64 : Int32) (0 : Int32) σ h
    · rw [if_neg hc6] at h
      obtain ⟨x11, hx11, h⟩ := bind_of h
      refine go_call (r := none) (σc := σ) (σ1 := x11) (mi := 177) (vs := [.ref 57, .int v3]) (k' := 39) (L' := [some (.ref 57), d1, d2, some (.int v3), d4, d5, d6, d7]) (S' := []) 3 (fun P9 h9 => c_ClassTable_judge_57 (d + 0) v3 σ hx11 h9) (fun n h => h) ?_
      refine go_st (k' := 32) (L' := [some (.ref 57), d1, d2, some (.int (v3 + (1 : Int32))), d4, d5, d6, d7]) (S' := []) (σ' := x11) 2 (fun n h => h) ?_
      exact ih _ _ _ _ _ _ (v3 + (1 : Int32)) x11 h
def f_ClassTable_prepare_57_b9 (N : Nat) (v1 : Int32) (v2 : Int32) (σ : aSt) : Option aSt :=
  ((f_ClassTable_gatherDivisors_57 N (s_i (s_i σ 57 8 v1) 57 9 v2)).bind fun x2 => (lt (f_fill x2 64 (0 : Int32)) fun x3 => (lt (f_fill x3 63 (0 : Int32)) fun x4 => (lt (f_store x4 63 (0 : Int32) (1 : Int32)) fun x5 => f_ClassTable_prepare_57_l32 N N (0 : Int32) x5))))
set_option maxRecDepth 20000 in
set_option maxHeartbeats 4000000 in
theorem t_ClassTable_prepare_57_b9 (d : Nat) {N : Nat} (d3 d4 d5 d6 d7 : Option Value) (v1 : Int32) (v2 : Int32) (σ : aSt) {P : Option Value → aSt → Prop} {x : aSt} (h : f_ClassTable_prepare_57_b9 N v1 v2 σ = some x) (hp : P none x) : aGo (aCall MT (d + 5)) P mc_ClassTable_prepare 9 [some (.ref 57), some (.int v1), some (.int v2), d3, d4, d5, d6, d7] [] σ := by
  unfold f_ClassTable_prepare_57_b9 at h
  obtain ⟨x2, hx2, h⟩ := bind_of h
  refine go_call (r := none) (σc := (s_i (s_i σ 57 8 v1) 57 9 v2)) (σ1 := x2) (mi := 166) (vs := [.ref 57]) (k' := 17) (L' := [some (.ref 57), some (.int v1), some (.int v2), d3, d4, d5, d6, d7]) (S' := []) 8 (fun P9 h9 => c_ClassTable_gatherDivisors_57 (d + 1) (s_i (s_i σ 57 8 v1) 57 9 v2) hx2 h9) (fun n h => h) ?_
  obtain ⟨x3, hx3, h⟩ := lt_of h
  refine go_call (r := none) (σc := x2) (σ1 := x3) (mi := 28) (vs := [.ref 64, .int (0 : Int32)]) (k' := 21) (L' := [some (.ref 57), some (.int v1), some (.int v2), d3, d4, d5, d6, d7]) (S' := []) 4 (fun P9 h9 => c_fill (d + 4) x2 64 rfl rfl (0 : Int32) (by rw [← hx3]; exact h9)) (fun n h => h) ?_
  obtain ⟨x4, hx4, h⟩ := lt_of h
  refine go_call (r := none) (σc := x3) (σ1 := x4) (mi := 28) (vs := [.ref 63, .int (0 : Int32)]) (k' := 25) (L' := [some (.ref 57), some (.int v1), some (.int v2), d3, d4, d5, d6, d7]) (S' := []) 4 (fun P9 h9 => c_fill (d + 4) x3 63 rfl rfl (0 : Int32) (by rw [← hx4]; exact h9)) (fun n h => h) ?_
  obtain ⟨x5, hx5, h⟩ := lt_of h
  refine go_call (r := none) (σc := x4) (σ1 := x5) (mi := 1) (vs := [.ref 63, .int (0 : Int32), .int (1 : Int32)]) (k' := 30) (L' := [some (.ref 57), some (.int v1), some (.int v2), d3, d4, d5, d6, d7]) (S' := []) 5 (fun P9 h9 => c_store (d + 4) x4 63 rfl rfl (0 : Int32) (1 : Int32) (by rw [← hx5]; exact h9)) (fun n h => h) ?_
  refine go_st (k' := 32) (L' := [some (.ref 57), some (.int v1), none, some (.int (0 : Int32)), d4, d5, d6, d7]) (S' := []) (σ' := x5) 2 (fun n h => h) ?_
  exact t_ClassTable_prepare_57_l32 d hp N _ _ _ _ _ _ (0 : Int32) x5 h
def f_ClassTable_prepare_57 (N : Nat) (p0 : Int32) (p1 : Int32) (σ : aSt) : Option aSt :=
  (if p0 ≠ (σ.1 57 8) then f_ClassTable_prepare_57_b9 N p0 p1 σ else (if p1 ≠ (σ.1 57 9) then f_ClassTable_prepare_57_b9 N p0 p1 σ else some σ))
set_option maxRecDepth 20000 in
set_option maxHeartbeats 4000000 in
theorem c_ClassTable_prepare_57 (d : Nat) {N : Nat} (p0 : Int32) (p1 : Int32) (σ : aSt) {P : Option Value → aSt → Prop} {x : aSt} (h : f_ClassTable_prepare_57 N p0 p1 σ = some x) (hp : P none x) : aCall MT (d + 6) 178 [.ref 57, .int p0, .int p1] σ P := by
  unfold f_ClassTable_prepare_57 at h
  refine call_of (code := mc_ClassTable_prepare) (L := [some (.ref 57), some (.int p0), some (.int p1), none, none, none, none, none]) rfl rfl rfl rfl ?_
  refine go_if (c := p0 ≠ (σ.1 57 8)) (k1 := 9) (L1 := [some (.ref 57), some (.int p0), some (.int p1), none, none, none, none, none]) (S1 := []) (σ1 := σ) (k2 := 4) (L2 := [some (.ref 57), some (.int p0), some (.int p1), none, none, none, none, none]) (S2 := []) (σ2 := σ) 4 (fun n h => h) (fun hc1 => ?_) (fun hc1 => ?_)
  · rw [if_pos hc1] at h
    exact t_ClassTable_prepare_57_b9 d _ _ _ _ _ p0 p1 σ h hp
  · rw [if_neg hc1] at h
    refine go_if (c := p1 ≠ (σ.1 57 9)) (k1 := 9) (L1 := [some (.ref 57), some (.int p0), some (.int p1), none, none, none, none, none]) (S1 := []) (σ1 := σ) (k2 := 8) (L2 := [some (.ref 57), some (.int p0), some (.int p1), none, none, none, none, none]) (S2 := []) (σ2 := σ) 4 (fun n h => h) (fun hc12 => ?_) (fun hc12 => ?_)
    · rw [if_pos hc12] at h
      exact t_ClassTable_prepare_57_b9 d _ _ _ _ _ p0 p1 σ h hp
    · rw [if_neg hc12] at h
      cases h
      exact go_ret 1 (fun _ => hp)
def f_ClassTable_halvings_57 (p0 : Int32) (σ : aSt) : Int32 :=
  (imax (0 : Int32) ((f_Whole_digits (f_ClassTable_tally_57 p0 σ).toInt64) - (1 : Int32)))
set_option maxRecDepth 20000 in
set_option maxHeartbeats 4000000 in
theorem c_ClassTable_halvings_57 (d : Nat) (p0 : Int32) (σ : aSt) {P : Option Value → aSt → Prop} (h : P (some (.int ((f_ClassTable_halvings_57 p0 σ)))) σ) : aCall MT (d + 4) 200 [.ref 57, .int p0] σ P := by
  unfold f_ClassTable_halvings_57 at h
  refine call_of (code := mc_ClassTable_halvings) (L := [some (.ref 57), some (.int p0)]) rfl rfl rfl rfl ?_
  refine go_call (r := some (.int (f_ClassTable_tally_57 p0 σ))) (σc := σ) (σ1 := σ) (mi := 172) (vs := [.ref 57, .int p0]) (k' := 4) (L' := [some (.ref 57), some (.int p0)]) (S' := [.int (0 : Int32)]) 4 (fun P9 h9 => c_ClassTable_tally_57 (d + 1) p0 σ h9) (fun n h => h) ?_
  refine go_call (r := some (.int (f_Whole_digits (f_ClassTable_tally_57 p0 σ).toInt64))) (σc := σ) (σ1 := σ) (mi := 199) (vs := [.long (f_ClassTable_tally_57 p0 σ).toInt64]) (k' := 6) (L' := [some (.ref 57), some (.int p0)]) (S' := [.int (0 : Int32)]) 2 (fun P9 h9 => c_Whole_digits (d + 0) (f_ClassTable_tally_57 p0 σ).toInt64 σ h9) (fun n h => h) ?_
  exact go_ret 4 (fun _ => h)
def f_X_fillTurnRanks_l2 (N : Nat) : Nat → Int32 → aSt → Option aSt
  | 0, _, _ => none
  | n + 1, v1, σ => (if (19 : Int32) ≤ v1 then some (s_b σ 0 15 true) else (if 0 ≤ v1 ∧ v1 < (19 : Int32) then (if (v1 - (9 : Int32)) = 0 then f_X_fillTurnRanks_l2 N n (v1 + (1 : Int32)) (s_i σ 65 v1.toNatClampNeg (-1 : Int32)) else (if (f_X_inBounds ((f_PointList_a_11 σ) * (v1 - (9 : Int32))) (((f_PointList_b_11 σ) * (v1 - (9 : Int32))) * (v1 - (9 : Int32)))) = true then ((f_ClassTable_prepare_57 N ((f_PointList_a_11 σ) * (v1 - (9 : Int32))) (((f_PointList_b_11 σ) * (v1 - (9 : Int32))) * (v1 - (9 : Int32))) (s_i σ 65 v1.toNatClampNeg (-1 : Int32))).bind fun x5 => ((f_ClassTable_prepare_57 N ((-2 : Int32) * ((f_PointList_a_11 σ) * (v1 - (9 : Int32)))) ((((f_PointList_a_11 σ) * (v1 - (9 : Int32))) * ((f_PointList_a_11 σ) * (v1 - (9 : Int32)))) - ((4 : Int32) * (((f_PointList_b_11 σ) * (v1 - (9 : Int32))) * (v1 - (9 : Int32))))) x5).bind fun x6 => f_X_fillTurnRanks_l2 N n (v1 + (1 : Int32)) (s_i x6 65 v1.toNatClampNeg (imax (0 : Int32) (((f_ClassTable_halvings_57 (3 : Int32) x5) + (f_ClassTable_halvings_57 (3 : Int32) x6)) - (2 : Int32)))))) else f_X_fillTurnRanks_l2 N n (v1 + (1 : Int32)) (s_i σ 65 v1.toNatClampNeg (-1 : Int32)))) else none))
set_option maxRecDepth 20000 in
set_option maxHeartbeats 4000000 in
theorem t_X_fillTurnRanks_l2 (d : Nat) {N : Nat} {x : aSt} {P : Option Value → aSt → Prop} (hp : P none x) : ∀ (n : Nat) (d2 d3 d4 d5 : Option Value) (v1 : Int32) (σ : aSt), f_X_fillTurnRanks_l2 N n v1 σ = some x → aGo (aCall MT (d + 6)) P mc_X_fillTurnRanks 2 [some (.ref 0), some (.int v1), d2, d3, d4, d5] [] σ := by
  intro n
  induction n with
  | zero => intro d2 d3 d4 d5 v1 σ h; cases h
  | succ n ih =>
    intro d2 d3 d4 d5 v1 σ h
    rw [f_X_fillTurnRanks_l2] at h
    refine go_if (c := (19 : Int32) ≤ v1) (k1 := 76) (L1 := [some (.ref 0), some (.int v1), d2, d3, d4, d5]) (S1 := []) (σ1 := σ) (k2 := 7) (L2 := [some (.ref 0), some (.int v1), d2, d3, d4, d5]) (S2 := []) (σ2 := σ) 5 (fun n h => h) (fun hc1 => ?_) (fun hc1 => ?_)
    · rw [if_pos hc1] at h
      refine go_q (Q := (1 : Int32) = 0 ∨ (1 : Int32) = 1) (k' := 79) (L' := [some (.ref 0), some (.int v1), d2, d3, d4, d5]) (S' := []) (σ' := (s_b σ 0 15 true)) 3 (Or.inr rfl) (fun n h => h) ?_
      cases h
      exact go_ret 1 (fun _ => hp)
    · rw [if_neg hc1] at h
      refine go_call (r := some (.int (f_PointList_a_11 σ))) (σc := σ) (σ1 := σ) (mi := 26) (vs := [.ref 11]) (k' := 14) (L' := [some (.ref 0), some (.int v1), some (.int (v1 - (9 : Int32))), d3, d4, d5]) (S' := []) 7 (fun P9 h9 => c_PointList_a_11 (d + 5) σ h9) (fun n h => h) ?_
      refine go_call (r := some (.int (f_PointList_b_11 σ))) (σc := σ) (σ1 := σ) (mi := 27) (vs := [.ref 11]) (k' := 20) (L' := [some (.ref 0), some (.int v1), some (.int (v1 - (9 : Int32))), some (.int ((f_PointList_a_11 σ) * (v1 - (9 : Int32)))), d4, d5]) (S' := []) 6 (fun P9 h9 => c_PointList_b_11 (d + 5) σ h9) (fun n h => h) ?_
      obtain ⟨hc2, h⟩ := ite_of h
      refine go_q (Q := inb 0 σ 65 v1) (k' := 30) (L' := [some (.ref 0), some (.int v1), some (.int (v1 - (9 : Int32))), some (.int ((f_PointList_a_11 σ) * (v1 - (9 : Int32)))), some (.int (((f_PointList_b_11 σ) * (v1 - (9 : Int32))) * (v1 - (9 : Int32)))), d5]) (S' := []) (σ' := (s_i σ 65 v1.toNatClampNeg (-1 : Int32))) 10 (inb_mk rfl hc2.1 hc2.2) (fun n h => h) ?_
      refine go_if (c := (v1 - (9 : Int32)) = 0) (k1 := 74) (L1 := [some (.ref 0), some (.int v1), some (.int (v1 - (9 : Int32))), some (.int ((f_PointList_a_11 σ) * (v1 - (9 : Int32)))), some (.int (((f_PointList_b_11 σ) * (v1 - (9 : Int32))) * (v1 - (9 : Int32)))), d5]) (S1 := []) (σ1 := (s_i σ 65 v1.toNatClampNeg (-1 : Int32))) (k2 := 32) (L2 := [some (.ref 0), some (.int v1), some (.int (v1 - (9 : Int32))), some (.int ((f_PointList_a_11 σ) * (v1 - (9 : Int32)))), some (.int (((f_PointList_b_11 σ) * (v1 - (9 : Int32))) * (v1 - (9 : Int32)))), d5]) (S2 := []) (σ2 := (s_i σ 65 v1.toNatClampNeg (-1 : Int32))) 2 (fun n h => h) (fun hc3 => ?_) (fun hc3 => ?_)
      · rw [if_pos hc3] at h
        refine go_st (k' := 2) (L' := [some (.ref 0), some (.int (v1 + (1 : Int32))), some (.int (v1 - (9 : Int32))), some (.int ((f_PointList_a_11 σ) * (v1 - (9 : Int32)))), some (.int (((f_PointList_b_11 σ) * (v1 - (9 : Int32))) * (v1 - (9 : Int32)))), d5]) (S' := []) (σ' := (s_i σ 65 v1.toNatClampNeg (-1 : Int32))) 2 (fun n h => h) ?_
        exact ih _ _ _ _ (v1 + (1 : Int32)) (s_i σ 65 v1.toNatClampNeg (-1 : Int32)) h
      · rw [if_neg hc3] at h
        refine go_call (r := some (.int (b2i (f_X_inBounds ((f_PointList_a_11 σ) * (v1 - (9 : Int32))) (((f_PointList_b_11 σ) * (v1 - (9 : Int32))) * (v1 - (9 : Int32))))))) (σc := (s_i σ 65 v1.toNatClampNeg (-1 : Int32))) (σ1 := (s_i σ 65 v1.toNatClampNeg (-1 : Int32))) (mi := 245) (vs := [.int ((f_PointList_a_11 σ) * (v1 - (9 : Int32))), .int (((f_PointList_b_11 σ) * (v1 - (9 : Int32))) * (v1 - (9 : Int32)))]) (k' := 35) (L' := [some (.ref 0), some (.int v1), some (.int (v1 - (9 : Int32))), some (.int ((f_PointList_a_11 σ) * (v1 - (9 : Int32)))), some (.int (((f_PointList_b_11 σ) * (v1 - (9 : Int32))) * (v1 - (9 : Int32)))), d5]) (S' := []) 3 (fun P9 h9 => c_X_inBounds (d + 5) ((f_PointList_a_11 σ) * (v1 - (9 : Int32))) (((f_PointList_b_11 σ) * (v1 - (9 : Int32))) * (v1 - (9 : Int32))) (s_i σ 65 v1.toNatClampNeg (-1 : Int32)) h9) (fun n h => h) ?_
        refine go_ifn (b := (f_X_inBounds ((f_PointList_a_11 σ) * (v1 - (9 : Int32))) (((f_PointList_b_11 σ) * (v1 - (9 : Int32))) * (v1 - (9 : Int32))))) (k1 := 37) (L1 := [some (.ref 0), some (.int v1), some (.int (v1 - (9 : Int32))), some (.int ((f_PointList_a_11 σ) * (v1 - (9 : Int32)))), some (.int (((f_PointList_b_11 σ) * (v1 - (9 : Int32))) * (v1 - (9 : Int32)))), d5]) (S1 := []) (σ1 := (s_i σ 65 v1.toNatClampNeg (-1 : Int32))) (k2 := 36) (L2 := [some (.ref 0), some (.int v1), some (.int (v1 - (9 : Int32))), some (.int ((f_PointList_a_11 σ) * (v1 - (9 : Int32)))), some (.int (((f_PointList_b_11 σ) * (v1 - (9 : Int32))) * (v1 - (9 : Int32)))), d5]) (S2 := []) (σ2 := (s_i σ 65 v1.toNatClampNeg (-1 : Int32))) 1 (fun n h => h) (fun hc4 => ?_) (fun hc4 => ?_)
        · rw [if_pos hc4] at h
          obtain ⟨x5, hx5, h⟩ := bind_of h
          refine go_call (r := none) (σc := (s_i σ 65 v1.toNatClampNeg (-1 : Int32))) (σ1 := x5) (mi := 178) (vs := [.ref 57, .int ((f_PointList_a_11 σ) * (v1 - (9 : Int32))), .int (((f_PointList_b_11 σ) * (v1 - (9 : Int32))) * (v1 - (9 : Int32)))]) (k' := 42) (L' := [some (.ref 0), some (.int v1), some (.int (v1 - (9 : Int32))), some (.int ((f_PointList_a_11 σ) * (v1 - (9 : Int32)))), some (.int (((f_PointList_b_11 σ) * (v1 - (9 : Int32))) * (v1 - (9 : Int32)))), d5]) (S' := []) 5 (fun P9 h9 => c_ClassTable_prepare_57 (d + 0) ((f_PointList_a_11 σ) * (v1 - (9 : Int32))) (((f_PointList_b_11 σ) * (v1 - (9 : Int32))) * (v1 - (9 : Int32))) (s_i σ 65 v1.toNatClampNeg (-1 : Int32)) hx5 h9) (fun n h => h) ?_
          refine go_call (r := some (.int (f_ClassTable_halvings_57 (3 : Int32) x5))) (σc := x5) (σ1 := x5) (mi := 200) (vs := [.ref 57, .int (3 : Int32)]) (k' := 46) (L' := [some (.ref 0), some (.int v1), some (.int (v1 - (9 : Int32))), some (.int ((f_PointList_a_11 σ) * (v1 - (9 : Int32)))), some (.int (((f_PointList_b_11 σ) * (v1 - (9 : Int32))) * (v1 - (9 : Int32)))), d5]) (S' := []) 4 (fun P9 h9 => c_ClassTable_halvings_57 (d + 2) (3 : Int32) x5 h9) (fun n h => h) ?_
          obtain ⟨x6, hx6, h⟩ := bind_of h
          refine go_call (r := none) (σc := x5) (σ1 := x6) (mi := 178) (vs := [.ref 57, .int ((-2 : Int32) * ((f_PointList_a_11 σ) * (v1 - (9 : Int32)))), .int ((((f_PointList_a_11 σ) * (v1 - (9 : Int32))) * ((f_PointList_a_11 σ) * (v1 - (9 : Int32)))) - ((4 : Int32) * (((f_PointList_b_11 σ) * (v1 - (9 : Int32))) * (v1 - (9 : Int32)))))]) (k' := 60) (L' := [some (.ref 0), some (.int v1), some (.int (v1 - (9 : Int32))), some (.int ((f_PointList_a_11 σ) * (v1 - (9 : Int32)))), some (.int (((f_PointList_b_11 σ) * (v1 - (9 : Int32))) * (v1 - (9 : Int32)))), some (.int (f_ClassTable_halvings_57 (3 : Int32) x5))]) (S' := []) 14 (fun P9 h9 => c_ClassTable_prepare_57 (d + 0) ((-2 : Int32) * ((f_PointList_a_11 σ) * (v1 - (9 : Int32)))) ((((f_PointList_a_11 σ) * (v1 - (9 : Int32))) * ((f_PointList_a_11 σ) * (v1 - (9 : Int32)))) - ((4 : Int32) * (((f_PointList_b_11 σ) * (v1 - (9 : Int32))) * (v1 - (9 : Int32))))) x5 hx6 h9) (fun n h => h) ?_
          refine go_call (r := some (.int (f_ClassTable_halvings_57 (3 : Int32) x6))) (σc := x6) (σ1 := x6) (mi := 200) (vs := [.ref 57, .int (3 : Int32)]) (k' := 69) (L' := [some (.ref 0), some (.int v1), some (.int (v1 - (9 : Int32))), some (.int ((f_PointList_a_11 σ) * (v1 - (9 : Int32)))), some (.int (((f_PointList_b_11 σ) * (v1 - (9 : Int32))) * (v1 - (9 : Int32)))), some (.int (f_ClassTable_halvings_57 (3 : Int32) x5))]) (S' := [.int (f_ClassTable_halvings_57 (3 : Int32) x5), .int (0 : Int32), .int v1, .ref 65]) 9 (fun P9 h9 => c_ClassTable_halvings_57 (d + 2) (3 : Int32) x6 h9) (fun n h => h) ?_
          refine go_q (Q := inb 0 x6 65 v1) (k' := 74) (L' := [some (.ref 0), some (.int v1), some (.int (v1 - (9 : Int32))), some (.int ((f_PointList_a_11 σ) * (v1 - (9 : Int32)))), some (.int (((f_PointList_b_11 σ) * (v1 - (9 : Int32))) * (v1 - (9 : Int32)))), some (.int (f_ClassTable_halvings_57 (3 : Int32) x5))]) (S' := []) (σ' := (s_i x6 65 v1.toNatClampNeg (imax (0 : Int32) (((f_ClassTable_halvings_57 (3 : Int32) x5) + (f_ClassTable_halvings_57 (3 : Int32) x6)) - (2 : Int32))))) 5 (inb_mk rfl hc2.1 hc2.2) (fun n h => h) ?_
          refine go_st (k' := 2) (L' := [some (.ref 0), some (.int (v1 + (1 : Int32))), some (.int (v1 - (9 : Int32))), some (.int ((f_PointList_a_11 σ) * (v1 - (9 : Int32)))), some (.int (((f_PointList_b_11 σ) * (v1 - (9 : Int32))) * (v1 - (9 : Int32)))), some (.int (f_ClassTable_halvings_57 (3 : Int32) x5))]) (S' := []) (σ' := (s_i x6 65 v1.toNatClampNeg (imax (0 : Int32) (((f_ClassTable_halvings_57 (3 : Int32) x5) + (f_ClassTable_halvings_57 (3 : Int32) x6)) - (2 : Int32))))) 2 (fun n h => h) ?_
          exact ih _ _ _ _ (v1 + (1 : Int32)) (s_i x6 65 v1.toNatClampNeg (imax (0 : Int32) (((f_ClassTable_halvings_57 (3 : Int32) x5) + (f_ClassTable_halvings_57 (3 : Int32) x6)) - (2 : Int32)))) h
        · rw [if_neg hc4] at h
          refine go_st (k' := 2) (L' := [some (.ref 0), some (.int (v1 + (1 : Int32))), some (.int (v1 - (9 : Int32))), some (.int ((f_PointList_a_11 σ) * (v1 - (9 : Int32)))), some (.int (((f_PointList_b_11 σ) * (v1 - (9 : Int32))) * (v1 - (9 : Int32)))), d5]) (S' := []) (σ' := (s_i σ 65 v1.toNatClampNeg (-1 : Int32))) 3 (fun n h => h) ?_
          exact ih _ _ _ _ (v1 + (1 : Int32)) (s_i σ 65 v1.toNatClampNeg (-1 : Int32)) h
def f_X_fillTurnRanks (N : Nat) (σ : aSt) : Option aSt :=
  f_X_fillTurnRanks_l2 N N (0 : Int32) σ
set_option maxRecDepth 20000 in
set_option maxHeartbeats 4000000 in
theorem c_X_fillTurnRanks (d : Nat) {N : Nat} (σ : aSt) {P : Option Value → aSt → Prop} {x : aSt} (h : f_X_fillTurnRanks N σ = some x) (hp : P none x) : aCall MT (d + 7) 343 [.ref 0] σ P := by
  unfold f_X_fillTurnRanks at h
  refine call_of (code := mc_X_fillTurnRanks) (L := [some (.ref 0), none, none, none, none, none]) rfl rfl rfl rfl ?_
  refine go_st (k' := 2) (L' := [some (.ref 0), some (.int (0 : Int32)), none, none, none, none]) (S' := []) (σ' := σ) 2 (fun n h => h) ?_
  exact t_X_fillTurnRanks_l2 d hp N _ _ _ _ (0 : Int32) σ h
def f_X_turnsRank_l19 (N : Nat) : Nat → Int32 → Int32 → Int32 → aSt → Option (Int32 × aSt)
  | 0, _, _, _, _ => none
  | n + 1, v1, v2, v3, σ => (if (19 : Int32) ≤ v3 then some (v2, σ) else (if 0 ≤ v3 ∧ v3 < (19 : Int32) then (if (σ.1 65 v3.toNatClampNeg) < v1 then f_X_turnsRank_l19 N n v1 v2 (v3 + (1 : Int32)) σ else f_X_turnsRank_l19 N n v1 (v2 ||| ((1 : Int32) <<< (v3 &&& 31))) (v3 + (1 : Int32)) σ) else none))
set_option maxRecDepth 20000 in
set_option maxHeartbeats 4000000 in
theorem t_X_turnsRank_l19 (d : Nat) {N : Nat} {x : (Int32 × aSt)} {P : Option Value → aSt → Prop} (hp : P (some (.int x.1)) x.2) : ∀ (n : Nat) (v1 : Int32) (v2 : Int32) (v3 : Int32) (σ : aSt), f_X_turnsRank_l19 N n v1 v2 v3 σ = some x → aGo (aCall MT (d + 7)) P mc_X_turnsRank 19 [some (.ref 0), some (.int v1), some (.int v2), some (.int v3)] [] σ := by
  intro n
  induction n with
  | zero => intro v1 v2 v3 σ h; cases h
  | succ n ih =>
    intro v1 v2 v3 σ h
    rw [f_X_turnsRank_l19] at h
    refine go_if (c := (19 : Int32) ≤ v3) (k1 := 38) (L1 := [some (.ref 0), some (.int v1), some (.int v2), some (.int v3)]) (S1 := []) (σ1 := σ) (k2 := 24) (L2 := [some (.ref 0), some (.int v1), some (.int v2), some (.int v3)]) (S2 := []) (σ2 := σ) 5 (fun n h => h) (fun hc5 => ?_) (fun hc5 => ?_)
    · rw [if_pos hc5] at h
      cases h
      exact go_ret 2 (fun _ => hp)
    · rw [if_neg hc5] at h
      obtain ⟨hc6, h⟩ := ite_of h
      refine go_q (Q := inb 0 σ 65 v3) (k' := 28) (L' := [some (.ref 0), some (.int v1), some (.int v2), some (.int v3)]) (S' := [.int (σ.1 65 v3.toNatClampNeg)]) (σ' := σ) 4 (inb_mk rfl hc6.1 hc6.2) (fun n h => h) ?_
      refine go_if (c := (σ.1 65 v3.toNatClampNeg) < v1) (k1 := 36) (L1 := [some (.ref 0), some (.int v1), some (.int v2), some (.int v3)]) (S1 := []) (σ1 := σ) (k2 := 30) (L2 := [some (.ref 0), some (.int v1), some (.int v2), some (.int v3)]) (S2 := []) (σ2 := σ) 2 (fun n h => h) (fun hc7 => ?_) (fun hc7 => ?_)
      · rw [if_pos hc7] at h
        refine go_st (k' := 19) (L' := [some (.ref 0), some (.int v1), some (.int v2), some (.int (v3 + (1 : Int32)))]) (S' := []) (σ' := σ) 2 (fun n h => h) ?_
        exact ih v1 v2 (v3 + (1 : Int32)) σ h
      · rw [if_neg hc7] at h
        refine go_st (k' := 19) (L' := [some (.ref 0), some (.int v1), some (.int (v2 ||| ((1 : Int32) <<< (v3 &&& 31)))), some (.int (v3 + (1 : Int32)))]) (S' := []) (σ' := σ) 8 (fun n h => h) ?_
        exact ih v1 (v2 ||| ((1 : Int32) <<< (v3 &&& 31))) (v3 + (1 : Int32)) σ h
def f_X_turnsRank_b15 (N : Nat) (v1 : Int32) (σ : aSt) : Option (Int32 × aSt) :=
  f_X_turnsRank_l19 N N v1 (0 : Int32) (0 : Int32) σ
set_option maxRecDepth 20000 in
set_option maxHeartbeats 4000000 in
theorem t_X_turnsRank_b15 (d : Nat) {N : Nat} (d2 d3 : Option Value) (v1 : Int32) (σ : aSt) {P : Option Value → aSt → Prop} {x : (Int32 × aSt)} (h : f_X_turnsRank_b15 N v1 σ = some x) (hp : P (some (.int x.1)) x.2) : aGo (aCall MT (d + 7)) P mc_X_turnsRank 15 [some (.ref 0), some (.int v1), d2, d3] [] σ := by
  unfold f_X_turnsRank_b15 at h
  refine go_st (k' := 19) (L' := [some (.ref 0), some (.int v1), some (.int (0 : Int32)), some (.int (0 : Int32))]) (S' := []) (σ' := σ) 4 (fun n h => h) ?_
  exact t_X_turnsRank_l19 d hp N v1 (0 : Int32) (0 : Int32) σ h
def f_X_turnsRank (N : Nat) (p0 : Int32) (σ : aSt) : Option (Int32 × aSt) :=
  (if (σ.2.2 0 13) = true then (if p0 < 0 then some ((-2 : Int32), σ) else (if p0 ≤ (9 : Int32) then (if (σ.2.2 0 15) = true then f_X_turnsRank_b15 N p0 σ else ((f_X_fillTurnRanks N σ).bind fun x8 => f_X_turnsRank_b15 N p0 x8)) else some ((-2 : Int32), σ))) else some ((-2 : Int32), σ))
set_option maxRecDepth 20000 in
set_option maxHeartbeats 4000000 in
theorem c_X_turnsRank (d : Nat) {N : Nat} (p0 : Int32) (σ : aSt) {P : Option Value → aSt → Prop} {x : (Int32 × aSt)} (h : f_X_turnsRank N p0 σ = some x) (hp : P (some (.int x.1)) x.2) : aCall MT (d + 8) 344 [.ref 0, .int p0] σ P := by
  unfold f_X_turnsRank at h
  refine call_of (code := mc_X_turnsRank) (L := [some (.ref 0), some (.int p0), none, none]) rfl rfl rfl rfl ?_
  refine go_ifz (b := (σ.2.2 0 13)) (k1 := 8) (L1 := [some (.ref 0), some (.int p0), none, none]) (S1 := []) (σ1 := σ) (k2 := 3) (L2 := [some (.ref 0), some (.int p0), none, none]) (S2 := []) (σ2 := σ) 3 (fun n h => h) (fun hc1 => ?_) (fun hc1 => ?_)
  · rw [if_neg hc1] at h
    cases h
    exact go_ret 2 (fun _ => hp)
  · rw [if_pos hc1] at h
    refine go_if (c := p0 < 0) (k1 := 8) (L1 := [some (.ref 0), some (.int p0), none, none]) (S1 := []) (σ1 := σ) (k2 := 5) (L2 := [some (.ref 0), some (.int p0), none, none]) (S2 := []) (σ2 := σ) 2 (fun n h => h) (fun hc2 => ?_) (fun hc2 => ?_)
    · rw [if_pos hc2] at h
      cases h
      exact go_ret 2 (fun _ => hp)
    · rw [if_neg hc2] at h
      refine go_if (c := p0 ≤ (9 : Int32)) (k1 := 10) (L1 := [some (.ref 0), some (.int p0), none, none]) (S1 := []) (σ1 := σ) (k2 := 8) (L2 := [some (.ref 0), some (.int p0), none, none]) (S2 := []) (σ2 := σ) 3 (fun n h => h) (fun hc3 => ?_) (fun hc3 => ?_)
      · rw [if_pos hc3] at h
        refine go_ifn (b := (σ.2.2 0 15)) (k1 := 15) (L1 := [some (.ref 0), some (.int p0), none, none]) (S1 := []) (σ1 := σ) (k2 := 13) (L2 := [some (.ref 0), some (.int p0), none, none]) (S2 := []) (σ2 := σ) 3 (fun n h => h) (fun hc4 => ?_) (fun hc4 => ?_)
        · rw [if_pos hc4] at h
          exact t_X_turnsRank_b15 d _ _ p0 σ h hp
        · rw [if_neg hc4] at h
          obtain ⟨x8, hx8, h⟩ := bind_of h
          refine go_call (r := none) (σc := σ) (σ1 := x8) (mi := 343) (vs := [.ref 0]) (k' := 15) (L' := [some (.ref 0), some (.int p0), none, none]) (S' := []) 2 (fun P9 h9 => c_X_fillTurnRanks (d + 0) σ hx8 h9) (fun n h => h) ?_
          exact t_X_turnsRank_b15 d _ _ p0 x8 h hp
      · rw [if_neg hc3] at h
        cases h
        exact go_ret 2 (fun _ => hp)
def f_X_breaks_l35 (N : Nat) (σ : aSt) : Nat → Int32 → Int64 → Int32 → Int32 → Option Int64
  | 0, _, _, _, _ => none
  | n + 1, v1, v2, v4, v5 => (if (64 : Int32) ≤ v5 then some v4.toInt64 else ((f_Whole_residue N v2 v1).bind fun x5 => (if x5 ≠ 0 then some v4.toInt64 else f_X_breaks_l35 N σ n v1 (f_Whole_quotient v2 v1.toInt64) (v4 + (1 : Int32)) (v5 + (1 : Int32)))))
set_option maxRecDepth 20000 in
set_option maxHeartbeats 4000000 in
theorem t_X_breaks_l35 (d : Nat) {N : Nat} (σ : aSt) {x : Int64} {P : Option Value → aSt → Prop} (hp : P (some (.long x)) σ) : ∀ (n : Nat) (d0 : Option Value) (v1 : Int32) (v2 : Int64) (v4 : Int32) (v5 : Int32), f_X_breaks_l35 N σ n v1 v2 v4 v5 = some x → aGo (aCall MT (d + 2)) P mc_X_breaks 35 [d0, some (.int v1), some (.long v2), none, some (.int v4), some (.int v5)] [] σ := by
  intro n
  induction n with
  | zero => intro d0 v1 v2 v4 v5 h; cases h
  | succ n ih =>
    intro d0 v1 v2 v4 v5 h
    rw [f_X_breaks_l35] at h
    refine go_if (c := (64 : Int32) ≤ v5) (k1 := 50) (L1 := [d0, some (.int v1), some (.long v2), none, some (.int v4), some (.int v5)]) (S1 := []) (σ1 := σ) (k2 := 38) (L2 := [d0, some (.int v1), some (.long v2), none, some (.int v4), some (.int v5)]) (S2 := []) (σ2 := σ) 3 (fun n h => h) (fun hc4 => ?_) (fun hc4 => ?_)
    · rw [if_pos hc4] at h
      cases h
      exact go_ret 3 (fun _ => hp)
    · rw [if_neg hc4] at h
      obtain ⟨x5, hx5, h⟩ := bind_of h
      refine go_call (r := some (.int x5)) (σc := σ) (σ1 := σ) (mi := 137) (vs := [.long v2, .int v1]) (k' := 41) (L' := [d0, some (.int v1), some (.long v2), none, some (.int v4), some (.int v5)]) (S' := []) 3 (fun P9 h9 => c_Whole_residue (d + 1) v2 v1 σ hx5 h9) (fun n h => h) ?_
      refine go_if (c := x5 ≠ 0) (k1 := 50) (L1 := [d0, some (.int v1), some (.long v2), none, some (.int v4), some (.int v5)]) (S1 := []) (σ1 := σ) (k2 := 42) (L2 := [d0, some (.int v1), some (.long v2), none, some (.int v4), some (.int v5)]) (S2 := []) (σ2 := σ) 1 (fun n h => h) (fun hc6 => ?_) (fun hc6 => ?_)
      · rw [if_pos hc6] at h
        cases h
        exact go_ret 3 (fun _ => hp)
      · rw [if_neg hc6] at h
        refine go_call (r := some (.long (f_Whole_quotient v2 v1.toInt64))) (σc := σ) (σ1 := σ) (mi := 97) (vs := [.long v2, .long v1.toInt64]) (k' := 46) (L' := [d0, some (.int v1), some (.long v2), none, some (.int v4), some (.int v5)]) (S' := []) 4 (fun P9 h9 => c_Whole_quotient (d + 1) v2 v1.toInt64 σ h9) (fun n h => h) ?_
        refine go_st (k' := 35) (L' := [d0, some (.int v1), some (.long (f_Whole_quotient v2 v1.toInt64)), none, some (.int (v4 + (1 : Int32))), some (.int (v5 + (1 : Int32)))]) (S' := []) (σ' := σ) 4 (fun n h => h) ?_
        exact ih _ v1 (f_Whole_quotient v2 v1.toInt64) (v4 + (1 : Int32)) (v5 + (1 : Int32)) h
def f_X_breaks_b11 (N : Nat) (v1 : Int32) (σ : aSt) : Option Int64 :=
  (if v1 ≠ 0 then f_X_breaks_l35 N σ N v1 ((((16 : Int64) * (f_PointList_b_11 σ).toInt64) * (f_PointList_b_11 σ).toInt64) * (f_X_besideB σ).toInt64) (0 : Int32) (0 : Int32) else some ((((16 : Int64) * (f_PointList_b_11 σ).toInt64) * (f_PointList_b_11 σ).toInt64) * (f_X_besideB σ).toInt64))
set_option maxRecDepth 20000 in
set_option maxHeartbeats 4000000 in
theorem t_X_breaks_b11 (d : Nat) {N : Nat} (d2 d3 d4 d5 : Option Value) (v1 : Int32) (σ : aSt) {P : Option Value → aSt → Prop} {x : Int64} (h : f_X_breaks_b11 N v1 σ = some x) (hp : P (some (.long x)) σ) : aGo (aCall MT (d + 2)) P mc_X_breaks 11 [some (.ref 0), some (.int v1), d2, d3, d4, d5] [] σ := by
  unfold f_X_breaks_b11 at h
  refine go_call (r := some (.int (f_PointList_b_11 σ))) (σc := σ) (σ1 := σ) (mi := 27) (vs := [.ref 11]) (k' := 15) (L' := [some (.ref 0), some (.int v1), d2, d3, d4, d5]) (S' := [.long (16 : Int64)]) 4 (fun P9 h9 => c_PointList_b_11 (d + 1) σ h9) (fun n h => h) ?_
  refine go_call (r := some (.int (f_PointList_b_11 σ))) (σc := σ) (σ1 := σ) (mi := 27) (vs := [.ref 11]) (k' := 20) (L' := [some (.ref 0), some (.int v1), d2, d3, d4, d5]) (S' := [.long ((16 : Int64) * (f_PointList_b_11 σ).toInt64)]) 5 (fun P9 h9 => c_PointList_b_11 (d + 1) σ h9) (fun n h => h) ?_
  refine go_call (r := some (.int (f_X_besideB σ))) (σc := σ) (σ1 := σ) (mi := 138) (vs := [.ref 0]) (k' := 24) (L' := [some (.ref 0), some (.int v1), d2, d3, d4, d5]) (S' := [.long (((16 : Int64) * (f_PointList_b_11 σ).toInt64) * (f_PointList_b_11 σ).toInt64)]) 4 (fun P9 h9 => c_X_besideB (d + 0) σ h9) (fun n h => h) ?_
  refine go_if (c := v1 ≠ 0) (k1 := 31) (L1 := [some (.ref 0), some (.int v1), some (.long ((((16 : Int64) * (f_PointList_b_11 σ).toInt64) * (f_PointList_b_11 σ).toInt64) * (f_X_besideB σ).toInt64)), none, d4, d5]) (S1 := []) (σ1 := σ) (k2 := 29) (L2 := [some (.ref 0), some (.int v1), some (.long ((((16 : Int64) * (f_PointList_b_11 σ).toInt64) * (f_PointList_b_11 σ).toInt64) * (f_X_besideB σ).toInt64)), none, d4, d5]) (S2 := []) (σ2 := σ) 5 (fun n h => h) (fun hc3 => ?_) (fun hc3 => ?_)
  · rw [if_pos hc3] at h
    refine go_st (k' := 35) (L' := [some (.ref 0), some (.int v1), some (.long ((((16 : Int64) * (f_PointList_b_11 σ).toInt64) * (f_PointList_b_11 σ).toInt64) * (f_X_besideB σ).toInt64)), none, some (.int (0 : Int32)), some (.int (0 : Int32))]) (S' := []) (σ' := σ) 4 (fun n h => h) ?_
    exact t_X_breaks_l35 d σ hp N _ v1 ((((16 : Int64) * (f_PointList_b_11 σ).toInt64) * (f_PointList_b_11 σ).toInt64) * (f_X_besideB σ).toInt64) (0 : Int32) (0 : Int32) h
  · rw [if_neg hc3] at h
    cases h
    exact go_ret 2 (fun _ => hp)
def f_X_breaks (N : Nat) (p0 : Int32) (σ : aSt) : Option Int64 :=
  (if (σ.2.2 0 13) = true then (if p0 = 0 then f_X_breaks_b11 N p0 σ else ((f_X_primeIndex N p0 σ).bind fun x7 => (if x7 ≠ (-1 : Int32) then f_X_breaks_b11 N p0 σ else some (-9223372036854775808 : Int64)))) else some (-9223372036854775808 : Int64))
set_option maxRecDepth 20000 in
set_option maxHeartbeats 4000000 in
theorem c_X_breaks (d : Nat) {N : Nat} (p0 : Int32) (σ : aSt) {P : Option Value → aSt → Prop} {x : Int64} (h : f_X_breaks N p0 σ = some x) (hp : P (some (.long x)) σ) : aCall MT (d + 3) 346 [.ref 0, .int p0] σ P := by
  unfold f_X_breaks at h
  refine call_of (code := mc_X_breaks) (L := [some (.ref 0), some (.int p0), none, none, none, none]) rfl rfl rfl rfl ?_
  refine go_ifz (b := (σ.2.2 0 13)) (k1 := 9) (L1 := [some (.ref 0), some (.int p0), none, none, none, none]) (S1 := []) (σ1 := σ) (k2 := 3) (L2 := [some (.ref 0), some (.int p0), none, none, none, none]) (S2 := []) (σ2 := σ) 3 (fun n h => h) (fun hc1 => ?_) (fun hc1 => ?_)
  · rw [if_neg hc1] at h
    cases h
    exact go_ret 2 (fun _ => hp)
  · rw [if_pos hc1] at h
    refine go_if (c := p0 = 0) (k1 := 11) (L1 := [some (.ref 0), some (.int p0), none, none, none, none]) (S1 := []) (σ1 := σ) (k2 := 5) (L2 := [some (.ref 0), some (.int p0), none, none, none, none]) (S2 := []) (σ2 := σ) 2 (fun n h => h) (fun hc2 => ?_) (fun hc2 => ?_)
    · rw [if_pos hc2] at h
      exact t_X_breaks_b11 d _ _ _ _ p0 σ h hp
    · rw [if_neg hc2] at h
      obtain ⟨x7, hx7, h⟩ := bind_of h
      refine go_call (r := some (.int x7)) (σc := σ) (σ1 := σ) (mi := 136) (vs := [.int p0]) (k' := 7) (L' := [some (.ref 0), some (.int p0), none, none, none, none]) (S' := []) 2 (fun P9 h9 => c_X_primeIndex (d + 1) p0 σ hx7 h9) (fun n h => h) ?_
      refine go_if (c := x7 ≠ (-1 : Int32)) (k1 := 11) (L1 := [some (.ref 0), some (.int p0), none, none, none, none]) (S1 := []) (σ1 := σ) (k2 := 9) (L2 := [some (.ref 0), some (.int p0), none, none, none, none]) (S2 := []) (σ2 := σ) 2 (fun n h => h) (fun hc8 => ?_) (fun hc8 => ?_)
      · rw [if_pos hc8] at h
        exact t_X_breaks_b11 d _ _ _ _ p0 σ h hp
      · rw [if_neg hc8] at h
        cases h
        exact go_ret 2 (fun _ => hp)
def f_X_traces_l19 (N : Nat) : Nat → Int32 → Int64 → Int32 → Int32 → aSt → Option (Int64 × aSt)
  | 0, _, _, _, _, _ => none
  | n + 1, v1, v2, v5, v6, σ => (if v5 ≤ v6 then some (v2, σ) else (if 0 ≤ v6 ∧ v6 < (25 : Int32) then (if v1 < (σ.1 87 v6.toNatClampNeg) then f_X_traces_l19 N n v1 v2 v5 (v6 + (1 : Int32)) σ else ((f_X_isByPrime N (σ.1 87 v6.toNatClampNeg) σ).bind fun x7 => (if x7 = true then ((f_PrimeGroup_manyBy N (σ.1 87 v6.toNatClampNeg) σ).bind fun x9 => f_X_traces_l19 N n v1 (v2 + (((σ.1 87 v6.toNatClampNeg) + (1 : Int32)) - x9.1).toInt64) v5 (v6 + (1 : Int32)) x9.2) else f_X_traces_l19 N n v1 v2 v5 (v6 + (1 : Int32)) σ))) else none))
set_option maxRecDepth 20000 in
set_option maxHeartbeats 4000000 in
theorem t_X_traces_l19 (d : Nat) {N : Nat} {x : (Int64 × aSt)} {P : Option Value → aSt → Prop} (hp : P (some (.long x.1)) x.2) : ∀ (n : Nat) (d7 : Option Value) (v1 : Int32) (v2 : Int64) (v5 : Int32) (v6 : Int32) (σ : aSt), f_X_traces_l19 N n v1 v2 v5 v6 σ = some x → aGo (aCall MT (d + 4)) P mc_X_traces 19 [some (.ref 0), some (.int v1), some (.long v2), none, some (.ref 87), some (.int v5), some (.int v6), d7] [] σ := by
  intro n
  induction n with
  | zero => intro d7 v1 v2 v5 v6 σ h; cases h
  | succ n ih =>
    intro d7 v1 v2 v5 v6 σ h
    rw [f_X_traces_l19] at h
    refine go_if (c := v5 ≤ v6) (k1 := 47) (L1 := [some (.ref 0), some (.int v1), some (.long v2), none, some (.ref 87), some (.int v5), some (.int v6), d7]) (S1 := []) (σ1 := σ) (k2 := 22) (L2 := [some (.ref 0), some (.int v1), some (.long v2), none, some (.ref 87), some (.int v5), some (.int v6), d7]) (S2 := []) (σ2 := σ) 3 (fun n h => h) (fun hc4 => ?_) (fun hc4 => ?_)
    · rw [if_pos hc4] at h
      cases h
      exact go_ret 2 (fun _ => hp)
    · rw [if_neg hc4] at h
      obtain ⟨hc5, h⟩ := ite_of h
      refine go_q (Q := inb 0 σ 87 v6) (k' := 25) (L' := [some (.ref 0), some (.int v1), some (.long v2), none, some (.ref 87), some (.int v5), some (.int v6), d7]) (S' := [.int (σ.1 87 v6.toNatClampNeg)]) (σ' := σ) 3 (inb_mk rfl hc5.1 hc5.2) (fun n h => h) ?_
      refine go_if (c := v1 < (σ.1 87 v6.toNatClampNeg)) (k1 := 45) (L1 := [some (.ref 0), some (.int v1), some (.long v2), none, some (.ref 87), some (.int v5), some (.int v6), some (.int (σ.1 87 v6.toNatClampNeg))]) (S1 := []) (σ1 := σ) (k2 := 29) (L2 := [some (.ref 0), some (.int v1), some (.long v2), none, some (.ref 87), some (.int v5), some (.int v6), some (.int (σ.1 87 v6.toNatClampNeg))]) (S2 := []) (σ2 := σ) 4 (fun n h => h) (fun hc6 => ?_) (fun hc6 => ?_)
      · rw [if_pos hc6] at h
        refine go_st (k' := 19) (L' := [some (.ref 0), some (.int v1), some (.long v2), none, some (.ref 87), some (.int v5), some (.int (v6 + (1 : Int32))), some (.int (σ.1 87 v6.toNatClampNeg))]) (S' := []) (σ' := σ) 2 (fun n h => h) ?_
        exact ih _ v1 v2 v5 (v6 + (1 : Int32)) σ h
      · rw [if_neg hc6] at h
        obtain ⟨x7, hx7, h⟩ := bind_of h
        refine go_call (r := some (.int (b2i x7))) (σc := σ) (σ1 := σ) (mi := 139) (vs := [.ref 0, .int (σ.1 87 v6.toNatClampNeg)]) (k' := 32) (L' := [some (.ref 0), some (.int v1), some (.long v2), none, some (.ref 87), some (.int v5), some (.int v6), some (.int (σ.1 87 v6.toNatClampNeg))]) (S' := []) 3 (fun P9 h9 => c_X_isByPrime (d + 1) (σ.1 87 v6.toNatClampNeg) σ hx7 h9) (fun n h => h) ?_
        refine go_ifz (b := x7) (k1 := 45) (L1 := [some (.ref 0), some (.int v1), some (.long v2), none, some (.ref 87), some (.int v5), some (.int v6), some (.int (σ.1 87 v6.toNatClampNeg))]) (S1 := []) (σ1 := σ) (k2 := 33) (L2 := [some (.ref 0), some (.int v1), some (.long v2), none, some (.ref 87), some (.int v5), some (.int v6), some (.int (σ.1 87 v6.toNatClampNeg))]) (S2 := []) (σ2 := σ) 1 (fun n h => h) (fun hc8 => ?_) (fun hc8 => ?_)
        · rw [if_neg hc8] at h
          refine go_st (k' := 19) (L' := [some (.ref 0), some (.int v1), some (.long v2), none, some (.ref 87), some (.int v5), some (.int (v6 + (1 : Int32))), some (.int (σ.1 87 v6.toNatClampNeg))]) (S' := []) (σ' := σ) 2 (fun n h => h) ?_
          exact ih _ v1 v2 v5 (v6 + (1 : Int32)) σ h
        · rw [if_pos hc8] at h
          obtain ⟨x9, hx9, h⟩ := bind_of h
          refine go_call (r := some (.int x9.1)) (σc := σ) (σ1 := x9.2) (mi := 143) (vs := [.ref 34, .int (σ.1 87 v6.toNatClampNeg)]) (k' := 41) (L' := [some (.ref 0), some (.int v1), some (.long v2), none, some (.ref 87), some (.int v5), some (.int v6), some (.int (σ.1 87 v6.toNatClampNeg))]) (S' := [.int ((σ.1 87 v6.toNatClampNeg) + (1 : Int32)), .long v2]) 8 (fun P9 h9 => c_PrimeGroup_manyBy (d + 0) (σ.1 87 v6.toNatClampNeg) σ hx9 h9) (fun n h => h) ?_
          refine go_st (k' := 19) (L' := [some (.ref 0), some (.int v1), some (.long (v2 + (((σ.1 87 v6.toNatClampNeg) + (1 : Int32)) - x9.1).toInt64)), none, some (.ref 87), some (.int v5), some (.int (v6 + (1 : Int32))), some (.int (σ.1 87 v6.toNatClampNeg))]) (S' := []) (σ' := x9.2) 6 (fun n h => h) ?_
          exact ih _ v1 (v2 + (((σ.1 87 v6.toNatClampNeg) + (1 : Int32)) - x9.1).toInt64) v5 (v6 + (1 : Int32)) x9.2 h
def f_X_traces (N : Nat) (p0 : Int32) (σ : aSt) : Option (Int64 × aSt) :=
  (if (σ.2.2 0 13) = true then (if p0 < 0 then some ((-9223372036854775808 : Int64), σ) else (if p0 ≤ (97 : Int32) then f_X_traces_l19 N N p0 (0 : Int64) (25 : Int32) (0 : Int32) σ else some ((-9223372036854775808 : Int64), σ))) else some ((-9223372036854775808 : Int64), σ))
set_option maxRecDepth 20000 in
set_option maxHeartbeats 4000000 in
theorem c_X_traces (d : Nat) {N : Nat} (p0 : Int32) (σ : aSt) {P : Option Value → aSt → Prop} {x : (Int64 × aSt)} (h : f_X_traces N p0 σ = some x) (hp : P (some (.long x.1)) x.2) : aCall MT (d + 5) 348 [.ref 0, .int p0] σ P := by
  unfold f_X_traces at h
  refine call_of (code := mc_X_traces) (L := [some (.ref 0), some (.int p0), none, none, none, none, none, none]) rfl rfl rfl rfl ?_
  refine go_ifz (b := (σ.2.2 0 13)) (k1 := 8) (L1 := [some (.ref 0), some (.int p0), none, none, none, none, none, none]) (S1 := []) (σ1 := σ) (k2 := 3) (L2 := [some (.ref 0), some (.int p0), none, none, none, none, none, none]) (S2 := []) (σ2 := σ) 3 (fun n h => h) (fun hc1 => ?_) (fun hc1 => ?_)
  · rw [if_neg hc1] at h
    cases h
    exact go_ret 2 (fun _ => hp)
  · rw [if_pos hc1] at h
    refine go_if (c := p0 < 0) (k1 := 8) (L1 := [some (.ref 0), some (.int p0), none, none, none, none, none, none]) (S1 := []) (σ1 := σ) (k2 := 5) (L2 := [some (.ref 0), some (.int p0), none, none, none, none, none, none]) (S2 := []) (σ2 := σ) 2 (fun n h => h) (fun hc2 => ?_) (fun hc2 => ?_)
    · rw [if_pos hc2] at h
      cases h
      exact go_ret 2 (fun _ => hp)
    · rw [if_neg hc2] at h
      refine go_if (c := p0 ≤ (97 : Int32)) (k1 := 10) (L1 := [some (.ref 0), some (.int p0), none, none, none, none, none, none]) (S1 := []) (σ1 := σ) (k2 := 8) (L2 := [some (.ref 0), some (.int p0), none, none, none, none, none, none]) (S2 := []) (σ2 := σ) 3 (fun n h => h) (fun hc3 => ?_) (fun hc3 => ?_)
      · rw [if_pos hc3] at h
        refine go_st (k' := 19) (L' := [some (.ref 0), some (.int p0), some (.long (0 : Int64)), none, some (.ref 87), some (.int (25 : Int32)), some (.int (0 : Int32)), none]) (S' := []) (σ' := σ) 9 (fun n h => h) ?_
        exact t_X_traces_l19 d hp N _ p0 (0 : Int64) (25 : Int32) (0 : Int32) σ h
      · rw [if_neg hc3] at h
        cases h
        exact go_ret 2 (fun _ => hp)
def f_X_sorts_l28 (N : Nat) (σ : aSt) : Nat → Int32 → Int32 → Int32 → Int32 → Option Int32
  | 0, _, _, _, _ => none
  | n + 1, v1, v3, v4, v5 => (if (f_PointList_shown_11 σ) ≤ v5 then some v4 else (if v3 = 0 then ((f_Whole_rootOf N (iabs (f_PointList_m_11 v5 σ)).toInt64).bind fun x7 => (if x7 < (0 : Int64) then f_X_sorts_l28 N σ n v1 v3 v4 (v5 + (1 : Int32)) else f_X_sorts_l28 N σ n v1 v3 (v4 + (1 : Int32)) (v5 + (1 : Int32)))) else (if (f_PointList_e_11 v5 σ) ≠ v1 then f_X_sorts_l28 N σ n v1 v3 v4 (v5 + (1 : Int32)) else f_X_sorts_l28 N σ n v1 v3 (v4 + (1 : Int32)) (v5 + (1 : Int32)))))
set_option maxRecDepth 20000 in
set_option maxHeartbeats 4000000 in
theorem t_X_sorts_l28 (d : Nat) {N : Nat} (σ : aSt) {x : Int32} {P : Option Value → aSt → Prop} (hp : P (some (.int x)) σ) : ∀ (n : Nat) (d2 d6 : Option Value) (v1 : Int32) (v3 : Int32) (v4 : Int32) (v5 : Int32), f_X_sorts_l28 N σ n v1 v3 v4 v5 = some x → aGo (aCall MT (d + 3)) P mc_X_sorts 28 [some (.ref 0), some (.int v1), d2, some (.int v3), some (.int v4), some (.int v5), d6] [] σ := by
  intro n
  induction n with
  | zero => intro d2 d6 v1 v3 v4 v5 h; cases h
  | succ n ih =>
    intro d2 d6 v1 v3 v4 v5 h
    rw [f_X_sorts_l28] at h
    refine go_call (r := some (.int (f_PointList_shown_11 σ))) (σc := σ) (σ1 := σ) (mi := 44) (vs := [.ref 11]) (k' := 32) (L' := [some (.ref 0), some (.int v1), d2, some (.int v3), some (.int v4), some (.int v5), d6]) (S' := [.int v5]) 4 (fun P9 h9 => c_PointList_shown_11 (d + 2) σ h9) (fun n h => h) ?_
    refine go_if (c := (f_PointList_shown_11 σ) ≤ v5) (k1 := 64) (L1 := [some (.ref 0), some (.int v1), d2, some (.int v3), some (.int v4), some (.int v5), d6]) (S1 := []) (σ1 := σ) (k2 := 33) (L2 := [some (.ref 0), some (.int v1), d2, some (.int v3), some (.int v4), some (.int v5), d6]) (S2 := []) (σ2 := σ) 1 (fun n h => h) (fun hc5 => ?_) (fun hc5 => ?_)
    · rw [if_pos hc5] at h
      cases h
      exact go_ret 2 (fun _ => hp)
    · rw [if_neg hc5] at h
      refine go_if (c := v3 = 0) (k1 := 45) (L1 := [some (.ref 0), some (.int v1), d2, some (.int v3), some (.int v4), some (.int v5), d6]) (S1 := []) (σ1 := σ) (k2 := 35) (L2 := [some (.ref 0), some (.int v1), d2, some (.int v3), some (.int v4), some (.int v5), d6]) (S2 := []) (σ2 := σ) 2 (fun n h => h) (fun hc6 => ?_) (fun hc6 => ?_)
      · rw [if_pos hc6] at h
        refine go_call (r := some (.int (f_PointList_m_11 v5 σ))) (σc := σ) (σ1 := σ) (mi := 74) (vs := [.ref 11, .int v5]) (k' := 49) (L' := [some (.ref 0), some (.int v1), d2, some (.int v3), some (.int v4), some (.int v5), d6]) (S' := []) 4 (fun P9 h9 => c_PointList_m_11 (d + 2) v5 σ h9) (fun n h => h) ?_
        obtain ⟨x7, hx7, h⟩ := bind_of h
        refine go_call (r := some (.long x7)) (σc := σ) (σ1 := σ) (mi := 37) (vs := [.long (iabs (f_PointList_m_11 v5 σ)).toInt64]) (k' := 52) (L' := [some (.ref 0), some (.int v1), d2, some (.int v3), some (.int v4), some (.int v5), d6]) (S' := []) 3 (fun P9 h9 => c_Whole_rootOf (d + 0) (iabs (f_PointList_m_11 v5 σ)).toInt64 σ hx7 h9) (fun n h => h) ?_
        refine go_iff (lcmp_lt x7 (0 : Int64)) (k1 := 57) (L1 := [some (.ref 0), some (.int v1), d2, some (.int v3), some (.int v4), some (.int v5), d6]) (S1 := []) (σ1 := σ) (k2 := 55) (L2 := [some (.ref 0), some (.int v1), d2, some (.int v3), some (.int v4), some (.int v5), d6]) (S2 := []) (σ2 := σ) 3 (fun n h => h) (fun hc8 => ?_) (fun hc8 => ?_)
        · rw [if_pos hc8] at h
          refine go_st (k' := 28) (L' := [some (.ref 0), some (.int v1), d2, some (.int v3), some (.int v4), some (.int (v5 + (1 : Int32))), some (.int (0 : Int32))]) (S' := []) (σ' := σ) 6 (fun n h => h) ?_
          exact ih _ _ v1 v3 v4 (v5 + (1 : Int32)) h
        · rw [if_neg hc8] at h
          refine go_st (k' := 28) (L' := [some (.ref 0), some (.int v1), d2, some (.int v3), some (.int (v4 + (1 : Int32))), some (.int (v5 + (1 : Int32))), some (.int (1 : Int32))]) (S' := []) (σ' := σ) 8 (fun n h => h) ?_
          exact ih _ _ v1 v3 (v4 + (1 : Int32)) (v5 + (1 : Int32)) h
      · rw [if_neg hc6] at h
        refine go_call (r := some (.int (f_PointList_e_11 v5 σ))) (σc := σ) (σ1 := σ) (mi := 76) (vs := [.ref 11, .int v5]) (k' := 39) (L' := [some (.ref 0), some (.int v1), d2, some (.int v3), some (.int v4), some (.int v5), d6]) (S' := []) 4 (fun P9 h9 => c_PointList_e_11 (d + 2) v5 σ h9) (fun n h => h) ?_
        refine go_if (c := (f_PointList_e_11 v5 σ) ≠ v1) (k1 := 43) (L1 := [some (.ref 0), some (.int v1), d2, some (.int v3), some (.int v4), some (.int v5), d6]) (S1 := []) (σ1 := σ) (k2 := 41) (L2 := [some (.ref 0), some (.int v1), d2, some (.int v3), some (.int v4), some (.int v5), d6]) (S2 := []) (σ2 := σ) 2 (fun n h => h) (fun hc9 => ?_) (fun hc9 => ?_)
        · rw [if_pos hc9] at h
          refine go_st (k' := 28) (L' := [some (.ref 0), some (.int v1), d2, some (.int v3), some (.int v4), some (.int (v5 + (1 : Int32))), some (.int (0 : Int32))]) (S' := []) (σ' := σ) 7 (fun n h => h) ?_
          exact ih _ _ v1 v3 v4 (v5 + (1 : Int32)) h
        · rw [if_neg hc9] at h
          refine go_st (k' := 28) (L' := [some (.ref 0), some (.int v1), d2, some (.int v3), some (.int (v4 + (1 : Int32))), some (.int (v5 + (1 : Int32))), some (.int (1 : Int32))]) (S' := []) (σ' := σ) 8 (fun n h => h) ?_
          exact ih _ _ v1 v3 (v4 + (1 : Int32)) (v5 + (1 : Int32)) h
def f_X_sorts_b24 (N : Nat) (v1 : Int32) (v3 : Int32) (σ : aSt) : Option Int32 :=
  f_X_sorts_l28 N σ N v1 v3 (0 : Int32) (0 : Int32)
set_option maxRecDepth 20000 in
set_option maxHeartbeats 4000000 in
theorem t_X_sorts_b24 (d : Nat) {N : Nat} (d2 d4 d5 d6 : Option Value) (v1 : Int32) (v3 : Int32) (σ : aSt) {P : Option Value → aSt → Prop} {x : Int32} (h : f_X_sorts_b24 N v1 v3 σ = some x) (hp : P (some (.int x)) σ) : aGo (aCall MT (d + 3)) P mc_X_sorts 24 [some (.ref 0), some (.int v1), d2, some (.int v3), d4, d5, d6] [] σ := by
  unfold f_X_sorts_b24 at h
  refine go_st (k' := 28) (L' := [some (.ref 0), some (.int v1), d2, some (.int v3), some (.int (0 : Int32)), some (.int (0 : Int32)), d6]) (S' := []) (σ' := σ) 4 (fun n h => h) ?_
  exact t_X_sorts_l28 d σ hp N _ _ v1 v3 (0 : Int32) (0 : Int32) h
def f_X_sorts_b14 (N : Nat) (v1 : Int32) (v3 : Int32) (σ : aSt) : Option Int32 :=
  (if v3 = 0 then f_X_sorts_b24 N v1 v3 σ else (if v1 < (1 : Int32) then some (-2 : Int32) else (if v1 ≤ (6 : Int32) then f_X_sorts_b24 N v1 v3 σ else some (-2 : Int32))))
set_option maxRecDepth 20000 in
set_option maxHeartbeats 4000000 in
theorem t_X_sorts_b14 (d : Nat) {N : Nat} (d2 d4 d5 d6 : Option Value) (v1 : Int32) (v3 : Int32) (σ : aSt) {P : Option Value → aSt → Prop} {x : Int32} (h : f_X_sorts_b14 N v1 v3 σ = some x) (hp : P (some (.int x)) σ) : aGo (aCall MT (d + 3)) P mc_X_sorts 14 [some (.ref 0), some (.int v1), d2, some (.int v3), d4, d5, d6] [] σ := by
  unfold f_X_sorts_b14 at h
  refine go_if (c := v3 = 0) (k1 := 24) (L1 := [some (.ref 0), some (.int v1), d2, some (.int v3), d4, d5, d6]) (S1 := []) (σ1 := σ) (k2 := 16) (L2 := [some (.ref 0), some (.int v1), d2, some (.int v3), d4, d5, d6]) (S2 := []) (σ2 := σ) 2 (fun n h => h) (fun hc4 => ?_) (fun hc4 => ?_)
  · rw [if_pos hc4] at h
    exact t_X_sorts_b24 d _ _ _ _ v1 v3 σ h hp
  · rw [if_neg hc4] at h
    refine go_if (c := v1 < (1 : Int32)) (k1 := 22) (L1 := [some (.ref 0), some (.int v1), d2, some (.int v3), d4, d5, d6]) (S1 := []) (σ1 := σ) (k2 := 19) (L2 := [some (.ref 0), some (.int v1), d2, some (.int v3), d4, d5, d6]) (S2 := []) (σ2 := σ) 3 (fun n h => h) (fun hc10 => ?_) (fun hc10 => ?_)
    · rw [if_pos hc10] at h
      cases h
      exact go_ret 2 (fun _ => hp)
    · rw [if_neg hc10] at h
      refine go_if (c := v1 ≤ (6 : Int32)) (k1 := 24) (L1 := [some (.ref 0), some (.int v1), d2, some (.int v3), d4, d5, d6]) (S1 := []) (σ1 := σ) (k2 := 22) (L2 := [some (.ref 0), some (.int v1), d2, some (.int v3), d4, d5, d6]) (S2 := []) (σ2 := σ) 3 (fun n h => h) (fun hc11 => ?_) (fun hc11 => ?_)
      · rw [if_pos hc11] at h
        exact t_X_sorts_b24 d _ _ _ _ v1 v3 σ h hp
      · rw [if_neg hc11] at h
        cases h
        exact go_ret 2 (fun _ => hp)
def f_X_sorts_b5 (N : Nat) (v1 : Int32) (v2 : Int32) (s0 : Int32) (σ : aSt) : Option Int32 :=
  (if (σ.2.2 0 13) = true then (if s0 ≠ 0 then f_X_sorts_b14 N v1 s0 σ else (if v2 ≠ (1 : Int32) then some (-2 : Int32) else f_X_sorts_b14 N v1 s0 σ)) else some (-2 : Int32))
set_option maxRecDepth 20000 in
set_option maxHeartbeats 4000000 in
theorem t_X_sorts_b5 (d : Nat) {N : Nat} (d3 d4 d5 d6 : Option Value) (v1 : Int32) (v2 : Int32) (s0 : Int32) (σ : aSt) {P : Option Value → aSt → Prop} {x : Int32} (h : f_X_sorts_b5 N v1 v2 s0 σ = some x) (hp : P (some (.int x)) σ) : aGo (aCall MT (d + 3)) P mc_X_sorts 5 [some (.ref 0), some (.int v1), some (.int v2), d3, d4, d5, d6] [.int s0] σ := by
  unfold f_X_sorts_b5 at h
  refine go_ifz (b := (σ.2.2 0 13)) (k1 := 22) (L1 := [some (.ref 0), some (.int v1), some (.int v2), some (.int s0), d4, d5, d6]) (S1 := []) (σ1 := σ) (k2 := 9) (L2 := [some (.ref 0), some (.int v1), some (.int v2), some (.int s0), d4, d5, d6]) (S2 := []) (σ2 := σ) 4 (fun n h => h) (fun hc2 => ?_) (fun hc2 => ?_)
  · rw [if_neg hc2] at h
    cases h
    exact go_ret 2 (fun _ => hp)
  · rw [if_pos hc2] at h
    refine go_if (c := s0 ≠ 0) (k1 := 14) (L1 := [some (.ref 0), some (.int v1), some (.int v2), some (.int s0), d4, d5, d6]) (S1 := []) (σ1 := σ) (k2 := 11) (L2 := [some (.ref 0), some (.int v1), some (.int v2), some (.int s0), d4, d5, d6]) (S2 := []) (σ2 := σ) 2 (fun n h => h) (fun hc3 => ?_) (fun hc3 => ?_)
    · rw [if_pos hc3] at h
      exact t_X_sorts_b14 d _ _ _ _ v1 s0 σ h hp
    · rw [if_neg hc3] at h
      refine go_if (c := v2 ≠ (1 : Int32)) (k1 := 22) (L1 := [some (.ref 0), some (.int v1), some (.int v2), some (.int s0), d4, d5, d6]) (S1 := []) (σ1 := σ) (k2 := 14) (L2 := [some (.ref 0), some (.int v1), some (.int v2), some (.int s0), d4, d5, d6]) (S2 := []) (σ2 := σ) 3 (fun n h => h) (fun hc12 => ?_) (fun hc12 => ?_)
      · rw [if_pos hc12] at h
        cases h
        exact go_ret 2 (fun _ => hp)
      · rw [if_neg hc12] at h
        exact t_X_sorts_b14 d _ _ _ _ v1 s0 σ h hp
def f_X_sorts (N : Nat) (p0 : Int32) (p1 : Int32) (σ : aSt) : Option Int32 :=
  (if p1 ≠ 0 then f_X_sorts_b5 N p0 p1 (0 : Int32) σ else f_X_sorts_b5 N p0 p1 (1 : Int32) σ)
set_option maxRecDepth 20000 in
set_option maxHeartbeats 4000000 in
theorem c_X_sorts (d : Nat) {N : Nat} (p0 : Int32) (p1 : Int32) (σ : aSt) {P : Option Value → aSt → Prop} {x : Int32} (h : f_X_sorts N p0 p1 σ = some x) (hp : P (some (.int x)) σ) : aCall MT (d + 4) 350 [.ref 0, .int p0, .int p1] σ P := by
  unfold f_X_sorts at h
  refine call_of (code := mc_X_sorts) (L := [some (.ref 0), some (.int p0), some (.int p1), none, none, none, none]) rfl rfl rfl rfl ?_
  refine go_if (c := p1 ≠ 0) (k1 := 4) (L1 := [some (.ref 0), some (.int p0), some (.int p1), none, none, none, none]) (S1 := []) (σ1 := σ) (k2 := 2) (L2 := [some (.ref 0), some (.int p0), some (.int p1), none, none, none, none]) (S2 := []) (σ2 := σ) 2 (fun n h => h) (fun hc1 => ?_) (fun hc1 => ?_)
  · rw [if_pos hc1] at h
    refine go_st (k' := 5) (L' := [some (.ref 0), some (.int p0), some (.int p1), none, none, none, none]) (S' := [.int (0 : Int32)]) (σ' := σ) 1 (fun n h => h) ?_
    exact t_X_sorts_b5 d _ _ _ _ p0 p1 (0 : Int32) σ h hp
  · rw [if_neg hc1] at h
    refine go_st (k' := 5) (L' := [some (.ref 0), some (.int p0), some (.int p1), none, none, none, none]) (S' := [.int (1 : Int32)]) (σ' := σ) 2 (fun n h => h) ?_
    exact t_X_sorts_b5 d _ _ _ _ p0 p1 (1 : Int32) σ h hp
def f_M_feed_l35 (N : Nat) : Nat → Int32 → aSt → Option (Int32 × aSt)
  | 0, _, _ => none
  | n + 1, v6, σ => (if (20 : Int32) ≤ v6 then some (((σ.1 66 11) + (20 : Int32)), (s_i σ 66 11 ((σ.1 66 11) + (20 : Int32)))) else (if 0 ≤ (v6 / (4 : Int32)) ∧ (v6 / (4 : Int32)) < (5 : Int32) then (if 0 ≤ ((σ.1 66 11) + v6) ∧ ((σ.1 66 11) + v6) < (200 : Int32) then f_M_feed_l35 N n (v6 + (1 : Int32)) (s_i σ 70 ((σ.1 66 11) + v6).toNatClampNeg ((σ.1 71 (v6 / (4 : Int32)).toNatClampNeg) >>> (((24 : Int32) - ((8 : Int32) * (irem v6 (4 : Int32)))) &&& 31)).toInt8.toInt32.toInt8.toInt32) else none) else none))
set_option maxRecDepth 20000 in
set_option maxHeartbeats 4000000 in
theorem t_M_feed_l35 (d : Nat) {N : Nat} {x : (Int32 × aSt)} {P : Option Value → aSt → Prop} (hp : P (some (.int x.1)) x.2) : ∀ (n : Nat) (d1 d2 d3 d4 d5 : Option Value) (v6 : Int32) (σ : aSt), f_M_feed_l35 N n v6 σ = some x → aGo (aCall MT (d + 0)) P mc_M_feed 35 [some (.ref 66), d1, d2, d3, d4, d5, some (.int v6)] [] σ := by
  intro n
  induction n with
  | zero => intro d1 d2 d3 d4 d5 v6 σ h; cases h
  | succ n ih =>
    intro d1 d2 d3 d4 d5 v6 σ h
    rw [f_M_feed_l35] at h
    refine go_if (c := (20 : Int32) ≤ v6) (k1 := 62) (L1 := [some (.ref 66), d1, d2, d3, d4, d5, some (.int v6)]) (S1 := []) (σ1 := σ) (k2 := 38) (L2 := [some (.ref 66), d1, d2, d3, d4, d5, some (.int v6)]) (S2 := []) (σ2 := σ) 3 (fun n h => h) (fun hc2 => ?_) (fun hc2 => ?_)
    · rw [if_pos hc2] at h
      cases h
      exact go_ret 9 (fun _ => hp)
    · rw [if_neg hc2] at h
      refine go_q (Q := ¬ (4 : Int32) = 0) (k' := 49) (L' := [some (.ref 66), d1, d2, d3, d4, d5, some (.int v6)]) (S' := [.int (v6 / (4 : Int32)), .ref 71, .int ((σ.1 66 11) + v6), .ref 70]) (σ' := σ) 11 (by decide) (fun n h => h) ?_
      obtain ⟨hc3, h⟩ := ite_of h
      refine go_q (Q := inb 0 σ 71 (v6 / (4 : Int32))) (k' := 50) (L' := [some (.ref 66), d1, d2, d3, d4, d5, some (.int v6)]) (S' := [.int (σ.1 71 (v6 / (4 : Int32)).toNatClampNeg), .int ((σ.1 66 11) + v6), .ref 70]) (σ' := σ) 1 (inb_mk rfl hc3.1 hc3.2) (fun n h => h) ?_
      refine go_q (Q := ¬ (4 : Int32) = 0) (k' := 55) (L' := [some (.ref 66), d1, d2, d3, d4, d5, some (.int v6)]) (S' := [.int (irem v6 (4 : Int32)), .int (8 : Int32), .int (24 : Int32), .int (σ.1 71 (v6 / (4 : Int32)).toNatClampNeg), .int ((σ.1 66 11) + v6), .ref 70]) (σ' := σ) 5 (by decide) (fun n h => h) ?_
      obtain ⟨hc4, h⟩ := ite_of h
      refine go_q (Q := inb 2 σ 70 ((σ.1 66 11) + v6)) (k' := 60) (L' := [some (.ref 66), d1, d2, d3, d4, d5, some (.int v6)]) (S' := []) (σ' := (s_i σ 70 ((σ.1 66 11) + v6).toNatClampNeg ((σ.1 71 (v6 / (4 : Int32)).toNatClampNeg) >>> (((24 : Int32) - ((8 : Int32) * (irem v6 (4 : Int32)))) &&& 31)).toInt8.toInt32.toInt8.toInt32)) 5 (inb_mk rfl hc4.1 hc4.2) (fun n h => h) ?_
      refine go_st (k' := 35) (L' := [some (.ref 66), d1, d2, d3, d4, d5, some (.int (v6 + (1 : Int32)))]) (S' := []) (σ' := (s_i σ 70 ((σ.1 66 11) + v6).toNatClampNeg ((σ.1 71 (v6 / (4 : Int32)).toNatClampNeg) >>> (((24 : Int32) - ((8 : Int32) * (irem v6 (4 : Int32)))) &&& 31)).toInt8.toInt32.toInt8.toInt32)) 2 (fun n h => h) ?_
      exact ih _ _ _ _ _ (v6 + (1 : Int32)) (s_i σ 70 ((σ.1 66 11) + v6).toNatClampNeg ((σ.1 71 (v6 / (4 : Int32)).toNatClampNeg) >>> (((24 : Int32) - ((8 : Int32) * (irem v6 (4 : Int32)))) &&& 31)).toInt8.toInt32.toInt8.toInt32) h
def f_M_feed (N : Nat) (p0 : Int32) (p1 : Int32) (p2 : Int32) (p3 : Int32) (p4 : Int32) (σ : aSt) : Option (Int32 × aSt) :=
  (if ((σ.1 66 11) + (20 : Int32)) ≤ (200 : Int32) then f_M_feed_l35 N N (0 : Int32) (s_i (s_i (s_i (s_i (s_i σ 71 0 p0) 71 1 p1) 71 2 p2) 71 3 p3) 71 4 p4) else some ((-1 : Int32), σ))
set_option maxRecDepth 20000 in
set_option maxHeartbeats 4000000 in
theorem c_M_feed (d : Nat) {N : Nat} (p0 : Int32) (p1 : Int32) (p2 : Int32) (p3 : Int32) (p4 : Int32) (σ : aSt) {P : Option Value → aSt → Prop} {x : (Int32 × aSt)} (h : f_M_feed N p0 p1 p2 p3 p4 σ = some x) (hp : P (some (.int x.1)) x.2) : aCall MT (d + 1) 4 [.ref 66, .int p0, .int p1, .int p2, .int p3, .int p4] σ P := by
  unfold f_M_feed at h
  refine call_of (code := mc_M_feed) (L := [some (.ref 66), some (.int p0), some (.int p1), some (.int p2), some (.int p3), some (.int p4), none]) rfl rfl rfl rfl ?_
  refine go_if (c := ((σ.1 66 11) + (20 : Int32)) ≤ (200 : Int32)) (k1 := 8) (L1 := [some (.ref 66), some (.int p0), some (.int p1), some (.int p2), some (.int p3), some (.int p4), none]) (S1 := []) (σ1 := σ) (k2 := 6) (L2 := [some (.ref 66), some (.int p0), some (.int p1), some (.int p2), some (.int p3), some (.int p4), none]) (S2 := []) (σ2 := σ) 6 (fun n h => h) (fun hc1 => ?_) (fun hc1 => ?_)
  · rw [if_pos hc1] at h
    refine go_q (Q := inb 0 σ 71 (0 : Int32)) (k' := 13) (L' := [some (.ref 66), some (.int p0), some (.int p1), some (.int p2), some (.int p3), some (.int p4), none]) (S' := []) (σ' := (s_i σ 71 0 p0)) 5 (inb_mk rfl (by decide) (show (0 : Int32) < (5 : Int32) by decide)) (fun n h => h) ?_
    refine go_q (Q := inb 0 (s_i σ 71 0 p0) 71 (1 : Int32)) (k' := 18) (L' := [some (.ref 66), some (.int p0), some (.int p1), some (.int p2), some (.int p3), some (.int p4), none]) (S' := []) (σ' := (s_i (s_i σ 71 0 p0) 71 1 p1)) 5 (inb_mk rfl (by decide) (show (1 : Int32) < (5 : Int32) by decide)) (fun n h => h) ?_
    refine go_q (Q := inb 0 (s_i (s_i σ 71 0 p0) 71 1 p1) 71 (2 : Int32)) (k' := 23) (L' := [some (.ref 66), some (.int p0), some (.int p1), some (.int p2), some (.int p3), some (.int p4), none]) (S' := []) (σ' := (s_i (s_i (s_i σ 71 0 p0) 71 1 p1) 71 2 p2)) 5 (inb_mk rfl (by decide) (show (2 : Int32) < (5 : Int32) by decide)) (fun n h => h) ?_
    refine go_q (Q := inb 0 (s_i (s_i (s_i σ 71 0 p0) 71 1 p1) 71 2 p2) 71 (3 : Int32)) (k' := 28) (L' := [some (.ref 66), some (.int p0), some (.int p1), some (.int p2), some (.int p3), some (.int p4), none]) (S' := []) (σ' := (s_i (s_i (s_i (s_i σ 71 0 p0) 71 1 p1) 71 2 p2) 71 3 p3)) 5 (inb_mk rfl (by decide) (show (3 : Int32) < (5 : Int32) by decide)) (fun n h => h) ?_
    refine go_q (Q := inb 0 (s_i (s_i (s_i (s_i σ 71 0 p0) 71 1 p1) 71 2 p2) 71 3 p3) 71 (4 : Int32)) (k' := 33) (L' := [some (.ref 66), some (.int p0), some (.int p1), some (.int p2), some (.int p3), some (.int p4), none]) (S' := []) (σ' := (s_i (s_i (s_i (s_i (s_i σ 71 0 p0) 71 1 p1) 71 2 p2) 71 3 p3) 71 4 p4)) 5 (inb_mk rfl (by decide) (show (4 : Int32) < (5 : Int32) by decide)) (fun n h => h) ?_
    refine go_st (k' := 35) (L' := [some (.ref 66), some (.int p0), some (.int p1), some (.int p2), some (.int p3), none, some (.int (0 : Int32))]) (S' := []) (σ' := (s_i (s_i (s_i (s_i (s_i σ 71 0 p0) 71 1 p1) 71 2 p2) 71 3 p3) 71 4 p4)) 2 (fun n h => h) ?_
    exact t_M_feed_l35 d hp N _ _ _ _ _ (0 : Int32) (s_i (s_i (s_i (s_i (s_i σ 71 0 p0) 71 1 p1) 71 2 p2) 71 3 p3) 71 4 p4) h
  · rw [if_neg hc1] at h
    cases h
    exact go_ret 2 (fun _ => hp)
def f_M_in (p0 : Int64) (p1 : Int64) (p2 : Int64) : Bool :=
  (if p0 < p1 then false else (if p2 < p0 then false else true))
set_option maxRecDepth 20000 in
set_option maxHeartbeats 4000000 in
theorem c_M_in (d : Nat) (p0 : Int64) (p1 : Int64) (p2 : Int64) (σ : aSt) {P : Option Value → aSt → Prop} (h : P (some (.int (b2i ((f_M_in p0 p1 p2))))) σ) : aCall MT (d + 1) 7 [.long p0, .long p1, .long p2] σ P := by
  unfold f_M_in at h
  refine call_of (code := mc_M_in) (L := [some (.long p0), none, some (.long p1), none, some (.long p2), none]) rfl rfl rfl rfl ?_
  refine go_iff (lcmp_lt p0 p1) (k1 := 10) (L1 := [some (.long p0), none, some (.long p1), none, some (.long p2), none]) (S1 := []) (σ1 := σ) (k2 := 4) (L2 := [some (.long p0), none, some (.long p1), none, some (.long p2), none]) (S2 := []) (σ2 := σ) 4 (fun n h => h) (fun hc1 => ?_) (fun hc1 => ?_)
  · rw [if_pos hc1] at h
    exact go_ret 2 (fun _ => And.intro (Or.inl rfl) h)
  · rw [if_neg hc1] at h
    refine go_iff (lcmp_gt p0 p2) (k1 := 10) (L1 := [some (.long p0), none, some (.long p1), none, some (.long p2), none]) (S1 := []) (σ1 := σ) (k2 := 8) (L2 := [some (.long p0), none, some (.long p1), none, some (.long p2), none]) (S2 := []) (σ2 := σ) 4 (fun n h => h) (fun hc2 => ?_) (fun hc2 => ?_)
    · rw [if_pos hc2] at h
      exact go_ret 2 (fun _ => And.intro (Or.inl rfl) h)
    · rw [if_neg hc2] at h
      exact go_ret 3 (fun _ => And.intro (Or.inr rfl) h)
def f_M_end (p0 : Int32) (σ : aSt) : (Int32 × aSt) :=
  (if (f_M_in p0.toInt64 (0 : Int64) (σ.1 66 11).toInt64) = true then (p0, (s_i σ 66 11 p0)) else ((-1 : Int32), σ))
set_option maxRecDepth 20000 in
set_option maxHeartbeats 4000000 in
theorem c_M_end (d : Nat) (p0 : Int32) (σ : aSt) {P : Option Value → aSt → Prop} (h : P (some (.int ((f_M_end p0 σ).1))) (f_M_end p0 σ).2) : aCall MT (d + 2) 8 [.ref 66, .int p0] σ P := by
  unfold f_M_end at h
  refine call_of (code := mc_M_end) (L := [some (.ref 66), some (.int p0)]) rfl rfl rfl rfl ?_
  refine go_call (r := some (.int (b2i (f_M_in p0.toInt64 (0 : Int64) (σ.1 66 11).toInt64)))) (σc := σ) (σ1 := σ) (mi := 7) (vs := [.long p0.toInt64, .long (0 : Int64), .long (σ.1 66 11).toInt64]) (k' := 7) (L' := [some (.ref 66), some (.int p0)]) (S' := []) 7 (fun P9 h9 => c_M_in (d + 0) p0.toInt64 (0 : Int64) (σ.1 66 11).toInt64 σ h9) (fun n h => h) ?_
  refine go_ifn (b := (f_M_in p0.toInt64 (0 : Int64) (σ.1 66 11).toInt64)) (k1 := 10) (L1 := [some (.ref 66), some (.int p0)]) (S1 := []) (σ1 := σ) (k2 := 8) (L2 := [some (.ref 66), some (.int p0)]) (S2 := []) (σ2 := σ) 1 (fun n h => h) (fun hc1 => ?_) (fun hc1 => ?_)
  · rw [if_pos hc1] at h
    exact go_ret 5 (fun _ => h)
  · rw [if_neg hc1] at h
    exact go_ret 2 (fun _ => h)
def f_M_see (N : Nat) (p0 : Int32) (σ : aSt) : Option Int32 :=
  (if (σ.1 66 13) ≤ p0 then some (-1 : Int32) else (if 0 ≤ p0 ∧ p0 < (200 : Int32) then some ((σ.1 70 p0.toNatClampNeg) &&& (255 : Int32)) else none))
set_option maxRecDepth 20000 in
set_option maxHeartbeats 4000000 in
theorem c_M_see (d : Nat) {N : Nat} (p0 : Int32) (σ : aSt) {P : Option Value → aSt → Prop} {x : Int32} (h : f_M_see N p0 σ = some x) (hp : P (some (.int x)) σ) : aCall MT (d + 1) 47 [.ref 66, .int p0] σ P := by
  unfold f_M_see at h
  refine call_of (code := mc_M_see) (L := [some (.ref 66), some (.int p0)]) rfl rfl rfl rfl ?_
  refine go_if (c := (σ.1 66 13) ≤ p0) (k1 := 11) (L1 := [some (.ref 66), some (.int p0)]) (S1 := []) (σ1 := σ) (k2 := 4) (L2 := [some (.ref 66), some (.int p0)]) (S2 := []) (σ2 := σ) 4 (fun n h => h) (fun hc1 => ?_) (fun hc1 => ?_)
  · rw [if_pos hc1] at h
    cases h
    exact go_ret 2 (fun _ => hp)
  · rw [if_neg hc1] at h
    obtain ⟨hc2, h⟩ := ite_of h
    refine go_q (Q := inb 2 σ 70 p0) (k' := 8) (L' := [some (.ref 66), some (.int p0)]) (S' := [.int (σ.1 70 p0.toNatClampNeg)]) (σ' := σ) 4 (inb_mk rfl hc2.1 hc2.2) (fun n h => h) ?_
    cases h
    exact go_ret 4 (fun _ => hp)
def f_M_advance_l41 (N : Nat) : Nat → aSt → Option aSt
  | 0, _ => none
  | n + 1, σ => ((f_M_see N (σ.1 66 14) σ).bind fun x10 => (if (f_M_in x10.toInt64 (97 : Int64) (122 : Int64)) = true then f_M_advance_l41 N n (s_i σ 66 14 ((σ.1 66 14) + (1 : Int32))) else some (s_i σ 66 16 (1 : Int32))))
set_option maxRecDepth 20000 in
set_option maxHeartbeats 4000000 in
theorem t_M_advance_l41 (d : Nat) {N : Nat} {x : aSt} {P : Option Value → aSt → Prop} (hp : P none x) : ∀ (n : Nat) (d1 : Option Value) (σ : aSt), f_M_advance_l41 N n σ = some x → aGo (aCall MT (d + 1)) P mc_M_advance 41 [some (.ref 66), d1] [] σ := by
  intro n
  induction n with
  | zero => intro d1 σ h; cases h
  | succ n ih =>
    intro d1 σ h
    rw [f_M_advance_l41] at h
    obtain ⟨x10, hx10, h⟩ := bind_of h
    refine go_call (r := some (.int x10)) (σc := σ) (σ1 := σ) (mi := 47) (vs := [.ref 66, .int (σ.1 66 14)]) (k' := 45) (L' := [some (.ref 66), d1]) (S' := []) 4 (fun P9 h9 => c_M_see (d + 0) (σ.1 66 14) σ hx10 h9) (fun n h => h) ?_
    refine go_call (r := some (.int (b2i (f_M_in x10.toInt64 (97 : Int64) (122 : Int64))))) (σc := σ) (σ1 := σ) (mi := 7) (vs := [.long x10.toInt64, .long (97 : Int64), .long (122 : Int64)]) (k' := 49) (L' := [some (.ref 66), d1]) (S' := []) 4 (fun P9 h9 => c_M_in (d + 0) x10.toInt64 (97 : Int64) (122 : Int64) σ h9) (fun n h => h) ?_
    refine go_ifz (b := (f_M_in x10.toInt64 (97 : Int64) (122 : Int64))) (k1 := 57) (L1 := [some (.ref 66), d1]) (S1 := []) (σ1 := σ) (k2 := 50) (L2 := [some (.ref 66), d1]) (S2 := []) (σ2 := σ) 1 (fun n h => h) (fun hc11 => ?_) (fun hc11 => ?_)
    · rw [if_neg hc11] at h
      cases h
      exact go_ret 5 (fun _ => hp)
    · rw [if_pos hc11] at h
      refine go_st (k' := 41) (L' := [some (.ref 66), d1]) (S' := []) (σ' := (s_i σ 66 14 ((σ.1 66 14) + (1 : Int32)))) 7 (fun n h => h) ?_
      exact ih _ (s_i σ 66 14 ((σ.1 66 14) + (1 : Int32))) h
def f_M_advance_l70 (N : Nat) : Nat → aSt → Option aSt
  | 0, _ => none
  | n + 1, σ => ((f_M_see N (σ.1 66 14) σ).bind fun x13 => (if (f_M_in x13.toInt64 (48 : Int64) (57 : Int64)) = true then ((f_M_see N (σ.1 66 14) σ).bind fun x15 => f_M_advance_l70 N n (s_i (s_i σ 66 17 (imin (99999 : Int32) ((((10 : Int32) * (σ.1 66 17)) + x15) - (48 : Int32)))) 66 14 ((σ.1 66 14) + (1 : Int32)))) else some (s_i σ 66 16 (2 : Int32))))
set_option maxRecDepth 20000 in
set_option maxHeartbeats 4000000 in
theorem t_M_advance_l70 (d : Nat) {N : Nat} {x : aSt} {P : Option Value → aSt → Prop} (hp : P none x) : ∀ (n : Nat) (d1 : Option Value) (σ : aSt), f_M_advance_l70 N n σ = some x → aGo (aCall MT (d + 1)) P mc_M_advance 70 [some (.ref 66), d1] [] σ := by
  intro n
  induction n with
  | zero => intro d1 σ h; cases h
  | succ n ih =>
    intro d1 σ h
    rw [f_M_advance_l70] at h
    obtain ⟨x13, hx13, h⟩ := bind_of h
    refine go_call (r := some (.int x13)) (σc := σ) (σ1 := σ) (mi := 47) (vs := [.ref 66, .int (σ.1 66 14)]) (k' := 74) (L' := [some (.ref 66), d1]) (S' := []) 4 (fun P9 h9 => c_M_see (d + 0) (σ.1 66 14) σ hx13 h9) (fun n h => h) ?_
    refine go_call (r := some (.int (b2i (f_M_in x13.toInt64 (48 : Int64) (57 : Int64))))) (σc := σ) (σ1 := σ) (mi := 7) (vs := [.long x13.toInt64, .long (48 : Int64), .long (57 : Int64)]) (k' := 78) (L' := [some (.ref 66), d1]) (S' := []) 4 (fun P9 h9 => c_M_in (d + 0) x13.toInt64 (48 : Int64) (57 : Int64) σ h9) (fun n h => h) ?_
    refine go_ifz (b := (f_M_in x13.toInt64 (48 : Int64) (57 : Int64))) (k1 := 101) (L1 := [some (.ref 66), d1]) (S1 := []) (σ1 := σ) (k2 := 79) (L2 := [some (.ref 66), d1]) (S2 := []) (σ2 := σ) 1 (fun n h => h) (fun hc14 => ?_) (fun hc14 => ?_)
    · rw [if_neg hc14] at h
      cases h
      exact go_ret 5 (fun _ => hp)
    · rw [if_pos hc14] at h
      obtain ⟨x15, hx15, h⟩ := bind_of h
      refine go_call (r := some (.int x15)) (σc := σ) (σ1 := σ) (mi := 47) (vs := [.ref 66, .int (σ.1 66 14)]) (k' := 89) (L' := [some (.ref 66), d1]) (S' := [.int ((10 : Int32) * (σ.1 66 17)), .int (99999 : Int32), .ref 66]) 10 (fun P9 h9 => c_M_see (d + 0) (σ.1 66 14) σ hx15 h9) (fun n h => h) ?_
      refine go_st (k' := 70) (L' := [some (.ref 66), d1]) (S' := []) (σ' := (s_i (s_i σ 66 17 (imin (99999 : Int32) ((((10 : Int32) * (σ.1 66 17)) + x15) - (48 : Int32)))) 66 14 ((σ.1 66 14) + (1 : Int32)))) 12 (fun n h => h) ?_
      exact ih _ (s_i (s_i σ 66 17 (imin (99999 : Int32) ((((10 : Int32) * (σ.1 66 17)) + x15) - (48 : Int32)))) 66 14 ((σ.1 66 14) + (1 : Int32))) h
def f_M_advance_l0 (N : Nat) : Nat → aSt → Option aSt
  | 0, _ => none
  | n + 1, σ => ((f_M_see N (σ.1 66 14) σ).bind fun x3 => (if x3 = (32 : Int32) then f_M_advance_l0 N n (s_i σ 66 14 ((σ.1 66 14) + (1 : Int32))) else ((f_M_see N (σ.1 66 14) σ).bind fun x5 => (if x5 ≠ (10 : Int32) then ((f_M_see N (σ.1 66 14) (s_i σ 66 15 (σ.1 66 14))).bind fun x7 => (if x7 ≠ (-1 : Int32) then (if (f_M_in x7.toInt64 (97 : Int64) (122 : Int64)) = true then f_M_advance_l41 N N (s_i σ 66 15 (σ.1 66 14)) else (if (f_M_in x7.toInt64 (48 : Int64) (57 : Int64)) = true then f_M_advance_l70 N N (s_i (s_i σ 66 15 (σ.1 66 14)) 66 17 (0 : Int32)) else some (s_i (s_i (s_i (s_i σ 66 15 (σ.1 66 14)) 66 17 x7) 66 16 (3 : Int32)) 66 14 ((σ.1 66 14) + (1 : Int32))))) else some (s_i (s_i σ 66 15 (σ.1 66 14)) 66 16 (0 : Int32)))) else f_M_advance_l0 N n (s_i σ 66 14 ((σ.1 66 14) + (1 : Int32)))))))
set_option maxRecDepth 20000 in
set_option maxHeartbeats 4000000 in
theorem t_M_advance_l0 (d : Nat) {N : Nat} {x : aSt} {P : Option Value → aSt → Prop} (hp : P none x) : ∀ (n : Nat) (d1 : Option Value) (σ : aSt), f_M_advance_l0 N n σ = some x → aGo (aCall MT (d + 1)) P mc_M_advance 0 [some (.ref 66), d1] [] σ := by
  intro n
  induction n with
  | zero => intro d1 σ h; cases h
  | succ n ih =>
    intro d1 σ h
    rw [f_M_advance_l0] at h
    obtain ⟨x3, hx3, h⟩ := bind_of h
    refine go_call (r := some (.int x3)) (σc := σ) (σ1 := σ) (mi := 47) (vs := [.ref 66, .int (σ.1 66 14)]) (k' := 4) (L' := [some (.ref 66), d1]) (S' := []) 4 (fun P9 h9 => c_M_see (d + 0) (σ.1 66 14) σ hx3 h9) (fun n h => h) ?_
    refine go_if (c := x3 = (32 : Int32)) (k1 := 12) (L1 := [some (.ref 66), d1]) (S1 := []) (σ1 := σ) (k2 := 6) (L2 := [some (.ref 66), d1]) (S2 := []) (σ2 := σ) 2 (fun n h => h) (fun hc4 => ?_) (fun hc4 => ?_)
    · rw [if_pos hc4] at h
      refine go_st (k' := 0) (L' := [some (.ref 66), d1]) (S' := []) (σ' := (s_i σ 66 14 ((σ.1 66 14) + (1 : Int32)))) 7 (fun n h => h) ?_
      exact ih _ (s_i σ 66 14 ((σ.1 66 14) + (1 : Int32))) h
    · rw [if_neg hc4] at h
      obtain ⟨x5, hx5, h⟩ := bind_of h
      refine go_call (r := some (.int x5)) (σc := σ) (σ1 := σ) (mi := 47) (vs := [.ref 66, .int (σ.1 66 14)]) (k' := 10) (L' := [some (.ref 66), d1]) (S' := []) 4 (fun P9 h9 => c_M_see (d + 0) (σ.1 66 14) σ hx5 h9) (fun n h => h) ?_
      refine go_if (c := x5 ≠ (10 : Int32)) (k1 := 19) (L1 := [some (.ref 66), d1]) (S1 := []) (σ1 := σ) (k2 := 12) (L2 := [some (.ref 66), d1]) (S2 := []) (σ2 := σ) 2 (fun n h => h) (fun hc6 => ?_) (fun hc6 => ?_)
      · rw [if_pos hc6] at h
        obtain ⟨x7, hx7, h⟩ := bind_of h
        refine go_call (r := some (.int x7)) (σc := (s_i σ 66 15 (σ.1 66 14))) (σ1 := (s_i σ 66 15 (σ.1 66 14))) (mi := 47) (vs := [.ref 66, .int (σ.1 66 14)]) (k' := 27) (L' := [some (.ref 66), d1]) (S' := []) 8 (fun P9 h9 => c_M_see (d + 0) (σ.1 66 14) (s_i σ 66 15 (σ.1 66 14)) hx7 h9) (fun n h => h) ?_
        refine go_if (c := x7 ≠ (-1 : Int32)) (k1 := 35) (L1 := [some (.ref 66), some (.int x7)]) (S1 := []) (σ1 := (s_i σ 66 15 (σ.1 66 14))) (k2 := 31) (L2 := [some (.ref 66), some (.int x7)]) (S2 := []) (σ2 := (s_i σ 66 15 (σ.1 66 14))) 4 (fun n h => h) (fun hc8 => ?_) (fun hc8 => ?_)
        · rw [if_pos hc8] at h
          refine go_call (r := some (.int (b2i (f_M_in x7.toInt64 (97 : Int64) (122 : Int64))))) (σc := (s_i σ 66 15 (σ.1 66 14))) (σ1 := (s_i σ 66 15 (σ.1 66 14))) (mi := 7) (vs := [.long x7.toInt64, .long (97 : Int64), .long (122 : Int64)]) (k' := 40) (L' := [some (.ref 66), some (.int x7)]) (S' := []) 5 (fun P9 h9 => c_M_in (d + 0) x7.toInt64 (97 : Int64) (122 : Int64) (s_i σ 66 15 (σ.1 66 14)) h9) (fun n h => h) ?_
          refine go_ifz (b := (f_M_in x7.toInt64 (97 : Int64) (122 : Int64))) (k1 := 61) (L1 := [some (.ref 66), some (.int x7)]) (S1 := []) (σ1 := (s_i σ 66 15 (σ.1 66 14))) (k2 := 41) (L2 := [some (.ref 66), some (.int x7)]) (S2 := []) (σ2 := (s_i σ 66 15 (σ.1 66 14))) 1 (fun n h => h) (fun hc9 => ?_) (fun hc9 => ?_)
          · rw [if_neg hc9] at h
            refine go_call (r := some (.int (b2i (f_M_in x7.toInt64 (48 : Int64) (57 : Int64))))) (σc := (s_i σ 66 15 (σ.1 66 14))) (σ1 := (s_i σ 66 15 (σ.1 66 14))) (mi := 7) (vs := [.long x7.toInt64, .long (48 : Int64), .long (57 : Int64)]) (k' := 66) (L' := [some (.ref 66), some (.int x7)]) (S' := []) 5 (fun P9 h9 => c_M_in (d + 0) x7.toInt64 (48 : Int64) (57 : Int64) (s_i σ 66 15 (σ.1 66 14)) h9) (fun n h => h) ?_
            refine go_ifz (b := (f_M_in x7.toInt64 (48 : Int64) (57 : Int64))) (k1 := 105) (L1 := [some (.ref 66), some (.int x7)]) (S1 := []) (σ1 := (s_i σ 66 15 (σ.1 66 14))) (k2 := 67) (L2 := [some (.ref 66), some (.int x7)]) (S2 := []) (σ2 := (s_i σ 66 15 (σ.1 66 14))) 1 (fun n h => h) (fun hc12 => ?_) (fun hc12 => ?_)
            · rw [if_neg hc12] at h
              cases h
              exact go_ret 13 (fun _ => hp)
            · rw [if_pos hc12] at h
              refine go_st (k' := 70) (L' := [some (.ref 66), some (.int x7)]) (S' := []) (σ' := (s_i (s_i σ 66 15 (σ.1 66 14)) 66 17 (0 : Int32))) 3 (fun n h => h) ?_
              exact t_M_advance_l70 d hp N _ (s_i (s_i σ 66 15 (σ.1 66 14)) 66 17 (0 : Int32)) h
          · rw [if_pos hc9] at h
            exact t_M_advance_l41 d hp N _ (s_i σ 66 15 (σ.1 66 14)) h
        · rw [if_neg hc8] at h
          cases h
          exact go_ret 5 (fun _ => hp)
      · rw [if_neg hc6] at h
        refine go_st (k' := 0) (L' := [some (.ref 66), d1]) (S' := []) (σ' := (s_i σ 66 14 ((σ.1 66 14) + (1 : Int32)))) 7 (fun n h => h) ?_
        exact ih _ (s_i σ 66 14 ((σ.1 66 14) + (1 : Int32))) h
def f_M_advance_b12 (N : Nat) (σ : aSt) : Option aSt :=
  f_M_advance_l0 N N (s_i σ 66 14 ((σ.1 66 14) + (1 : Int32)))
set_option maxRecDepth 20000 in
set_option maxHeartbeats 4000000 in
theorem t_M_advance_b12 (d : Nat) {N : Nat} (d1 : Option Value) (σ : aSt) {P : Option Value → aSt → Prop} {x : aSt} (h : f_M_advance_b12 N σ = some x) (hp : P none x) : aGo (aCall MT (d + 1)) P mc_M_advance 12 [some (.ref 66), d1] [] σ := by
  unfold f_M_advance_b12 at h
  refine go_st (k' := 0) (L' := [some (.ref 66), d1]) (S' := []) (σ' := (s_i σ 66 14 ((σ.1 66 14) + (1 : Int32)))) 7 (fun n h => h) ?_
  exact t_M_advance_l0 d hp N _ (s_i σ 66 14 ((σ.1 66 14) + (1 : Int32))) h
def f_M_advance (N : Nat) (σ : aSt) : Option aSt :=
  ((f_M_see N (σ.1 66 14) σ).bind fun x1 => (if x1 = (32 : Int32) then f_M_advance_b12 N σ else ((f_M_see N (σ.1 66 14) σ).bind fun x16 => (if x16 ≠ (10 : Int32) then ((f_M_see N (σ.1 66 14) (s_i σ 66 15 (σ.1 66 14))).bind fun x18 => (if x18 ≠ (-1 : Int32) then (if (f_M_in x18.toInt64 (97 : Int64) (122 : Int64)) = true then f_M_advance_l41 N N (s_i σ 66 15 (σ.1 66 14)) else (if (f_M_in x18.toInt64 (48 : Int64) (57 : Int64)) = true then f_M_advance_l70 N N (s_i (s_i σ 66 15 (σ.1 66 14)) 66 17 (0 : Int32)) else some (s_i (s_i (s_i (s_i σ 66 15 (σ.1 66 14)) 66 17 x18) 66 16 (3 : Int32)) 66 14 ((σ.1 66 14) + (1 : Int32))))) else some (s_i (s_i σ 66 15 (σ.1 66 14)) 66 16 (0 : Int32)))) else f_M_advance_b12 N σ))))
set_option maxRecDepth 20000 in
set_option maxHeartbeats 4000000 in
theorem c_M_advance (d : Nat) {N : Nat} (σ : aSt) {P : Option Value → aSt → Prop} {x : aSt} (h : f_M_advance N σ = some x) (hp : P none x) : aCall MT (d + 2) 48 [.ref 66] σ P := by
  unfold f_M_advance at h
  refine call_of (code := mc_M_advance) (L := [some (.ref 66), none]) rfl rfl rfl rfl ?_
  obtain ⟨x1, hx1, h⟩ := bind_of h
  refine go_call (r := some (.int x1)) (σc := σ) (σ1 := σ) (mi := 47) (vs := [.ref 66, .int (σ.1 66 14)]) (k' := 4) (L' := [some (.ref 66), none]) (S' := []) 4 (fun P9 h9 => c_M_see (d + 0) (σ.1 66 14) σ hx1 h9) (fun n h => h) ?_
  refine go_if (c := x1 = (32 : Int32)) (k1 := 12) (L1 := [some (.ref 66), none]) (S1 := []) (σ1 := σ) (k2 := 6) (L2 := [some (.ref 66), none]) (S2 := []) (σ2 := σ) 2 (fun n h => h) (fun hc2 => ?_) (fun hc2 => ?_)
  · rw [if_pos hc2] at h
    exact t_M_advance_b12 d _ σ h hp
  · rw [if_neg hc2] at h
    obtain ⟨x16, hx16, h⟩ := bind_of h
    refine go_call (r := some (.int x16)) (σc := σ) (σ1 := σ) (mi := 47) (vs := [.ref 66, .int (σ.1 66 14)]) (k' := 10) (L' := [some (.ref 66), none]) (S' := []) 4 (fun P9 h9 => c_M_see (d + 0) (σ.1 66 14) σ hx16 h9) (fun n h => h) ?_
    refine go_if (c := x16 ≠ (10 : Int32)) (k1 := 19) (L1 := [some (.ref 66), none]) (S1 := []) (σ1 := σ) (k2 := 12) (L2 := [some (.ref 66), none]) (S2 := []) (σ2 := σ) 2 (fun n h => h) (fun hc17 => ?_) (fun hc17 => ?_)
    · rw [if_pos hc17] at h
      obtain ⟨x18, hx18, h⟩ := bind_of h
      refine go_call (r := some (.int x18)) (σc := (s_i σ 66 15 (σ.1 66 14))) (σ1 := (s_i σ 66 15 (σ.1 66 14))) (mi := 47) (vs := [.ref 66, .int (σ.1 66 14)]) (k' := 27) (L' := [some (.ref 66), none]) (S' := []) 8 (fun P9 h9 => c_M_see (d + 0) (σ.1 66 14) (s_i σ 66 15 (σ.1 66 14)) hx18 h9) (fun n h => h) ?_
      refine go_if (c := x18 ≠ (-1 : Int32)) (k1 := 35) (L1 := [some (.ref 66), some (.int x18)]) (S1 := []) (σ1 := (s_i σ 66 15 (σ.1 66 14))) (k2 := 31) (L2 := [some (.ref 66), some (.int x18)]) (S2 := []) (σ2 := (s_i σ 66 15 (σ.1 66 14))) 4 (fun n h => h) (fun hc19 => ?_) (fun hc19 => ?_)
      · rw [if_pos hc19] at h
        refine go_call (r := some (.int (b2i (f_M_in x18.toInt64 (97 : Int64) (122 : Int64))))) (σc := (s_i σ 66 15 (σ.1 66 14))) (σ1 := (s_i σ 66 15 (σ.1 66 14))) (mi := 7) (vs := [.long x18.toInt64, .long (97 : Int64), .long (122 : Int64)]) (k' := 40) (L' := [some (.ref 66), some (.int x18)]) (S' := []) 5 (fun P9 h9 => c_M_in (d + 0) x18.toInt64 (97 : Int64) (122 : Int64) (s_i σ 66 15 (σ.1 66 14)) h9) (fun n h => h) ?_
        refine go_ifz (b := (f_M_in x18.toInt64 (97 : Int64) (122 : Int64))) (k1 := 61) (L1 := [some (.ref 66), some (.int x18)]) (S1 := []) (σ1 := (s_i σ 66 15 (σ.1 66 14))) (k2 := 41) (L2 := [some (.ref 66), some (.int x18)]) (S2 := []) (σ2 := (s_i σ 66 15 (σ.1 66 14))) 1 (fun n h => h) (fun hc20 => ?_) (fun hc20 => ?_)
        · rw [if_neg hc20] at h
          refine go_call (r := some (.int (b2i (f_M_in x18.toInt64 (48 : Int64) (57 : Int64))))) (σc := (s_i σ 66 15 (σ.1 66 14))) (σ1 := (s_i σ 66 15 (σ.1 66 14))) (mi := 7) (vs := [.long x18.toInt64, .long (48 : Int64), .long (57 : Int64)]) (k' := 66) (L' := [some (.ref 66), some (.int x18)]) (S' := []) 5 (fun P9 h9 => c_M_in (d + 0) x18.toInt64 (48 : Int64) (57 : Int64) (s_i σ 66 15 (σ.1 66 14)) h9) (fun n h => h) ?_
          refine go_ifz (b := (f_M_in x18.toInt64 (48 : Int64) (57 : Int64))) (k1 := 105) (L1 := [some (.ref 66), some (.int x18)]) (S1 := []) (σ1 := (s_i σ 66 15 (σ.1 66 14))) (k2 := 67) (L2 := [some (.ref 66), some (.int x18)]) (S2 := []) (σ2 := (s_i σ 66 15 (σ.1 66 14))) 1 (fun n h => h) (fun hc21 => ?_) (fun hc21 => ?_)
          · rw [if_neg hc21] at h
            cases h
            exact go_ret 13 (fun _ => hp)
          · rw [if_pos hc21] at h
            refine go_st (k' := 70) (L' := [some (.ref 66), some (.int x18)]) (S' := []) (σ' := (s_i (s_i σ 66 15 (σ.1 66 14)) 66 17 (0 : Int32))) 3 (fun n h => h) ?_
            exact t_M_advance_l70 d hp N _ (s_i (s_i σ 66 15 (σ.1 66 14)) 66 17 (0 : Int32)) h
        · rw [if_pos hc20] at h
          exact t_M_advance_l41 d hp N _ (s_i σ 66 15 (σ.1 66 14)) h
      · rw [if_neg hc19] at h
        cases h
        exact go_ret 5 (fun _ => hp)
    · rw [if_neg hc17] at h
      exact t_M_advance_b12 d _ σ h hp
