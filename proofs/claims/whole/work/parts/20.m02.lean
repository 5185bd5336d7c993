def f_Sums_orderOf_l21 (N : Nat) : Nat → Int32 → Int32 → Int32 → Int32 → aSt → Option (Int32 × aSt)
  | 0, _, _, _, _, _ => none
  | n + 1, v1, v3, v4, v5, σ => (if (12 : Int32) < v5 then (lt (f_store σ 23 v1 v3) fun x4 => some (v3, x4)) else (if v3 ≠ 0 then (lt (f_store σ 23 v1 v3) fun x6 => some (v3, x6)) else (if v4 = (-6 : Int32) then (lt (f_store σ 23 v1 v3) fun x8 => some (v3, x8)) else ((f_Sums_total N v4 v1 σ).bind fun x9 => (if x9.1 ≠ (1000 : Int32) then f_Sums_orderOf_l21 N n v1 v3 x9.1 (v5 + (1 : Int32)) x9.2 else f_Sums_orderOf_l21 N n v1 v5 x9.1 (v5 + (1 : Int32)) x9.2)))))
set_option maxRecDepth 20000 in
set_option maxHeartbeats 4000000 in
theorem t_Sums_orderOf_l21 (d : Nat) {N : Nat} {x : (Int32 × aSt)} {P : Option Value → aSt → Prop} (hp : P (some (.int x.1)) x.2) : ∀ (n : Nat) (d2 : Option Value) (v1 : Int32) (v3 : Int32) (v4 : Int32) (v5 : Int32) (σ : aSt), f_Sums_orderOf_l21 N n v1 v3 v4 v5 σ = some x → aGo (aCall MT (d + 4)) P mc_Sums_orderOf 21 [some (.ref 21), some (.int v1), d2, some (.int v3), some (.int v4), some (.int v5)] [] σ := by
  intro n
  induction n with
  | zero => intro d2 v1 v3 v4 v5 σ h; cases h
  | succ n ih =>
    intro d2 v1 v3 v4 v5 σ h
    rw [f_Sums_orderOf_l21] at h
    refine go_if (c := (12 : Int32) < v5) (k1 := 41) (L1 := [some (.ref 21), some (.int v1), d2, some (.int v3), some (.int v4), some (.int v5)]) (S1 := []) (σ1 := σ) (k2 := 24) (L2 := [some (.ref 21), some (.int v1), d2, some (.int v3), some (.int v4), some (.int v5)]) (S2 := []) (σ2 := σ) 3 (fun n h => h) (fun hc3 => ?_) (fun hc3 => ?_)
    · rw [if_pos hc3] at h
      obtain ⟨x4, hx4, h⟩ := lt_of h
      refine go_call (r := none) (σc := σ) (σ1 := x4) (mi := 1) (vs := [.ref 23, .int v1, .int v3]) (k' := 46) (L' := [some (.ref 21), some (.int v1), d2, some (.int v3), some (.int v4), some (.int v5)]) (S' := []) 5 (fun P9 h9 => c_store (d + 3) σ 23 rfl rfl v1 v3 (by rw [← hx4]; exact h9)) (fun n h => h) ?_
      cases h
      exact go_ret 2 (fun _ => hp)
    · rw [if_neg hc3] at h
      refine go_if (c := v3 ≠ 0) (k1 := 41) (L1 := [some (.ref 21), some (.int v1), d2, some (.int v3), some (.int v4), some (.int v5)]) (S1 := []) (σ1 := σ) (k2 := 26) (L2 := [some (.ref 21), some (.int v1), d2, some (.int v3), some (.int v4), some (.int v5)]) (S2 := []) (σ2 := σ) 2 (fun n h => h) (fun hc5 => ?_) (fun hc5 => ?_)
      · rw [if_pos hc5] at h
        obtain ⟨x6, hx6, h⟩ := lt_of h
        refine go_call (r := none) (σc := σ) (σ1 := x6) (mi := 1) (vs := [.ref 23, .int v1, .int v3]) (k' := 46) (L' := [some (.ref 21), some (.int v1), d2, some (.int v3), some (.int v4), some (.int v5)]) (S' := []) 5 (fun P9 h9 => c_store (d + 3) σ 23 rfl rfl v1 v3 (by rw [← hx6]; exact h9)) (fun n h => h) ?_
        cases h
        exact go_ret 2 (fun _ => hp)
      · rw [if_neg hc5] at h
        refine go_if (c := v4 = (-6 : Int32)) (k1 := 41) (L1 := [some (.ref 21), some (.int v1), d2, some (.int v3), some (.int v4), some (.int v5)]) (S1 := []) (σ1 := σ) (k2 := 29) (L2 := [some (.ref 21), some (.int v1), d2, some (.int v3), some (.int v4), some (.int v5)]) (S2 := []) (σ2 := σ) 3 (fun n h => h) (fun hc7 => ?_) (fun hc7 => ?_)
        · rw [if_pos hc7] at h
          obtain ⟨x8, hx8, h⟩ := lt_of h
          refine go_call (r := none) (σc := σ) (σ1 := x8) (mi := 1) (vs := [.ref 23, .int v1, .int v3]) (k' := 46) (L' := [some (.ref 21), some (.int v1), d2, some (.int v3), some (.int v4), some (.int v5)]) (S' := []) 5 (fun P9 h9 => c_store (d + 3) σ 23 rfl rfl v1 v3 (by rw [← hx8]; exact h9)) (fun n h => h) ?_
          cases h
          exact go_ret 2 (fun _ => hp)
        · rw [if_neg hc7] at h
          obtain ⟨x9, hx9, h⟩ := bind_of h
          refine go_call (r := some (.int x9.1)) (σc := σ) (σ1 := x9.2) (mi := 101) (vs := [.ref 21, .int v4, .int v1]) (k' := 33) (L' := [some (.ref 21), some (.int v1), d2, some (.int v3), some (.int v4), some (.int v5)]) (S' := []) 4 (fun P9 h9 => c_Sums_total (d + 0) v4 v1 σ hx9 h9) (fun n h => h) ?_
          refine go_if (c := x9.1 ≠ (1000 : Int32)) (k1 := 39) (L1 := [some (.ref 21), some (.int v1), d2, some (.int v3), some (.int x9.1), some (.int v5)]) (S1 := []) (σ1 := x9.2) (k2 := 37) (L2 := [some (.ref 21), some (.int v1), d2, some (.int v3), some (.int x9.1), some (.int v5)]) (S2 := []) (σ2 := x9.2) 4 (fun n h => h) (fun hc10 => ?_) (fun hc10 => ?_)
          · rw [if_pos hc10] at h
            refine go_st (k' := 21) (L' := [some (.ref 21), some (.int v1), d2, some (.int v3), some (.int x9.1), some (.int (v5 + (1 : Int32)))]) (S' := []) (σ' := x9.2) 2 (fun n h => h) ?_
            exact ih _ v1 v3 x9.1 (v5 + (1 : Int32)) x9.2 h
          · rw [if_neg hc10] at h
            refine go_st (k' := 21) (L' := [some (.ref 21), some (.int v1), none, some (.int v5), some (.int x9.1), some (.int (v5 + (1 : Int32)))]) (S' := []) (σ' := x9.2) 4 (fun n h => h) ?_
            exact ih _ v1 v5 x9.1 (v5 + (1 : Int32)) x9.2 h
def f_Sums_orderOf (N : Nat) (p0 : Int32) (σ : aSt) : Option (Int32 × aSt) :=
  (if p0 ≠ (1000 : Int32) then (if (f_pick σ 23 p0) = (-1 : Int32) then f_Sums_orderOf_l21 N N p0 (0 : Int32) p0 (2 : Int32) σ else some ((f_pick σ 23 p0), σ)) else some ((1 : Int32), σ))
set_option maxRecDepth 20000 in
set_option maxHeartbeats 4000000 in
theorem c_Sums_orderOf (d : Nat) {N : Nat} (p0 : Int32) (σ : aSt) {P : Option Value → aSt → Prop} {x : (Int32 × aSt)} (h : f_Sums_orderOf N p0 σ = some x) (hp : P (some (.int x.1)) x.2) : aCall MT (d + 5) 120 [.ref 21, .int p0] σ P := by
  unfold f_Sums_orderOf at h
  refine call_of (code := mc_Sums_orderOf) (L := [some (.ref 21), some (.int p0), none, none, none, none]) rfl rfl rfl rfl ?_
  refine go_if (c := p0 ≠ (1000 : Int32)) (k1 := 5) (L1 := [some (.ref 21), some (.int p0), none, none, none, none]) (S1 := []) (σ1 := σ) (k2 := 3) (L2 := [some (.ref 21), some (.int p0), none, none, none, none]) (S2 := []) (σ2 := σ) 3 (fun n h => h) (fun hc1 => ?_) (fun hc1 => ?_)
  · rw [if_pos hc1] at h
    refine go_call (r := some (.int (f_pick σ 23 p0))) (σc := σ) (σ1 := σ) (mi := 9) (vs := [.ref 23, .int p0]) (k' := 9) (L' := [some (.ref 21), some (.int p0), none, none, none, none]) (S' := []) 4 (fun P9 h9 => c_pick (d + 3) σ 23 rfl p0 h9) (fun n h => h) ?_
    refine go_if (c := (f_pick σ 23 p0) = (-1 : Int32)) (k1 := 15) (L1 := [some (.ref 21), some (.int p0), some (.int (f_pick σ 23 p0)), none, none, none]) (S1 := []) (σ1 := σ) (k2 := 13) (L2 := [some (.ref 21), some (.int p0), some (.int (f_pick σ 23 p0)), none, none, none]) (S2 := []) (σ2 := σ) 4 (fun n h => h) (fun hc2 => ?_) (fun hc2 => ?_)
    · rw [if_pos hc2] at h
      refine go_st (k' := 21) (L' := [some (.ref 21), some (.int p0), none, some (.int (0 : Int32)), some (.int p0), some (.int (2 : Int32))]) (S' := []) (σ' := σ) 6 (fun n h => h) ?_
      exact t_Sums_orderOf_l21 d hp N _ p0 (0 : Int32) p0 (2 : Int32) σ h
    · rw [if_neg hc2] at h
      cases h
      exact go_ret 2 (fun _ => hp)
  · rw [if_neg hc1] at h
    cases h
    exact go_ret 2 (fun _ => hp)
def f_X_order (N : Nat) (p0 : Int32) (σ : aSt) : Option (Int32 × aSt) :=
  (if (f_X_isPoint p0 σ) = true then ((f_Sums_orderOf N p0 σ).bind fun x2 => some (x2.1, x2.2)) else some ((-2 : Int32), σ))
set_option maxRecDepth 20000 in
set_option maxHeartbeats 4000000 in
theorem c_X_order (d : Nat) {N : Nat} (p0 : Int32) (σ : aSt) {P : Option Value → aSt → Prop} {x : (Int32 × aSt)} (h : f_X_order N p0 σ = some x) (hp : P (some (.int x.1)) x.2) : aCall MT (d + 6) 121 [.ref 0, .int p0] σ P := by
  unfold f_X_order at h
  refine call_of (code := mc_X_order) (L := [some (.ref 0), some (.int p0)]) rfl rfl rfl rfl ?_
  refine go_call (r := some (.int (b2i (f_X_isPoint p0 σ)))) (σc := σ) (σ1 := σ) (mi := 85) (vs := [.ref 0, .int p0]) (k' := 3) (L' := [some (.ref 0), some (.int p0)]) (S' := []) 3 (fun P9 h9 => c_X_isPoint (d + 2) p0 σ h9) (fun n h => h) ?_
  refine go_ifz (b := (f_X_isPoint p0 σ)) (k1 := 9) (L1 := [some (.ref 0), some (.int p0)]) (S1 := []) (σ1 := σ) (k2 := 4) (L2 := [some (.ref 0), some (.int p0)]) (S2 := []) (σ2 := σ) 1 (fun n h => h) (fun hc1 => ?_) (fun hc1 => ?_)
  · rw [if_neg hc1] at h
    cases h
    exact go_ret 2 (fun _ => hp)
  · rw [if_pos hc1] at h
    obtain ⟨x2, hx2, h⟩ := bind_of h
    refine go_call (r := some (.int x2.1)) (σc := σ) (σ1 := x2.2) (mi := 120) (vs := [.ref 21, .int p0]) (k' := 8) (L' := [some (.ref 0), some (.int p0)]) (S' := []) 4 (fun P9 h9 => c_Sums_orderOf (d + 0) p0 σ hx2 h9) (fun n h => h) ?_
    cases h
    exact go_ret 2 (fun _ => hp)
def f_X_round_l18 (N : Nat) : Nat → Int32 → Int32 → Int32 → Int32 → Int32 → aSt → Option (Int32 × aSt)
  | 0, _, _, _, _, _, _ => none
  | n + 1, v1, v2, v3, v4, v5, σ => (if (f_PointList_shown_11 σ) ≤ v5 then (if v1 ≠ 0 then (if v1 ≠ (1 : Int32) then some (v4, σ) else some (v3, σ)) else some (v2, σ)) else ((f_Sums_orderOf N v5 σ).bind fun x7 => (if x7.1 ≤ 0 then (if x7.1 ≠ (2 : Int32) then f_X_round_l18 N n v1 v2 (imax v3 x7.1) v4 (v5 + (1 : Int32)) x7.2 else f_X_round_l18 N n v1 v2 (imax v3 x7.1) (v4 + (1 : Int32)) (v5 + (1 : Int32)) x7.2) else (if x7.1 ≠ (2 : Int32) then f_X_round_l18 N n v1 (v2 + (1 : Int32)) (imax v3 x7.1) v4 (v5 + (1 : Int32)) x7.2 else f_X_round_l18 N n v1 (v2 + (1 : Int32)) (imax v3 x7.1) (v4 + (1 : Int32)) (v5 + (1 : Int32)) x7.2))))
set_option maxRecDepth 20000 in
set_option maxHeartbeats 4000000 in
theorem t_X_round_l18 (d : Nat) {N : Nat} {x : (Int32 × aSt)} {P : Option Value → aSt → Prop} (hp : P (some (.int x.1)) x.2) : ∀ (n : Nat) (d6 : Option Value) (v1 : Int32) (v2 : Int32) (v3 : Int32) (v4 : Int32) (v5 : Int32) (σ : aSt), f_X_round_l18 N n v1 v2 v3 v4 v5 σ = some x → aGo (aCall MT (d + 5)) P mc_X_round 18 [some (.ref 0), some (.int v1), some (.int v2), some (.int v3), some (.int v4), some (.int v5), d6] [] σ := by
  intro n
  induction n with
  | zero => intro d6 v1 v2 v3 v4 v5 σ h; cases h
  | succ n ih =>
    intro d6 v1 v2 v3 v4 v5 σ h
    rw [f_X_round_l18] at h
    refine go_call (r := some (.int (f_PointList_shown_11 σ))) (σc := σ) (σ1 := σ) (mi := 44) (vs := [.ref 11]) (k' := 22) (L' := [some (.ref 0), some (.int v1), some (.int v2), some (.int v3), some (.int v4), some (.int v5), d6]) (S' := [.int v5]) 4 (fun P9 h9 => c_PointList_shown_11 (d + 4) σ h9) (fun n h => h) ?_
    refine go_if (c := (f_PointList_shown_11 σ) ≤ v5) (k1 := 41) (L1 := [some (.ref 0), some (.int v1), some (.int v2), some (.int v3), some (.int v4), some (.int v5), d6]) (S1 := []) (σ1 := σ) (k2 := 23) (L2 := [some (.ref 0), some (.int v1), some (.int v2), some (.int v3), some (.int v4), some (.int v5), d6]) (S2 := []) (σ2 := σ) 1 (fun n h => h) (fun hc4 => ?_) (fun hc4 => ?_)
    · rw [if_pos hc4] at h
      refine go_if (c := v1 ≠ 0) (k1 := 45) (L1 := [some (.ref 0), some (.int v1), some (.int v2), some (.int v3), some (.int v4), some (.int v5), d6]) (S1 := []) (σ1 := σ) (k2 := 43) (L2 := [some (.ref 0), some (.int v1), some (.int v2), some (.int v3), some (.int v4), some (.int v5), d6]) (S2 := []) (σ2 := σ) 2 (fun n h => h) (fun hc5 => ?_) (fun hc5 => ?_)
      · rw [if_pos hc5] at h
        refine go_if (c := v1 ≠ (1 : Int32)) (k1 := 50) (L1 := [some (.ref 0), some (.int v1), some (.int v2), some (.int v3), some (.int v4), some (.int v5), d6]) (S1 := []) (σ1 := σ) (k2 := 48) (L2 := [some (.ref 0), some (.int v1), some (.int v2), some (.int v3), some (.int v4), some (.int v5), d6]) (S2 := []) (σ2 := σ) 3 (fun n h => h) (fun hc6 => ?_) (fun hc6 => ?_)
        · rw [if_pos hc6] at h
          cases h
          exact go_ret 2 (fun _ => hp)
        · rw [if_neg hc6] at h
          cases h
          exact go_ret 3 (fun _ => hp)
      · rw [if_neg hc5] at h
        cases h
        exact go_ret 2 (fun _ => hp)
    · rw [if_neg hc4] at h
      obtain ⟨x7, hx7, h⟩ := bind_of h
      refine go_call (r := some (.int x7.1)) (σc := σ) (σ1 := x7.2) (mi := 120) (vs := [.ref 21, .int v5]) (k' := 27) (L' := [some (.ref 0), some (.int v1), some (.int v2), some (.int v3), some (.int v4), some (.int v5), d6]) (S' := []) 4 (fun P9 h9 => c_Sums_orderOf (d + 0) v5 σ hx7 h9) (fun n h => h) ?_
      refine go_if (c := x7.1 ≤ 0) (k1 := 31) (L1 := [some (.ref 0), some (.int v1), some (.int v2), some (.int v3), some (.int v4), some (.int v5), some (.int x7.1)]) (S1 := []) (σ1 := x7.2) (k2 := 30) (L2 := [some (.ref 0), some (.int v1), some (.int v2), some (.int v3), some (.int v4), some (.int v5), some (.int x7.1)]) (S2 := []) (σ2 := x7.2) 3 (fun n h => h) (fun hc8 => ?_) (fun hc8 => ?_)
      · rw [if_pos hc8] at h
        refine go_if (c := x7.1 ≠ (2 : Int32)) (k1 := 35) (L1 := [some (.ref 0), some (.int v1), some (.int v2), some (.int v3), some (.int v4), some (.int v5), some (.int x7.1)]) (S1 := []) (σ1 := x7.2) (k2 := 34) (L2 := [some (.ref 0), some (.int v1), some (.int v2), some (.int v3), some (.int v4), some (.int v5), some (.int x7.1)]) (S2 := []) (σ2 := x7.2) 3 (fun n h => h) (fun hc9 => ?_) (fun hc9 => ?_)
        · rw [if_pos hc9] at h
          refine go_st (k' := 18) (L' := [some (.ref 0), some (.int v1), some (.int v2), some (.int (imax v3 x7.1)), some (.int v4), some (.int (v5 + (1 : Int32))), some (.int x7.1)]) (S' := []) (σ' := x7.2) 6 (fun n h => h) ?_
          exact ih _ v1 v2 (imax v3 x7.1) v4 (v5 + (1 : Int32)) x7.2 h
        · rw [if_neg hc9] at h
          refine go_st (k' := 18) (L' := [some (.ref 0), some (.int v1), some (.int v2), some (.int (imax v3 x7.1)), some (.int (v4 + (1 : Int32))), some (.int (v5 + (1 : Int32))), some (.int x7.1)]) (S' := []) (σ' := x7.2) 7 (fun n h => h) ?_
          exact ih _ v1 v2 (imax v3 x7.1) (v4 + (1 : Int32)) (v5 + (1 : Int32)) x7.2 h
      · rw [if_neg hc8] at h
        refine go_if (c := x7.1 ≠ (2 : Int32)) (k1 := 35) (L1 := [some (.ref 0), some (.int v1), some (.int (v2 + (1 : Int32))), some (.int v3), some (.int v4), some (.int v5), some (.int x7.1)]) (S1 := []) (σ1 := x7.2) (k2 := 34) (L2 := [some (.ref 0), some (.int v1), some (.int (v2 + (1 : Int32))), some (.int v3), some (.int v4), some (.int v5), some (.int x7.1)]) (S2 := []) (σ2 := x7.2) 4 (fun n h => h) (fun hc10 => ?_) (fun hc10 => ?_)
        · rw [if_pos hc10] at h
          refine go_st (k' := 18) (L' := [some (.ref 0), some (.int v1), some (.int (v2 + (1 : Int32))), some (.int (imax v3 x7.1)), some (.int v4), some (.int (v5 + (1 : Int32))), some (.int x7.1)]) (S' := []) (σ' := x7.2) 6 (fun n h => h) ?_
          exact ih _ v1 (v2 + (1 : Int32)) (imax v3 x7.1) v4 (v5 + (1 : Int32)) x7.2 h
        · rw [if_neg hc10] at h
          refine go_st (k' := 18) (L' := [some (.ref 0), some (.int v1), some (.int (v2 + (1 : Int32))), some (.int (imax v3 x7.1)), some (.int (v4 + (1 : Int32))), some (.int (v5 + (1 : Int32))), some (.int x7.1)]) (S' := []) (σ' := x7.2) 7 (fun n h => h) ?_
          exact ih _ v1 (v2 + (1 : Int32)) (imax v3 x7.1) (v4 + (1 : Int32)) (v5 + (1 : Int32)) x7.2 h
def f_X_round (N : Nat) (p0 : Int32) (σ : aSt) : Option (Int32 × aSt) :=
  (if (σ.2.2 0 13) = true then (if p0 < 0 then some ((-2 : Int32), σ) else (if p0 ≤ (2 : Int32) then f_X_round_l18 N N p0 (1 : Int32) (1 : Int32) (0 : Int32) (0 : Int32) σ else some ((-2 : Int32), σ))) else some ((-2 : Int32), σ))
set_option maxRecDepth 20000 in
set_option maxHeartbeats 4000000 in
theorem c_X_round (d : Nat) {N : Nat} (p0 : Int32) (σ : aSt) {P : Option Value → aSt → Prop} {x : (Int32 × aSt)} (h : f_X_round N p0 σ = some x) (hp : P (some (.int x.1)) x.2) : aCall MT (d + 6) 124 [.ref 0, .int p0] σ P := by
  unfold f_X_round at h
  refine call_of (code := mc_X_round) (L := [some (.ref 0), some (.int p0), none, none, none, none, none]) rfl rfl rfl rfl ?_
  refine go_ifz (b := (σ.2.2 0 13)) (k1 := 8) (L1 := [some (.ref 0), some (.int p0), none, none, none, none, none]) (S1 := []) (σ1 := σ) (k2 := 3) (L2 := [some (.ref 0), some (.int p0), none, none, none, none, none]) (S2 := []) (σ2 := σ) 3 (fun n h => h) (fun hc1 => ?_) (fun hc1 => ?_)
  · rw [if_neg hc1] at h
    cases h
    exact go_ret 2 (fun _ => hp)
  · rw [if_pos hc1] at h
    refine go_if (c := p0 < 0) (k1 := 8) (L1 := [some (.ref 0), some (.int p0), none, none, none, none, none]) (S1 := []) (σ1 := σ) (k2 := 5) (L2 := [some (.ref 0), some (.int p0), none, none, none, none, none]) (S2 := []) (σ2 := σ) 2 (fun n h => h) (fun hc2 => ?_) (fun hc2 => ?_)
    · rw [if_pos hc2] at h
      cases h
      exact go_ret 2 (fun _ => hp)
    · rw [if_neg hc2] at h
      refine go_if (c := p0 ≤ (2 : Int32)) (k1 := 10) (L1 := [some (.ref 0), some (.int p0), none, none, none, none, none]) (S1 := []) (σ1 := σ) (k2 := 8) (L2 := [some (.ref 0), some (.int p0), none, none, none, none, none]) (S2 := []) (σ2 := σ) 3 (fun n h => h) (fun hc3 => ?_) (fun hc3 => ?_)
      · rw [if_pos hc3] at h
        refine go_st (k' := 18) (L' := [some (.ref 0), some (.int p0), some (.int (1 : Int32)), some (.int (1 : Int32)), some (.int (0 : Int32)), some (.int (0 : Int32)), none]) (S' := []) (σ' := σ) 8 (fun n h => h) ?_
        exact t_X_round_l18 d hp N _ p0 (1 : Int32) (1 : Int32) (0 : Int32) (0 : Int32) σ h
      · rw [if_neg hc3] at h
        cases h
        exact go_ret 2 (fun _ => hp)
def f_Reader_isWord_202_l16 (N : Nat) (σ : aSt) : Nat → Int32 → Option Bool
  | 0, _ => none
  | n + 1, v2 => (if (4 : Int32) ≤ v2 then some true else (if 0 ≤ v2 ∧ v2 < (4 : Int32) then (if (f_Reader_byteAt ((σ.1 1 4) + v2) σ) = (sch 202 v2) then f_Reader_isWord_202_l16 N σ n (v2 + (1 : Int32)) else some false) else none))
set_option maxRecDepth 20000 in
set_option maxHeartbeats 4000000 in
theorem t_Reader_isWord_202_l16 (d : Nat) {N : Nat} (σ : aSt) {x : Bool} {P : Option Value → aSt → Prop} (hp : P (some (.int (b2i x))) σ) : ∀ (n : Nat) (v2 : Int32), f_Reader_isWord_202_l16 N σ n v2 = some x → aGo (aCall MT (d + 2)) P mc_Reader_isWord 16 [some (.ref 1), some (.ref 202), some (.int v2)] [] σ := by
  intro n
  induction n with
  | zero => intro v2 h; cases h
  | succ n ih =>
    intro v2 h
    rw [f_Reader_isWord_202_l16] at h
    refine go_if (c := (4 : Int32) ≤ v2) (k1 := 34) (L1 := [some (.ref 1), some (.ref 202), some (.int v2)]) (S1 := []) (σ1 := σ) (k2 := 20) (L2 := [some (.ref 1), some (.ref 202), some (.int v2)]) (S2 := []) (σ2 := σ) 4 (fun n h => h) (fun hc3 => ?_) (fun hc3 => ?_)
    · rw [if_pos hc3] at h
      cases h
      exact go_ret 2 (fun _ => And.intro (Or.inr rfl) hp)
    · rw [if_neg hc3] at h
      refine go_call (r := some (.int (f_Reader_byteAt ((σ.1 1 4) + v2) σ))) (σc := σ) (σ1 := σ) (mi := 10) (vs := [.ref 1, .int ((σ.1 1 4) + v2)]) (k' := 26) (L' := [some (.ref 1), some (.ref 202), some (.int v2)]) (S' := []) 6 (fun P9 h9 => c_Reader_byteAt (d + 0) ((σ.1 1 4) + v2) σ h9) (fun n h => h) ?_
      obtain ⟨hc4, h⟩ := ite_of h
      refine go_q (Q := 0 ≤ v2 ∧ v2 < slen 202) (k' := 29) (L' := [some (.ref 1), some (.ref 202), some (.int v2)]) (S' := [.int (sch 202 v2), .int (f_Reader_byteAt ((σ.1 1 4) + v2) σ)]) (σ' := σ) 3 hc4 (fun n h => h) ?_
      refine go_if (c := (f_Reader_byteAt ((σ.1 1 4) + v2) σ) = (sch 202 v2)) (k1 := 32) (L1 := [some (.ref 1), some (.ref 202), some (.int v2)]) (S1 := []) (σ1 := σ) (k2 := 30) (L2 := [some (.ref 1), some (.ref 202), some (.int v2)]) (S2 := []) (σ2 := σ) 1 (fun n h => h) (fun hc5 => ?_) (fun hc5 => ?_)
      · rw [if_pos hc5] at h
        refine go_st (k' := 16) (L' := [some (.ref 1), some (.ref 202), some (.int (v2 + (1 : Int32)))]) (S' := []) (σ' := σ) 2 (fun n h => h) ?_
        exact ih (v2 + (1 : Int32)) h
      · rw [if_neg hc5] at h
        cases h
        exact go_ret 2 (fun _ => And.intro (Or.inl rfl) hp)
def f_Reader_isWord_202 (N : Nat) (σ : aSt) : Option Bool :=
  (if (σ.1 1 3) ≠ (1 : Int32) then some false else (if ((σ.1 1 5) - (σ.1 1 4)) = (4 : Int32) then f_Reader_isWord_202_l16 N σ N (0 : Int32) else some false))
set_option maxRecDepth 20000 in
set_option maxHeartbeats 4000000 in
theorem c_Reader_isWord_202 (d : Nat) {N : Nat} (σ : aSt) {P : Option Value → aSt → Prop} {x : Bool} (h : f_Reader_isWord_202 N σ = some x) (hp : P (some (.int (b2i x))) σ) : aCall MT (d + 3) 14 [.ref 1, .ref 202] σ P := by
  unfold f_Reader_isWord_202 at h
  refine call_of (code := mc_Reader_isWord) (L := [some (.ref 1), some (.ref 202), none]) rfl rfl rfl rfl ?_
  refine go_if (c := (σ.1 1 3) ≠ (1 : Int32)) (k1 := 12) (L1 := [some (.ref 1), some (.ref 202), none]) (S1 := []) (σ1 := σ) (k2 := 4) (L2 := [some (.ref 1), some (.ref 202), none]) (S2 := []) (σ2 := σ) 4 (fun n h => h) (fun hc1 => ?_) (fun hc1 => ?_)
  · rw [if_pos hc1] at h
    cases h
    exact go_ret 2 (fun _ => And.intro (Or.inl rfl) hp)
  · rw [if_neg hc1] at h
    refine go_if (c := ((σ.1 1 5) - (σ.1 1 4)) = (4 : Int32)) (k1 := 14) (L1 := [some (.ref 1), some (.ref 202), none]) (S1 := []) (σ1 := σ) (k2 := 12) (L2 := [some (.ref 1), some (.ref 202), none]) (S2 := []) (σ2 := σ) 8 (fun n h => h) (fun hc2 => ?_) (fun hc2 => ?_)
    · rw [if_pos hc2] at h
      refine go_st (k' := 16) (L' := [some (.ref 1), some (.ref 202), some (.int (0 : Int32))]) (S' := []) (σ' := σ) 2 (fun n h => h) ?_
      exact t_Reader_isWord_202_l16 d σ hp N (0 : Int32) h
    · rw [if_neg hc2] at h
      cases h
      exact go_ret 2 (fun _ => And.intro (Or.inl rfl) hp)
def f_Reader_isNumber (σ : aSt) : Bool :=
  (if (σ.1 1 3) ≠ (2 : Int32) then false else true)
set_option maxRecDepth 20000 in
set_option maxHeartbeats 4000000 in
theorem c_Reader_isNumber (d : Nat) (σ : aSt) {P : Option Value → aSt → Prop} (h : P (some (.int (b2i ((f_Reader_isNumber σ))))) σ) : aCall MT (d + 1) 126 [.ref 1] σ P := by
  unfold f_Reader_isNumber at h
  refine call_of (code := mc_Reader_isNumber) (L := [some (.ref 1)]) rfl rfl rfl rfl ?_
  refine go_if (c := (σ.1 1 3) ≠ (2 : Int32)) (k1 := 6) (L1 := [some (.ref 1)]) (S1 := []) (σ1 := σ) (k2 := 4) (L2 := [some (.ref 1)]) (S2 := []) (σ2 := σ) 4 (fun n h => h) (fun hc1 => ?_) (fun hc1 => ?_)
  · rw [if_pos hc1] at h
    exact go_ret 2 (fun _ => And.intro (Or.inl rfl) h)
  · rw [if_neg hc1] at h
    exact go_ret 3 (fun _ => And.intro (Or.inr rfl) h)
def f_Reader_value (σ : aSt) : Int32 :=
  (σ.1 1 6)
set_option maxRecDepth 20000 in
set_option maxHeartbeats 4000000 in
theorem c_Reader_value (d : Nat) (σ : aSt) {P : Option Value → aSt → Prop} (h : P (some (.int ((f_Reader_value σ)))) σ) : aCall MT (d + 1) 127 [.ref 1] σ P := by
  unfold f_Reader_value at h
  refine call_of (code := mc_Reader_value) (L := [some (.ref 1)]) rfl rfl rfl rfl ?_
  exact go_ret 3 (fun _ => h)
def f_Reader_isWord_203_l16 (N : Nat) (σ : aSt) : Nat → Int32 → Option Bool
  | 0, _ => none
  | n + 1, v2 => (if (1 : Int32) ≤ v2 then some true else (if 0 ≤ v2 ∧ v2 < (1 : Int32) then (if (f_Reader_byteAt ((σ.1 1 4) + v2) σ) = (sch 203 v2) then f_Reader_isWord_203_l16 N σ n (v2 + (1 : Int32)) else some false) else none))
set_option maxRecDepth 20000 in
set_option maxHeartbeats 4000000 in
theorem t_Reader_isWord_203_l16 (d : Nat) {N : Nat} (σ : aSt) {x : Bool} {P : Option Value → aSt → Prop} (hp : P (some (.int (b2i x))) σ) : ∀ (n : Nat) (v2 : Int32), f_Reader_isWord_203_l16 N σ n v2 = some x → aGo (aCall MT (d + 2)) P mc_Reader_isWord 16 [some (.ref 1), some (.ref 203), some (.int v2)] [] σ := by
  intro n
  induction n with
  | zero => intro v2 h; cases h
  | succ n ih =>
    intro v2 h
    rw [f_Reader_isWord_203_l16] at h
    refine go_if (c := (1 : Int32) ≤ v2) (k1 := 34) (L1 := [some (.ref 1), some (.ref 203), some (.int v2)]) (S1 := []) (σ1 := σ) (k2 := 20) (L2 := [some (.ref 1), some (.ref 203), some (.int v2)]) (S2 := []) (σ2 := σ) 4 (fun n h => h) (fun hc3 => ?_) (fun hc3 => ?_)
    · rw [if_pos hc3] at h
      cases h
      exact go_ret 2 (fun _ => And.intro (Or.inr rfl) hp)
    · rw [if_neg hc3] at h
      refine go_call (r := some (.int (f_Reader_byteAt ((σ.1 1 4) + v2) σ))) (σc := σ) (σ1 := σ) (mi := 10) (vs := [.ref 1, .int ((σ.1 1 4) + v2)]) (k' := 26) (L' := [some (.ref 1), some (.ref 203), some (.int v2)]) (S' := []) 6 (fun P9 h9 => c_Reader_byteAt (d + 0) ((σ.1 1 4) + v2) σ h9) (fun n h => h) ?_
      obtain ⟨hc4, h⟩ := ite_of h
      refine go_q (Q := 0 ≤ v2 ∧ v2 < slen 203) (k' := 29) (L' := [some (.ref 1), some (.ref 203), some (.int v2)]) (S' := [.int (sch 203 v2), .int (f_Reader_byteAt ((σ.1 1 4) + v2) σ)]) (σ' := σ) 3 hc4 (fun n h => h) ?_
      refine go_if (c := (f_Reader_byteAt ((σ.1 1 4) + v2) σ) = (sch 203 v2)) (k1 := 32) (L1 := [some (.ref 1), some (.ref 203), some (.int v2)]) (S1 := []) (σ1 := σ) (k2 := 30) (L2 := [some (.ref 1), some (.ref 203), some (.int v2)]) (S2 := []) (σ2 := σ) 1 (fun n h => h) (fun hc5 => ?_) (fun hc5 => ?_)
      · rw [if_pos hc5] at h
        refine go_st (k' := 16) (L' := [some (.ref 1), some (.ref 203), some (.int (v2 + (1 : Int32)))]) (S' := []) (σ' := σ) 2 (fun n h => h) ?_
        exact ih (v2 + (1 : Int32)) h
      · rw [if_neg hc5] at h
        cases h
        exact go_ret 2 (fun _ => And.intro (Or.inl rfl) hp)
def f_Reader_isWord_203 (N : Nat) (σ : aSt) : Option Bool :=
  (if (σ.1 1 3) ≠ (1 : Int32) then some false else (if ((σ.1 1 5) - (σ.1 1 4)) = (1 : Int32) then f_Reader_isWord_203_l16 N σ N (0 : Int32) else some false))
set_option maxRecDepth 20000 in
set_option maxHeartbeats 4000000 in
theorem c_Reader_isWord_203 (d : Nat) {N : Nat} (σ : aSt) {P : Option Value → aSt → Prop} {x : Bool} (h : f_Reader_isWord_203 N σ = some x) (hp : P (some (.int (b2i x))) σ) : aCall MT (d + 3) 14 [.ref 1, .ref 203] σ P := by
  unfold f_Reader_isWord_203 at h
  refine call_of (code := mc_Reader_isWord) (L := [some (.ref 1), some (.ref 203), none]) rfl rfl rfl rfl ?_
  refine go_if (c := (σ.1 1 3) ≠ (1 : Int32)) (k1 := 12) (L1 := [some (.ref 1), some (.ref 203), none]) (S1 := []) (σ1 := σ) (k2 := 4) (L2 := [some (.ref 1), some (.ref 203), none]) (S2 := []) (σ2 := σ) 4 (fun n h => h) (fun hc1 => ?_) (fun hc1 => ?_)
  · rw [if_pos hc1] at h
    cases h
    exact go_ret 2 (fun _ => And.intro (Or.inl rfl) hp)
  · rw [if_neg hc1] at h
    refine go_if (c := ((σ.1 1 5) - (σ.1 1 4)) = (1 : Int32)) (k1 := 14) (L1 := [some (.ref 1), some (.ref 203), none]) (S1 := []) (σ1 := σ) (k2 := 12) (L2 := [some (.ref 1), some (.ref 203), none]) (S2 := []) (σ2 := σ) 8 (fun n h => h) (fun hc2 => ?_) (fun hc2 => ?_)
    · rw [if_pos hc2] at h
      refine go_st (k' := 16) (L' := [some (.ref 1), some (.ref 203), some (.int (0 : Int32))]) (S' := []) (σ' := σ) 2 (fun n h => h) ?_
      exact t_Reader_isWord_203_l16 d σ hp N (0 : Int32) h
    · rw [if_neg hc2] at h
      cases h
      exact go_ret 2 (fun _ => And.intro (Or.inl rfl) hp)
def f_Reader_takeWord_203 (N : Nat) (σ : aSt) : Option (Bool × aSt) :=
  ((f_Reader_isWord_203 N σ).bind fun x1 => (if x1 = true then ((f_Reader_next N σ).bind fun x3 => some (true, x3)) else (lt (f_Reader_refuse (1 : Int32) σ) fun x4 => some (x4.1, x4.2))))
set_option maxRecDepth 20000 in
set_option maxHeartbeats 4000000 in
theorem c_Reader_takeWord_203 (d : Nat) {N : Nat} (σ : aSt) {P : Option Value → aSt → Prop} {x : (Bool × aSt)} (h : f_Reader_takeWord_203 N σ = some x) (hp : P (some (.int (b2i x.1))) x.2) : aCall MT (d + 4) 16 [.ref 1, .ref 203] σ P := by
  unfold f_Reader_takeWord_203 at h
  refine call_of (code := mc_Reader_takeWord) (L := [some (.ref 1), some (.ref 203)]) rfl rfl rfl rfl ?_
  obtain ⟨x1, hx1, h⟩ := bind_of h
  refine go_call (r := some (.int (b2i x1))) (σc := σ) (σ1 := σ) (mi := 14) (vs := [.ref 1, .ref 203]) (k' := 3) (L' := [some (.ref 1), some (.ref 203)]) (S' := []) 3 (fun P9 h9 => c_Reader_isWord_203 (d + 0) σ hx1 h9) (fun n h => h) ?_
  refine go_ifn (b := x1) (k1 := 8) (L1 := [some (.ref 1), some (.ref 203)]) (S1 := []) (σ1 := σ) (k2 := 4) (L2 := [some (.ref 1), some (.ref 203)]) (S2 := []) (σ2 := σ) 1 (fun n h => h) (fun hc2 => ?_) (fun hc2 => ?_)
  · rw [if_pos hc2] at h
    obtain ⟨x3, hx3, h⟩ := bind_of h
    refine go_call (r := none) (σc := σ) (σ1 := x3) (mi := 12) (vs := [.ref 1]) (k' := 10) (L' := [some (.ref 1), some (.ref 203)]) (S' := []) 2 (fun P9 h9 => c_Reader_next (d + 0) σ hx3 h9) (fun n h => h) ?_
    cases h
    exact go_ret 2 (fun _ => And.intro (Or.inr rfl) hp)
  · rw [if_neg hc2] at h
    obtain ⟨x4, hx4, h⟩ := lt_of h
    refine go_call (r := some (.int (b2i x4.1))) (σc := σ) (σ1 := x4.2) (mi := 15) (vs := [.ref 1, .int (1 : Int32)]) (k' := 7) (L' := [some (.ref 1), some (.ref 203)]) (S' := []) 3 (fun P9 h9 => c_Reader_refuse (d + 2) (1 : Int32) σ (by rw [← hx4]; exact h9)) (fun n h => h) ?_
    cases h
    exact go_ret 1 (fun _ => And.intro (b2i_01 _) hp)
def f_X_readTerm_b31 (N : Nat) (v1 : Bool) (v2 : Int32) (σ : aSt) : Option (Int32 × aSt) :=
  ((f_Reader_takeWord_203 N σ).bind fun x8 => (if x8.1 = true then (lt (f_Reader_fits (0 : Int32) ((f_PointList_shown_11 x8.2) - (1 : Int32)) x8.2) fun x10 => (if x10.1 = true then ((f_Reader_next N x10.2).bind fun x12 => (if v1 = true then ((f_Sums_multiple N (f_Reader_value x10.2) (-v2) x12).bind fun x14 => some (x14.1, x14.2)) else ((f_Sums_multiple N (f_Reader_value x10.2) v2 x12).bind fun x15 => some (x15.1, x15.2)))) else some ((-6 : Int32), x10.2))) else some ((-6 : Int32), x8.2)))
set_option maxRecDepth 20000 in
set_option maxHeartbeats 4000000 in
theorem t_X_readTerm_b31 (d : Nat) {N : Nat} (d3 : Option Value) (v1 : Bool) (v2 : Int32) (σ : aSt) {P : Option Value → aSt → Prop} {x : (Int32 × aSt)} (h : f_X_readTerm_b31 N v1 v2 σ = some x) (hp : P (some (.int x.1)) x.2) : aGo (aCall MT (d + 5)) P mc_X_readTerm 31 [some (.ref 0), some (.int (b2i v1)), some (.int v2), d3] [] σ := by
  unfold f_X_readTerm_b31 at h
  obtain ⟨x8, hx8, h⟩ := bind_of h
  refine go_call (r := some (.int (b2i x8.1))) (σc := σ) (σ1 := x8.2) (mi := 16) (vs := [.ref 1, .ref 203]) (k' := 35) (L' := [some (.ref 0), some (.int (b2i v1)), some (.int v2), d3]) (S' := []) 4 (fun P9 h9 => c_Reader_takeWord_203 (d + 1) σ hx8 h9) (fun n h => h) ?_
  refine go_ifz (b := x8.1) (k1 := 46) (L1 := [some (.ref 0), some (.int (b2i v1)), some (.int v2), d3]) (S1 := []) (σ1 := x8.2) (k2 := 36) (L2 := [some (.ref 0), some (.int (b2i v1)), some (.int v2), d3]) (S2 := []) (σ2 := x8.2) 1 (fun n h => h) (fun hc9 => ?_) (fun hc9 => ?_)
  · rw [if_neg hc9] at h
    cases h
    exact go_ret 2 (fun _ => hp)
  · rw [if_pos hc9] at h
    refine go_call (r := some (.int (f_PointList_shown_11 x8.2))) (σc := x8.2) (σ1 := x8.2) (mi := 44) (vs := [.ref 11]) (k' := 42) (L' := [some (.ref 0), some (.int (b2i v1)), some (.int v2), d3]) (S' := [.int (0 : Int32), .ref 1]) 6 (fun P9 h9 => c_PointList_shown_11 (d + 4) x8.2 h9) (fun n h => h) ?_
    obtain ⟨x10, hx10, h⟩ := lt_of h
    refine go_call (r := some (.int (b2i x10.1))) (σc := x8.2) (σ1 := x10.2) (mi := 18) (vs := [.ref 1, .int (0 : Int32), .int ((f_PointList_shown_11 x8.2) - (1 : Int32))]) (k' := 45) (L' := [some (.ref 0), some (.int (b2i v1)), some (.int v2), d3]) (S' := []) 3 (fun P9 h9 => c_Reader_fits (d + 3) (0 : Int32) ((f_PointList_shown_11 x8.2) - (1 : Int32)) x8.2 (by rw [← hx10]; exact h9)) (fun n h => h) ?_
    refine go_ifn (b := x10.1) (k1 := 48) (L1 := [some (.ref 0), some (.int (b2i v1)), some (.int v2), d3]) (S1 := []) (σ1 := x10.2) (k2 := 46) (L2 := [some (.ref 0), some (.int (b2i v1)), some (.int v2), d3]) (S2 := []) (σ2 := x10.2) 1 (fun n h => h) (fun hc11 => ?_) (fun hc11 => ?_)
    · rw [if_pos hc11] at h
      refine go_call (r := some (.int (f_Reader_value x10.2))) (σc := x10.2) (σ1 := x10.2) (mi := 127) (vs := [.ref 1]) (k' := 51) (L' := [some (.ref 0), some (.int (b2i v1)), some (.int v2), d3]) (S' := []) 3 (fun P9 h9 => c_Reader_value (d + 4) x10.2 h9) (fun n h => h) ?_
      obtain ⟨x12, hx12, h⟩ := bind_of h
      refine go_call (r := none) (σc := x10.2) (σ1 := x12) (mi := 12) (vs := [.ref 1]) (k' := 55) (L' := [some (.ref 0), some (.int (b2i v1)), some (.int v2), some (.int (f_Reader_value x10.2))]) (S' := []) 4 (fun P9 h9 => c_Reader_next (d + 2) x10.2 hx12 h9) (fun n h => h) ?_
      refine go_ifz (b := v1) (k1 := 63) (L1 := [some (.ref 0), some (.int (b2i v1)), some (.int v2), some (.int (f_Reader_value x10.2))]) (S1 := [.int (f_Reader_value x10.2), .ref 21]) (σ1 := x12) (k2 := 60) (L2 := [some (.ref 0), some (.int (b2i v1)), some (.int v2), some (.int (f_Reader_value x10.2))]) (S2 := [.int (f_Reader_value x10.2), .ref 21]) (σ2 := x12) 5 (fun n h => h) (fun hc13 => ?_) (fun hc13 => ?_)
      · rw [if_neg hc13] at h
        obtain ⟨x15, hx15, h⟩ := bind_of h
        refine go_call (r := some (.int x15.1)) (σc := x12) (σ1 := x15.2) (mi := 116) (vs := [.ref 21, .int (f_Reader_value x10.2), .int v2]) (k' := 65) (L' := [some (.ref 0), some (.int (b2i v1)), some (.int v2), some (.int (f_Reader_value x10.2))]) (S' := []) 2 (fun P9 h9 => c_Sums_multiple (d + 0) (f_Reader_value x10.2) v2 x12 hx15 h9) (fun n h => h) ?_
        cases h
        exact go_ret 1 (fun _ => hp)
      · rw [if_pos hc13] at h
        obtain ⟨x14, hx14, h⟩ := bind_of h
        refine go_call (r := some (.int x14.1)) (σc := x12) (σ1 := x14.2) (mi := 116) (vs := [.ref 21, .int (f_Reader_value x10.2), .int (-v2)]) (k' := 65) (L' := [some (.ref 0), some (.int (b2i v1)), some (.int v2), some (.int (f_Reader_value x10.2))]) (S' := []) 4 (fun P9 h9 => c_Sums_multiple (d + 0) (f_Reader_value x10.2) (-v2) x12 hx14 h9) (fun n h => h) ?_
        cases h
        exact go_ret 1 (fun _ => hp)
    · rw [if_neg hc11] at h
      cases h
      exact go_ret 2 (fun _ => hp)
def f_X_readTerm (N : Nat) (p0 : Bool) (σ : aSt) : Option (Int32 × aSt) :=
  ((f_Reader_isWord_202 N σ).bind fun x1 => (if x1 = true then ((f_Reader_next N σ).bind fun x3 => some ((1000 : Int32), x3)) else (if (f_Reader_isNumber σ) = true then (lt (f_Reader_fits (0 : Int32) (20 : Int32) σ) fun x5 => (if x5.1 = true then ((f_Reader_next N x5.2).bind fun x7 => f_X_readTerm_b31 N p0 (f_Reader_value x5.2) x7) else some ((-6 : Int32), x5.2))) else f_X_readTerm_b31 N p0 (1 : Int32) σ)))
set_option maxRecDepth 20000 in
set_option maxHeartbeats 4000000 in
theorem c_X_readTerm (d : Nat) {N : Nat} (p0 : Bool) (σ : aSt) {P : Option Value → aSt → Prop} {x : (Int32 × aSt)} (h : f_X_readTerm N p0 σ = some x) (hp : P (some (.int x.1)) x.2) : aCall MT (d + 6) 128 [.ref 0, .int (b2i p0)] σ P := by
  unfold f_X_readTerm at h
  refine call_of (code := mc_X_readTerm) (L := [some (.ref 0), some (.int (b2i p0)), none, none]) rfl rfl rfl rfl ?_
  obtain ⟨x1, hx1, h⟩ := bind_of h
  refine go_call (r := some (.int (b2i x1))) (σc := σ) (σ1 := σ) (mi := 14) (vs := [.ref 1, .ref 202]) (k' := 4) (L' := [some (.ref 0), some (.int (b2i p0)), none, none]) (S' := []) 4 (fun P9 h9 => c_Reader_isWord_202 (d + 2) σ hx1 h9) (fun n h => h) ?_
  refine go_ifz (b := x1) (k1 := 10) (L1 := [some (.ref 0), some (.int (b2i p0)), none, none]) (S1 := []) (σ1 := σ) (k2 := 5) (L2 := [some (.ref 0), some (.int (b2i p0)), none, none]) (S2 := []) (σ2 := σ) 1 (fun n h => h) (fun hc2 => ?_) (fun hc2 => ?_)
  · rw [if_neg hc2] at h
    refine go_call (r := some (.int (b2i (f_Reader_isNumber σ)))) (σc := σ) (σ1 := σ) (mi := 126) (vs := [.ref 1]) (k' := 15) (L' := [some (.ref 0), some (.int (b2i p0)), some (.int (1 : Int32)), none]) (S' := []) 5 (fun P9 h9 => c_Reader_isNumber (d + 4) σ h9) (fun n h => h) ?_
    refine go_ifz (b := (f_Reader_isNumber σ)) (k1 := 31) (L1 := [some (.ref 0), some (.int (b2i p0)), some (.int (1 : Int32)), none]) (S1 := []) (σ1 := σ) (k2 := 16) (L2 := [some (.ref 0), some (.int (b2i p0)), some (.int (1 : Int32)), none]) (S2 := []) (σ2 := σ) 1 (fun n h => h) (fun hc4 => ?_) (fun hc4 => ?_)
    · rw [if_neg hc4] at h
      exact t_X_readTerm_b31 d _ p0 (1 : Int32) σ h hp
    · rw [if_pos hc4] at h
      obtain ⟨x5, hx5, h⟩ := lt_of h
      refine go_call (r := some (.int (b2i x5.1))) (σc := σ) (σ1 := x5.2) (mi := 18) (vs := [.ref 1, .int (0 : Int32), .int (20 : Int32)]) (k' := 21) (L' := [some (.ref 0), some (.int (b2i p0)), some (.int (1 : Int32)), none]) (S' := []) 5 (fun P9 h9 => c_Reader_fits (d + 3) (0 : Int32) (20 : Int32) σ (by rw [← hx5]; exact h9)) (fun n h => h) ?_
      refine go_ifn (b := x5.1) (k1 := 24) (L1 := [some (.ref 0), some (.int (b2i p0)), some (.int (1 : Int32)), none]) (S1 := []) (σ1 := x5.2) (k2 := 22) (L2 := [some (.ref 0), some (.int (b2i p0)), some (.int (1 : Int32)), none]) (S2 := []) (σ2 := x5.2) 1 (fun n h => h) (fun hc6 => ?_) (fun hc6 => ?_)
      · rw [if_pos hc6] at h
        refine go_call (r := some (.int (f_Reader_value x5.2))) (σc := x5.2) (σ1 := x5.2) (mi := 127) (vs := [.ref 1]) (k' := 27) (L' := [some (.ref 0), some (.int (b2i p0)), some (.int (1 : Int32)), none]) (S' := []) 3 (fun P9 h9 => c_Reader_value (d + 4) x5.2 h9) (fun n h => h) ?_
        obtain ⟨x7, hx7, h⟩ := bind_of h
        refine go_call (r := none) (σc := x5.2) (σ1 := x7) (mi := 12) (vs := [.ref 1]) (k' := 31) (L' := [some (.ref 0), some (.int (b2i p0)), some (.int (f_Reader_value x5.2)), none]) (S' := []) 4 (fun P9 h9 => c_Reader_next (d + 2) x5.2 hx7 h9) (fun n h => h) ?_
        exact t_X_readTerm_b31 d _ p0 (f_Reader_value x5.2) x7 h hp
      · rw [if_neg hc6] at h
        cases h
        exact go_ret 2 (fun _ => hp)
  · rw [if_pos hc2] at h
    obtain ⟨x3, hx3, h⟩ := bind_of h
    refine go_call (r := none) (σc := σ) (σ1 := x3) (mi := 12) (vs := [.ref 1]) (k' := 8) (L' := [some (.ref 0), some (.int (b2i p0)), none, none]) (S' := []) 3 (fun P9 h9 => c_Reader_next (d + 2) σ hx3 h9) (fun n h => h) ?_
    cases h
    exact go_ret 2 (fun _ => hp)
def f_Reader_isDone (σ : aSt) : Bool :=
  (if (σ.1 1 3) ≠ 0 then false else true)
set_option maxRecDepth 20000 in
set_option maxHeartbeats 4000000 in
theorem c_Reader_isDone (d : Nat) (σ : aSt) {P : Option Value → aSt → Prop} (h : P (some (.int (b2i ((f_Reader_isDone σ))))) σ) : aCall MT (d + 1) 129 [.ref 1] σ P := by
  unfold f_Reader_isDone at h
  refine call_of (code := mc_Reader_isDone) (L := [some (.ref 1)]) rfl rfl rfl rfl ?_
  refine go_if (c := (σ.1 1 3) ≠ 0) (k1 := 5) (L1 := [some (.ref 1)]) (S1 := []) (σ1 := σ) (k2 := 3) (L2 := [some (.ref 1)]) (S2 := []) (σ2 := σ) 3 (fun n h => h) (fun hc1 => ?_) (fun hc1 => ?_)
  · rw [if_pos hc1] at h
    exact go_ret 2 (fun _ => And.intro (Or.inl rfl) h)
  · rw [if_neg hc1] at h
    exact go_ret 3 (fun _ => And.intro (Or.inr rfl) h)
def f_X_readFormula_l16 (N : Nat) : Nat → Int32 → Int32 → aSt → Option (Int32 × aSt)
  | 0, _, _, _ => none
  | n + 1, v2, v3, σ => (if (200 : Int32) ≤ v3 then some (v2, σ) else (if (f_Reader_isDone σ) = true then some (v2, σ) else (if (f_Reader_isByte (45 : Int32) σ) = true then ((f_Reader_next N σ).bind fun x7 => ((f_X_readTerm N (f_Reader_isByte (45 : Int32) σ) x7).bind fun x8 => ((f_Sums_total N v2 x8.1 x8.2).bind fun x9 => f_X_readFormula_l16 N n x9.1 (v3 + (1 : Int32)) x9.2))) else (if (f_Reader_isByte (43 : Int32) σ) = true then ((f_Reader_next N σ).bind fun x11 => ((f_X_readTerm N (f_Reader_isByte (45 : Int32) σ) x11).bind fun x12 => ((f_Sums_total N v2 x12.1 x12.2).bind fun x13 => f_X_readFormula_l16 N n x13.1 (v3 + (1 : Int32)) x13.2))) else (lt (f_Reader_refuse (1 : Int32) σ) fun x14 => some ((-6 : Int32), x14.2))))))
set_option maxRecDepth 20000 in
set_option maxHeartbeats 4000000 in
theorem t_X_readFormula_l16 (d : Nat) {N : Nat} {x : (Int32 × aSt)} {P : Option Value → aSt → Prop} (hp : P (some (.int x.1)) x.2) : ∀ (n : Nat) (d1 d4 : Option Value) (v2 : Int32) (v3 : Int32) (σ : aSt), f_X_readFormula_l16 N n v2 v3 σ = some x → aGo (aCall MT (d + 6)) P mc_X_readFormula 16 [some (.ref 0), d1, some (.int v2), some (.int v3), d4] [] σ := by
  intro n
  induction n with
  | zero => intro d1 d4 v2 v3 σ h; cases h
  | succ n ih =>
    intro d1 d4 v2 v3 σ h
    rw [f_X_readFormula_l16] at h
    refine go_if (c := (200 : Int32) ≤ v3) (k1 := 57) (L1 := [some (.ref 0), d1, some (.int v2), some (.int v3), d4]) (S1 := []) (σ1 := σ) (k2 := 19) (L2 := [some (.ref 0), d1, some (.int v2), some (.int v3), d4]) (S2 := []) (σ2 := σ) 3 (fun n h => h) (fun hc4 => ?_) (fun hc4 => ?_)
    · rw [if_pos hc4] at h
      cases h
      exact go_ret 2 (fun _ => hp)
    · rw [if_neg hc4] at h
      refine go_call (r := some (.int (b2i (f_Reader_isDone σ)))) (σc := σ) (σ1 := σ) (mi := 129) (vs := [.ref 1]) (k' := 22) (L' := [some (.ref 0), d1, some (.int v2), some (.int v3), d4]) (S' := []) 3 (fun P9 h9 => c_Reader_isDone (d + 5) σ h9) (fun n h => h) ?_
      refine go_ifn (b := (f_Reader_isDone σ)) (k1 := 57) (L1 := [some (.ref 0), d1, some (.int v2), some (.int v3), d4]) (S1 := []) (σ1 := σ) (k2 := 23) (L2 := [some (.ref 0), d1, some (.int v2), some (.int v3), d4]) (S2 := []) (σ2 := σ) 1 (fun n h => h) (fun hc5 => ?_) (fun hc5 => ?_)
      · rw [if_pos hc5] at h
        cases h
        exact go_ret 2 (fun _ => hp)
      · rw [if_neg hc5] at h
        refine go_call (r := some (.int (b2i (f_Reader_isByte (45 : Int32) σ)))) (σc := σ) (σ1 := σ) (mi := 17) (vs := [.ref 1, .int (45 : Int32)]) (k' := 27) (L' := [some (.ref 0), d1, some (.int v2), some (.int v3), d4]) (S' := []) 4 (fun P9 h9 => c_Reader_isByte (d + 3) (45 : Int32) σ h9) (fun n h => h) ?_
        refine go_ifn (b := (f_Reader_isByte (45 : Int32) σ)) (k1 := 42) (L1 := [some (.ref 0), some (.int (b2i (f_Reader_isByte (45 : Int32) σ))), some (.int v2), some (.int v3), d4]) (S1 := []) (σ1 := σ) (k2 := 30) (L2 := [some (.ref 0), some (.int (b2i (f_Reader_isByte (45 : Int32) σ))), some (.int v2), some (.int v3), d4]) (S2 := []) (σ2 := σ) 3 (fun n h => h) (fun hc6 => ?_) (fun hc6 => ?_)
        · rw [if_pos hc6] at h
          obtain ⟨x7, hx7, h⟩ := bind_of h
          refine go_call (r := none) (σc := σ) (σ1 := x7) (mi := 12) (vs := [.ref 1]) (k' := 45) (L' := [some (.ref 0), some (.int (b2i (f_Reader_isByte (45 : Int32) σ))), some (.int v2), some (.int v3), d4]) (S' := []) 3 (fun P9 h9 => c_Reader_next (d + 3) σ hx7 h9) (fun n h => h) ?_
          obtain ⟨x8, hx8, h⟩ := bind_of h
          refine go_call (r := some (.int x8.1)) (σc := x7) (σ1 := x8.2) (mi := 128) (vs := [.ref 0, .int (b2i (f_Reader_isByte (45 : Int32) σ))]) (k' := 48) (L' := [some (.ref 0), some (.int (b2i (f_Reader_isByte (45 : Int32) σ))), some (.int v2), some (.int v3), d4]) (S' := []) 3 (fun P9 h9 => c_X_readTerm (d + 0) (f_Reader_isByte (45 : Int32) σ) x7 hx8 h9) (fun n h => h) ?_
          obtain ⟨x9, hx9, h⟩ := bind_of h
          refine go_call (r := some (.int x9.1)) (σc := x8.2) (σ1 := x9.2) (mi := 101) (vs := [.ref 21, .int v2, .int x8.1]) (k' := 54) (L' := [some (.ref 0), some (.int (b2i (f_Reader_isByte (45 : Int32) σ))), some (.int v2), some (.int v3), some (.int x8.1)]) (S' := []) 6 (fun P9 h9 => c_Sums_total (d + 2) v2 x8.1 x8.2 hx9 h9) (fun n h => h) ?_
          refine go_st (k' := 16) (L' := [some (.ref 0), none, some (.int x9.1), some (.int (v3 + (1 : Int32))), some (.int x8.1)]) (S' := []) (σ' := x9.2) 3 (fun n h => h) ?_
          exact ih _ _ x9.1 (v3 + (1 : Int32)) x9.2 h
        · rw [if_neg hc6] at h
          refine go_call (r := some (.int (b2i (f_Reader_isByte (43 : Int32) σ)))) (σc := σ) (σ1 := σ) (mi := 17) (vs := [.ref 1, .int (43 : Int32)]) (k' := 34) (L' := [some (.ref 0), some (.int (b2i (f_Reader_isByte (45 : Int32) σ))), some (.int v2), some (.int v3), d4]) (S' := []) 4 (fun P9 h9 => c_Reader_isByte (d + 3) (43 : Int32) σ h9) (fun n h => h) ?_
          refine go_ifn (b := (f_Reader_isByte (43 : Int32) σ)) (k1 := 42) (L1 := [some (.ref 0), some (.int (b2i (f_Reader_isByte (45 : Int32) σ))), some (.int v2), some (.int v3), d4]) (S1 := []) (σ1 := σ) (k2 := 35) (L2 := [some (.ref 0), some (.int (b2i (f_Reader_isByte (45 : Int32) σ))), some (.int v2), some (.int v3), d4]) (S2 := []) (σ2 := σ) 1 (fun n h => h) (fun hc10 => ?_) (fun hc10 => ?_)
          · rw [if_pos hc10] at h
            obtain ⟨x11, hx11, h⟩ := bind_of h
            refine go_call (r := none) (σc := σ) (σ1 := x11) (mi := 12) (vs := [.ref 1]) (k' := 45) (L' := [some (.ref 0), some (.int (b2i (f_Reader_isByte (45 : Int32) σ))), some (.int v2), some (.int v3), d4]) (S' := []) 3 (fun P9 h9 => c_Reader_next (d + 3) σ hx11 h9) (fun n h => h) ?_
            obtain ⟨x12, hx12, h⟩ := bind_of h
            refine go_call (r := some (.int x12.1)) (σc := x11) (σ1 := x12.2) (mi := 128) (vs := [.ref 0, .int (b2i (f_Reader_isByte (45 : Int32) σ))]) (k' := 48) (L' := [some (.ref 0), some (.int (b2i (f_Reader_isByte (45 : Int32) σ))), some (.int v2), some (.int v3), d4]) (S' := []) 3 (fun P9 h9 => c_X_readTerm (d + 0) (f_Reader_isByte (45 : Int32) σ) x11 hx12 h9) (fun n h => h) ?_
            obtain ⟨x13, hx13, h⟩ := bind_of h
            refine go_call (r := some (.int x13.1)) (σc := x12.2) (σ1 := x13.2) (mi := 101) (vs := [.ref 21, .int v2, .int x12.1]) (k' := 54) (L' := [some (.ref 0), some (.int (b2i (f_Reader_isByte (45 : Int32) σ))), some (.int v2), some (.int v3), some (.int x12.1)]) (S' := []) 6 (fun P9 h9 => c_Sums_total (d + 2) v2 x12.1 x12.2 hx13 h9) (fun n h => h) ?_
            refine go_st (k' := 16) (L' := [some (.ref 0), none, some (.int x13.1), some (.int (v3 + (1 : Int32))), some (.int x12.1)]) (S' := []) (σ' := x13.2) 3 (fun n h => h) ?_
            exact ih _ _ x13.1 (v3 + (1 : Int32)) x13.2 h
          · rw [if_neg hc10] at h
            obtain ⟨x14, hx14, h⟩ := lt_of h
            refine go_call (r := some (.int (b2i x14.1))) (σc := σ) (σ1 := x14.2) (mi := 15) (vs := [.ref 1, .int (1 : Int32)]) (k' := 39) (L' := [some (.ref 0), some (.int (b2i (f_Reader_isByte (45 : Int32) σ))), some (.int v2), some (.int v3), d4]) (S' := []) 4 (fun P9 h9 => c_Reader_refuse (d + 5) (1 : Int32) σ (by rw [← hx14]; exact h9)) (fun n h => h) ?_
            cases h
            exact go_ret 3 (fun _ => hp)
def f_X_readFormula_b10 (N : Nat) (v1 : Bool) (σ : aSt) : Option (Int32 × aSt) :=
  ((f_X_readTerm N v1 σ).bind fun x3 => f_X_readFormula_l16 N N x3.1 (0 : Int32) x3.2)
set_option maxRecDepth 20000 in
set_option maxHeartbeats 4000000 in
theorem t_X_readFormula_b10 (d : Nat) {N : Nat} (d2 d3 d4 : Option Value) (v1 : Bool) (σ : aSt) {P : Option Value → aSt → Prop} {x : (Int32 × aSt)} (h : f_X_readFormula_b10 N v1 σ = some x) (hp : P (some (.int x.1)) x.2) : aGo (aCall MT (d + 6)) P mc_X_readFormula 10 [some (.ref 0), some (.int (b2i v1)), d2, d3, d4] [] σ := by
  unfold f_X_readFormula_b10 at h
  obtain ⟨x3, hx3, h⟩ := bind_of h
  refine go_call (r := some (.int x3.1)) (σc := σ) (σ1 := x3.2) (mi := 128) (vs := [.ref 0, .int (b2i v1)]) (k' := 13) (L' := [some (.ref 0), some (.int (b2i v1)), d2, d3, d4]) (S' := []) 3 (fun P9 h9 => c_X_readTerm (d + 0) v1 σ hx3 h9) (fun n h => h) ?_
  refine go_st (k' := 16) (L' := [some (.ref 0), none, some (.int x3.1), some (.int (0 : Int32)), d4]) (S' := []) (σ' := x3.2) 3 (fun n h => h) ?_
  exact t_X_readFormula_l16 d hp N _ _ x3.1 (0 : Int32) x3.2 h
def f_X_readFormula (N : Nat) (σ : aSt) : Option (Int32 × aSt) :=
  (if (f_Reader_isByte (45 : Int32) σ) = true then ((f_Reader_next N σ).bind fun x2 => f_X_readFormula_b10 N (f_Reader_isByte (45 : Int32) σ) x2) else f_X_readFormula_b10 N (f_Reader_isByte (45 : Int32) σ) σ)
set_option maxRecDepth 20000 in
set_option maxHeartbeats 4000000 in
theorem c_X_readFormula (d : Nat) {N : Nat} (σ : aSt) {P : Option Value → aSt → Prop} {x : (Int32 × aSt)} (h : f_X_readFormula N σ = some x) (hp : P (some (.int x.1)) x.2) : aCall MT (d + 7) 130 [.ref 0] σ P := by
  unfold f_X_readFormula at h
  refine call_of (code := mc_X_readFormula) (L := [some (.ref 0), none, none, none, none]) rfl rfl rfl rfl ?_
  refine go_call (r := some (.int (b2i (f_Reader_isByte (45 : Int32) σ)))) (σc := σ) (σ1 := σ) (mi := 17) (vs := [.ref 1, .int (45 : Int32)]) (k' := 4) (L' := [some (.ref 0), none, none, none, none]) (S' := []) 4 (fun P9 h9 => c_Reader_isByte (d + 3) (45 : Int32) σ h9) (fun n h => h) ?_
  refine go_ifz (b := (f_Reader_isByte (45 : Int32) σ)) (k1 := 10) (L1 := [some (.ref 0), some (.int (b2i (f_Reader_isByte (45 : Int32) σ))), none, none, none]) (S1 := []) (σ1 := σ) (k2 := 7) (L2 := [some (.ref 0), some (.int (b2i (f_Reader_isByte (45 : Int32) σ))), none, none, none]) (S2 := []) (σ2 := σ) 3 (fun n h => h) (fun hc1 => ?_) (fun hc1 => ?_)
  · rw [if_neg hc1] at h
    exact t_X_readFormula_b10 d _ _ _ (f_Reader_isByte (45 : Int32) σ) σ h hp
  · rw [if_pos hc1] at h
    obtain ⟨x2, hx2, h⟩ := bind_of h
    refine go_call (r := none) (σc := σ) (σ1 := x2) (mi := 12) (vs := [.ref 1]) (k' := 10) (L' := [some (.ref 0), some (.int (b2i (f_Reader_isByte (45 : Int32) σ))), none, none, none]) (S' := []) 3 (fun P9 h9 => c_Reader_next (d + 3) σ hx2 h9) (fun n h => h) ?_
    exact t_X_readFormula_b10 d _ _ _ (f_Reader_isByte (45 : Int32) σ) x2 h hp
def f_X_formula (N : Nat) (σ : aSt) : Option (Int32 × aSt) :=
  (if (σ.2.2 0 13) = true then ((f_Reader_begin N σ).bind fun x2 => ((f_X_readFormula N x2).bind fun x3 => (lt (f_Reader_cut (0 : Int32) x3.2) fun x4 => (if (f_Reader_faultNumber x4) ≠ 0 then some ((-4 : Int32), x4) else some (x3.1, x4))))) else some ((-2 : Int32), σ))
set_option maxRecDepth 20000 in
set_option maxHeartbeats 4000000 in
theorem c_X_formula (d : Nat) {N : Nat} (σ : aSt) {P : Option Value → aSt → Prop} {x : (Int32 × aSt)} (h : f_X_formula N σ = some x) (hp : P (some (.int x.1)) x.2) : aCall MT (d + 8) 131 [.ref 0] σ P := by
  unfold f_X_formula at h
  refine call_of (code := mc_X_formula) (L := [some (.ref 0), none]) rfl rfl rfl rfl ?_
  refine go_ifn (b := (σ.2.2 0 13)) (k1 := 5) (L1 := [some (.ref 0), none]) (S1 := []) (σ1 := σ) (k2 := 3) (L2 := [some (.ref 0), none]) (S2 := []) (σ2 := σ) 3 (fun n h => h) (fun hc1 => ?_) (fun hc1 => ?_)
  · rw [if_pos hc1] at h
    obtain ⟨x2, hx2, h⟩ := bind_of h
    refine go_call (r := none) (σc := σ) (σ1 := x2) (mi := 13) (vs := [.ref 1]) (k' := 8) (L' := [some (.ref 0), none]) (S' := []) 3 (fun P9 h9 => c_Reader_begin (d + 3) σ hx2 h9) (fun n h => h) ?_
    obtain ⟨x3, hx3, h⟩ := bind_of h
    refine go_call (r := some (.int x3.1)) (σc := x2) (σ1 := x3.2) (mi := 130) (vs := [.ref 0]) (k' := 10) (L' := [some (.ref 0), none]) (S' := []) 2 (fun P9 h9 => c_X_readFormula (d + 0) x2 hx3 h9) (fun n h => h) ?_
    obtain ⟨x4, hx4, h⟩ := lt_of h
    refine go_call (r := none) (σc := x3.2) (σ1 := x4) (mi := 5) (vs := [.ref 1, .int (0 : Int32)]) (k' := 15) (L' := [some (.ref 0), some (.int x3.1)]) (S' := []) 5 (fun P9 h9 => c_Reader_cut (d + 6) (0 : Int32) x3.2 (by rw [← hx4]; exact h9)) (fun n h => h) ?_
    refine go_call (r := some (.int (f_Reader_faultNumber x4))) (σc := x4) (σ1 := x4) (mi := 64) (vs := [.ref 1]) (k' := 18) (L' := [some (.ref 0), some (.int x3.1)]) (S' := []) 3 (fun P9 h9 => c_Reader_faultNumber (d + 6) x4 h9) (fun n h => h) ?_
    refine go_if (c := (f_Reader_faultNumber x4) ≠ 0) (k1 := 21) (L1 := [some (.ref 0), some (.int x3.1)]) (S1 := []) (σ1 := x4) (k2 := 19) (L2 := [some (.ref 0), some (.int x3.1)]) (S2 := []) (σ2 := x4) 1 (fun n h => h) (fun hc5 => ?_) (fun hc5 => ?_)
    · rw [if_pos hc5] at h
      cases h
      exact go_ret 2 (fun _ => hp)
    · rw [if_neg hc5] at h
      cases h
      exact go_ret 3 (fun _ => hp)
  · rw [if_neg hc1] at h
    cases h
    exact go_ret 2 (fun _ => hp)
def f_X_primeIndex_l2 (N : Nat) (σ : aSt) : Nat → Int32 → Int32 → Option Int32
  | 0, _, _ => none
  | n + 1, v0, v1 => (if (25 : Int32) ≤ v1 then some (-1 : Int32) else (if 0 ≤ v1 ∧ v1 < (25 : Int32) then (if (σ.1 87 v1.toNatClampNeg) ≠ v0 then f_X_primeIndex_l2 N σ n v0 (v1 + (1 : Int32)) else some v1) else none))
set_option maxRecDepth 20000 in
set_option maxHeartbeats 4000000 in
theorem t_X_primeIndex_l2 (d : Nat) {N : Nat} (σ : aSt) {x : Int32} {P : Option Value → aSt → Prop} (hp : P (some (.int x)) σ) : ∀ (n : Nat) (v0 : Int32) (v1 : Int32), f_X_primeIndex_l2 N σ n v0 v1 = some x → aGo (aCall MT (d + 0)) P mc_X_primeIndex 2 [some (.int v0), some (.int v1)] [] σ := by
  intro n
  induction n with
  | zero => intro v0 v1 h; cases h
  | succ n ih =>
    intro v0 v1 h
    rw [f_X_primeIndex_l2] at h
    refine go_if (c := (25 : Int32) ≤ v1) (k1 := 15) (L1 := [some (.int v0), some (.int v1)]) (S1 := []) (σ1 := σ) (k2 := 6) (L2 := [some (.int v0), some (.int v1)]) (S2 := []) (σ2 := σ) 4 (fun n h => h) (fun hc1 => ?_) (fun hc1 => ?_)
    · rw [if_pos hc1] at h
      cases h
      exact go_ret 2 (fun _ => hp)
    · rw [if_neg hc1] at h
      obtain ⟨hc2, h⟩ := ite_of h
      refine go_q (Q := inb 0 σ 87 v1) (k' := 9) (L' := [some (.int v0), some (.int v1)]) (S' := [.int (σ.1 87 v1.toNatClampNeg)]) (σ' := σ) 3 (inb_mk rfl hc2.1 hc2.2) (fun n h => h) ?_
      refine go_if (c := (σ.1 87 v1.toNatClampNeg) ≠ v0) (k1 := 13) (L1 := [some (.int v0), some (.int v1)]) (S1 := []) (σ1 := σ) (k2 := 11) (L2 := [some (.int v0), some (.int v1)]) (S2 := []) (σ2 := σ) 2 (fun n h => h) (fun hc3 => ?_) (fun hc3 => ?_)
      · rw [if_pos hc3] at h
        refine go_st (k' := 2) (L' := [some (.int v0), some (.int (v1 + (1 : Int32)))]) (S' := []) (σ' := σ) 2 (fun n h => h) ?_
        exact ih v0 (v1 + (1 : Int32)) h
      · rw [if_neg hc3] at h
        cases h
        exact go_ret 2 (fun _ => hp)
def f_X_primeIndex (N : Nat) (p0 : Int32) (σ : aSt) : Option Int32 :=
  f_X_primeIndex_l2 N σ N p0 (0 : Int32)
set_option maxRecDepth 20000 in
set_option maxHeartbeats 4000000 in
theorem c_X_primeIndex (d : Nat) {N : Nat} (p0 : Int32) (σ : aSt) {P : Option Value → aSt → Prop} {x : Int32} (h : f_X_primeIndex N p0 σ = some x) (hp : P (some (.int x)) σ) : aCall MT (d + 1) 136 [.int p0] σ P := by
  unfold f_X_primeIndex at h
  refine call_of (code := mc_X_primeIndex) (L := [some (.int p0), none]) rfl rfl rfl rfl ?_
  refine go_st (k' := 2) (L' := [some (.int p0), some (.int (0 : Int32))]) (S' := []) (σ' := σ) 2 (fun n h => h) ?_
  exact t_X_primeIndex_l2 d σ hp N p0 (0 : Int32) h
def f_Whole_residue (N : Nat) (p0 : Int64) (p1 : Int32) : Option Int32 :=
  (if 0 < p1 then (if ¬ p1.toInt64 = 0 then (if 0 ≤ (lrem p0 p1.toInt64).toInt32 then some (lrem p0 p1.toInt64).toInt32 else some ((lrem p0 p1.toInt64).toInt32 + p1)) else none) else some (0 : Int32))
set_option maxRecDepth 20000 in
set_option maxHeartbeats 4000000 in
theorem c_Whole_residue (d : Nat) {N : Nat} (p0 : Int64) (p1 : Int32) (σ : aSt) {P : Option Value → aSt → Prop} {x : Int32} (h : f_Whole_residue N p0 p1 = some x) (hp : P (some (.int x)) σ) : aCall MT (d + 1) 137 [.long p0, .int p1] σ P := by
  unfold f_Whole_residue at h
  refine call_of (code := mc_Whole_residue) (L := [some (.long p0), none, some (.int p1), none]) rfl rfl rfl rfl ?_
  refine go_if (c := 0 < p1) (k1 := 4) (L1 := [some (.long p0), none, some (.int p1), none]) (S1 := []) (σ1 := σ) (k2 := 2) (L2 := [some (.long p0), none, some (.int p1), none]) (S2 := []) (σ2 := σ) 2 (fun n h => h) (fun hc1 => ?_) (fun hc1 => ?_)
  · rw [if_pos hc1] at h
    obtain ⟨hc2, h⟩ := ite_of h
    refine go_q (Q := ¬ p1.toInt64 = 0) (k' := 8) (L' := [some (.long p0), none, some (.int p1), none]) (S' := [.long (lrem p0 p1.toInt64)]) (σ' := σ) 4 hc2 (fun n h => h) ?_
    refine go_if (c := 0 ≤ (lrem p0 p1.toInt64).toInt32) (k1 := 16) (L1 := [some (.long p0), none, some (.int p1), some (.int (lrem p0 p1.toInt64).toInt32)]) (S1 := []) (σ1 := σ) (k2 := 12) (L2 := [some (.long p0), none, some (.int p1), some (.int (lrem p0 p1.toInt64).toInt32)]) (S2 := []) (σ2 := σ) 4 (fun n h => h) (fun hc3 => ?_) (fun hc3 => ?_)
    · rw [if_pos hc3] at h
      cases h
      exact go_ret 2 (fun _ => hp)
    · rw [if_neg hc3] at h
      cases h
      exact go_ret 5 (fun _ => hp)
  · rw [if_neg hc1] at h
    cases h
    exact go_ret 2 (fun _ => hp)
def f_X_besideB (σ : aSt) : Int32 :=
  (((f_PointList_a_11 σ) * (f_PointList_a_11 σ)) - ((4 : Int32) * (f_PointList_b_11 σ)))
set_option maxRecDepth 20000 in
set_option maxHeartbeats 4000000 in
theorem c_X_besideB (d : Nat) (σ : aSt) {P : Option Value → aSt → Prop} (h : P (some (.int ((f_X_besideB σ)))) σ) : aCall MT (d + 2) 138 [.ref 0] σ P := by
  unfold f_X_besideB at h
  refine call_of (code := mc_X_besideB) (L := [some (.ref 0)]) rfl rfl rfl rfl ?_
  refine go_call (r := some (.int (f_PointList_a_11 σ))) (σc := σ) (σ1 := σ) (mi := 26) (vs := [.ref 11]) (k' := 3) (L' := [some (.ref 0)]) (S' := []) 3 (fun P9 h9 => c_PointList_a_11 (d + 0) σ h9) (fun n h => h) ?_
  refine go_call (r := some (.int (f_PointList_a_11 σ))) (σc := σ) (σ1 := σ) (mi := 26) (vs := [.ref 11]) (k' := 6) (L' := [some (.ref 0)]) (S' := [.int (f_PointList_a_11 σ)]) 3 (fun P9 h9 => c_PointList_a_11 (d + 0) σ h9) (fun n h => h) ?_
  refine go_call (r := some (.int (f_PointList_b_11 σ))) (σc := σ) (σ1 := σ) (mi := 27) (vs := [.ref 11]) (k' := 11) (L' := [some (.ref 0)]) (S' := [.int (4 : Int32), .int ((f_PointList_a_11 σ) * (f_PointList_a_11 σ))]) 5 (fun P9 h9 => c_PointList_b_11 (d + 0) σ h9) (fun n h => h) ?_
  exact go_ret 3 (fun _ => h)
def f_X_isByPrime (N : Nat) (p0 : Int32) (σ : aSt) : Option Bool :=
  (if (σ.2.2 0 13) = true then (if p0 = (2 : Int32) then some false else ((f_X_primeIndex N p0 σ).bind fun x3 => (if x3 = (-1 : Int32) then some false else ((f_Whole_residue N (f_PointList_b_11 σ).toInt64 p0).bind fun x5 => (if x5 = 0 then some false else ((f_Whole_residue N (f_X_besideB σ).toInt64 p0).bind fun x7 => (if x7 = 0 then some false else some true))))))) else some false)
set_option maxRecDepth 20000 in
set_option maxHeartbeats 4000000 in
theorem c_X_isByPrime (d : Nat) {N : Nat} (p0 : Int32) (σ : aSt) {P : Option Value → aSt → Prop} {x : Bool} (h : f_X_isByPrime N p0 σ = some x) (hp : P (some (.int (b2i x))) σ) : aCall MT (d + 3) 139 [.ref 0, .int p0] σ P := by
  unfold f_X_isByPrime at h
  refine call_of (code := mc_X_isByPrime) (L := [some (.ref 0), some (.int p0)]) rfl rfl rfl rfl ?_
  refine go_ifz (b := (σ.2.2 0 13)) (k1 := 25) (L1 := [some (.ref 0), some (.int p0)]) (S1 := []) (σ1 := σ) (k2 := 3) (L2 := [some (.ref 0), some (.int p0)]) (S2 := []) (σ2 := σ) 3 (fun n h => h) (fun hc1 => ?_) (fun hc1 => ?_)
  · rw [if_neg hc1] at h
    cases h
    exact go_ret 2 (fun _ => And.intro (Or.inl rfl) hp)
  · rw [if_pos hc1] at h
    refine go_if (c := p0 = (2 : Int32)) (k1 := 25) (L1 := [some (.ref 0), some (.int p0)]) (S1 := []) (σ1 := σ) (k2 := 6) (L2 := [some (.ref 0), some (.int p0)]) (S2 := []) (σ2 := σ) 3 (fun n h => h) (fun hc2 => ?_) (fun hc2 => ?_)
    · rw [if_pos hc2] at h
      cases h
      exact go_ret 2 (fun _ => And.intro (Or.inl rfl) hp)
    · rw [if_neg hc2] at h
      obtain ⟨x3, hx3, h⟩ := bind_of h
      refine go_call (r := some (.int x3)) (σc := σ) (σ1 := σ) (mi := 136) (vs := [.int p0]) (k' := 8) (L' := [some (.ref 0), some (.int p0)]) (S' := []) 2 (fun P9 h9 => c_X_primeIndex (d + 1) p0 σ hx3 h9) (fun n h => h) ?_
      refine go_if (c := x3 = (-1 : Int32)) (k1 := 25) (L1 := [some (.ref 0), some (.int p0)]) (S1 := []) (σ1 := σ) (k2 := 10) (L2 := [some (.ref 0), some (.int p0)]) (S2 := []) (σ2 := σ) 2 (fun n h => h) (fun hc4 => ?_) (fun hc4 => ?_)
      · rw [if_pos hc4] at h
        cases h
        exact go_ret 2 (fun _ => And.intro (Or.inl rfl) hp)
      · rw [if_neg hc4] at h
        refine go_call (r := some (.int (f_PointList_b_11 σ))) (σc := σ) (σ1 := σ) (mi := 27) (vs := [.ref 11]) (k' := 13) (L' := [some (.ref 0), some (.int p0)]) (S' := []) 3 (fun P9 h9 => c_PointList_b_11 (d + 1) σ h9) (fun n h => h) ?_
        obtain ⟨x5, hx5, h⟩ := bind_of h
        refine go_call (r := some (.int x5)) (σc := σ) (σ1 := σ) (mi := 137) (vs := [.long (f_PointList_b_11 σ).toInt64, .int p0]) (k' := 16) (L' := [some (.ref 0), some (.int p0)]) (S' := []) 3 (fun P9 h9 => c_Whole_residue (d + 1) (f_PointList_b_11 σ).toInt64 p0 σ hx5 h9) (fun n h => h) ?_
        refine go_if (c := x5 = 0) (k1 := 25) (L1 := [some (.ref 0), some (.int p0)]) (S1 := []) (σ1 := σ) (k2 := 17) (L2 := [some (.ref 0), some (.int p0)]) (S2 := []) (σ2 := σ) 1 (fun n h => h) (fun hc6 => ?_) (fun hc6 => ?_)
        · rw [if_pos hc6] at h
          cases h
          exact go_ret 2 (fun _ => And.intro (Or.inl rfl) hp)
        · rw [if_neg hc6] at h
          refine go_call (r := some (.int (f_X_besideB σ))) (σc := σ) (σ1 := σ) (mi := 138) (vs := [.ref 0]) (k' := 19) (L' := [some (.ref 0), some (.int p0)]) (S' := []) 2 (fun P9 h9 => c_X_besideB (d + 0) σ h9) (fun n h => h) ?_
          obtain ⟨x7, hx7, h⟩ := bind_of h
          refine go_call (r := some (.int x7)) (σc := σ) (σ1 := σ) (mi := 137) (vs := [.long (f_X_besideB σ).toInt64, .int p0]) (k' := 22) (L' := [some (.ref 0), some (.int p0)]) (S' := []) 3 (fun P9 h9 => c_Whole_residue (d + 1) (f_X_besideB σ).toInt64 p0 σ hx7 h9) (fun n h => h) ?_
          refine go_if (c := x7 = 0) (k1 := 25) (L1 := [some (.ref 0), some (.int p0)]) (S1 := []) (σ1 := σ) (k2 := 23) (L2 := [some (.ref 0), some (.int p0)]) (S2 := []) (σ2 := σ) 1 (fun n h => h) (fun hc8 => ?_) (fun hc8 => ?_)
          · rw [if_pos hc8] at h
            cases h
            exact go_ret 2 (fun _ => And.intro (Or.inl rfl) hp)
          · rw [if_neg hc8] at h
            cases h
            exact go_ret 3 (fun _ => And.intro (Or.inr rfl) hp)
def f_PrimeGroup_residue (N : Nat) (p0 : Int64) (σ : aSt) : Option Int32 :=
  ((f_Whole_residue N p0 (σ.1 34 10)).bind fun x1 => some x1)
set_option maxRecDepth 20000 in
set_option maxHeartbeats 4000000 in
theorem c_PrimeGroup_residue (d : Nat) {N : Nat} (p0 : Int64) (σ : aSt) {P : Option Value → aSt → Prop} {x : Int32} (h : f_PrimeGroup_residue N p0 σ = some x) (hp : P (some (.int x)) σ) : aCall MT (d + 2) 140 [.ref 34, .long p0] σ P := by
  unfold f_PrimeGroup_residue at h
  refine call_of (code := mc_PrimeGroup_residue) (L := [some (.ref 34), some (.long p0), none]) rfl rfl rfl rfl ?_
  obtain ⟨x1, hx1, h⟩ := bind_of h
  refine go_call (r := some (.int x1)) (σc := σ) (σ1 := σ) (mi := 137) (vs := [.long p0, .int (σ.1 34 10)]) (k' := 4) (L' := [some (.ref 34), some (.long p0), none]) (S' := []) 4 (fun P9 h9 => c_Whole_residue (d + 0) p0 (σ.1 34 10) σ hx1 h9) (fun n h => h) ?_
  cases h
  exact go_ret 1 (fun _ => hp)
def f_PrimeGroup_take_l55 (N : Nat) : Nat → Int32 → aSt → Option aSt
  | 0, _, _ => none
  | n + 1, v2, σ => (if (σ.1 34 10) ≤ v2 then some σ else (if ¬ v2 = 0 then ((f_PrimeGroup_residue N (((σ.1 34 10) - ((σ.1 34 10) / v2)) * (f_pick σ 36 (irem (σ.1 34 10) v2))).toInt64 σ).bind fun x9 => (lt (f_store σ 36 v2 x9) fun x10 => f_PrimeGroup_take_l55 N n (v2 + (1 : Int32)) x10)) else none))
set_option maxRecDepth 20000 in
set_option maxHeartbeats 4000000 in
theorem t_PrimeGroup_take_l55 (d : Nat) {N : Nat} {x : aSt} {P : Option Value → aSt → Prop} (hp : P none x) : ∀ (n : Nat) (d1 : Option Value) (v2 : Int32) (σ : aSt), f_PrimeGroup_take_l55 N n v2 σ = some x → aGo (aCall MT (d + 2)) P mc_PrimeGroup_take 55 [some (.ref 34), d1, some (.int v2)] [] σ := by
  intro n
  induction n with
  | zero => intro d1 v2 σ h; cases h
  | succ n ih =>
    intro d1 v2 σ h
    rw [f_PrimeGroup_take_l55] at h
    refine go_if (c := (σ.1 34 10) ≤ v2) (k1 := 83) (L1 := [some (.ref 34), d1, some (.int v2)]) (S1 := []) (σ1 := σ) (k2 := 59) (L2 := [some (.ref 34), d1, some (.int v2)]) (S2 := []) (σ2 := σ) 4 (fun n h => h) (fun hc7 => ?_) (fun hc7 => ?_)
    · rw [if_pos hc7] at h
      cases h
      exact go_ret 1 (fun _ => hp)
    · rw [if_neg hc7] at h
      obtain ⟨hc8, h⟩ := ite_of h
      refine go_q (Q := ¬ v2 = 0) (k' := 69) (L' := [some (.ref 34), d1, some (.int v2)]) (S' := [.int ((σ.1 34 10) / v2), .int (σ.1 34 10), .ref 34, .int v2, .ref 36]) (σ' := σ) 10 hc8 (fun n h => h) ?_
      refine go_q (Q := ¬ v2 = 0) (k' := 76) (L' := [some (.ref 34), d1, some (.int v2)]) (S' := [.int (irem (σ.1 34 10) v2), .ref 36, .int ((σ.1 34 10) - ((σ.1 34 10) / v2)), .ref 34, .int v2, .ref 36]) (σ' := σ) 7 (hc8) (fun n h => h) ?_
      refine go_call (r := some (.int (f_pick σ 36 (irem (σ.1 34 10) v2)))) (σc := σ) (σ1 := σ) (mi := 9) (vs := [.ref 36, .int (irem (σ.1 34 10) v2)]) (k' := 77) (L' := [some (.ref 34), d1, some (.int v2)]) (S' := [.int ((σ.1 34 10) - ((σ.1 34 10) / v2)), .ref 34, .int v2, .ref 36]) 1 (fun P9 h9 => c_pick (d + 1) σ 36 rfl (irem (σ.1 34 10) v2) h9) (fun n h => h) ?_
      obtain ⟨x9, hx9, h⟩ := bind_of h
      refine go_call (r := some (.int x9)) (σc := σ) (σ1 := σ) (mi := 140) (vs := [.ref 34, .long (((σ.1 34 10) - ((σ.1 34 10) / v2)) * (f_pick σ 36 (irem (σ.1 34 10) v2))).toInt64]) (k' := 80) (L' := [some (.ref 34), d1, some (.int v2)]) (S' := [.int v2, .ref 36]) 3 (fun P9 h9 => c_PrimeGroup_residue (d + 0) (((σ.1 34 10) - ((σ.1 34 10) / v2)) * (f_pick σ 36 (irem (σ.1 34 10) v2))).toInt64 σ hx9 h9) (fun n h => h) ?_
      obtain ⟨x10, hx10, h⟩ := lt_of h
      refine go_call (r := none) (σc := σ) (σ1 := x10) (mi := 1) (vs := [.ref 36, .int v2, .int x9]) (k' := 81) (L' := [some (.ref 34), d1, some (.int v2)]) (S' := []) 1 (fun P9 h9 => c_store (d + 1) σ 36 rfl rfl v2 x9 (by rw [← hx10]; exact h9)) (fun n h => h) ?_
      refine go_st (k' := 55) (L' := [some (.ref 34), d1, some (.int (v2 + (1 : Int32)))]) (S' := []) (σ' := x10) 2 (fun n h => h) ?_
      exact ih _ (v2 + (1 : Int32)) x10 h
def f_PrimeGroup_take_l34 (N : Nat) : Nat → Int32 → aSt → Option aSt
  | 0, _, _ => none
  | n + 1, v2, σ => (if v2 < 0 then (lt (f_store σ 36 (1 : Int32) (1 : Int32)) fun x6 => f_PrimeGroup_take_l55 N N (2 : Int32) x6) else ((f_PrimeGroup_residue N (v2 * v2).toInt64 σ).bind fun x11 => (lt (f_store σ 35 x11 v2) fun x12 => f_PrimeGroup_take_l34 N n (v2 + (-1 : Int32)) x12)))
set_option maxRecDepth 20000 in
set_option maxHeartbeats 4000000 in
theorem t_PrimeGroup_take_l34 (d : Nat) {N : Nat} {x : aSt} {P : Option Value → aSt → Prop} (hp : P none x) : ∀ (n : Nat) (d1 : Option Value) (v2 : Int32) (σ : aSt), f_PrimeGroup_take_l34 N n v2 σ = some x → aGo (aCall MT (d + 2)) P mc_PrimeGroup_take 34 [some (.ref 34), d1, some (.int v2)] [] σ := by
  intro n
  induction n with
  | zero => intro d1 v2 σ h; cases h
  | succ n ih =>
    intro d1 v2 σ h
    rw [f_PrimeGroup_take_l34] at h
    refine go_if (c := v2 < 0) (k1 := 48) (L1 := [some (.ref 34), d1, some (.int v2)]) (S1 := []) (σ1 := σ) (k2 := 36) (L2 := [some (.ref 34), d1, some (.int v2)]) (S2 := []) (σ2 := σ) 2 (fun n h => h) (fun hc5 => ?_) (fun hc5 => ?_)
    · rw [if_pos hc5] at h
      obtain ⟨x6, hx6, h⟩ := lt_of h
      refine go_call (r := none) (σc := σ) (σ1 := x6) (mi := 1) (vs := [.ref 36, .int (1 : Int32), .int (1 : Int32)]) (k' := 53) (L' := [some (.ref 34), d1, some (.int v2)]) (S' := []) 5 (fun P9 h9 => c_store (d + 1) σ 36 rfl rfl (1 : Int32) (1 : Int32) (by rw [← hx6]; exact h9)) (fun n h => h) ?_
      refine go_st (k' := 55) (L' := [some (.ref 34), none, some (.int (2 : Int32))]) (S' := []) (σ' := x6) 2 (fun n h => h) ?_
      exact t_PrimeGroup_take_l55 d hp N _ (2 : Int32) x6 h
    · rw [if_neg hc5] at h
      obtain ⟨x11, hx11, h⟩ := bind_of h
      refine go_call (r := some (.int x11)) (σc := σ) (σ1 := σ) (mi := 140) (vs := [.ref 34, .long (v2 * v2).toInt64]) (k' := 44) (L' := [some (.ref 34), d1, some (.int v2)]) (S' := [.ref 35]) 8 (fun P9 h9 => c_PrimeGroup_residue (d + 0) (v2 * v2).toInt64 σ hx11 h9) (fun n h => h) ?_
      obtain ⟨x12, hx12, h⟩ := lt_of h
      refine go_call (r := none) (σc := σ) (σ1 := x12) (mi := 1) (vs := [.ref 35, .int x11, .int v2]) (k' := 46) (L' := [some (.ref 34), d1, some (.int v2)]) (S' := []) 2 (fun P9 h9 => c_store (d + 1) σ 35 rfl rfl x11 v2 (by rw [← hx12]; exact h9)) (fun n h => h) ?_
      refine go_st (k' := 34) (L' := [some (.ref 34), d1, some (.int (v2 + (-1 : Int32)))]) (S' := []) (σ' := x12) 2 (fun n h => h) ?_
      exact ih _ (v2 + (-1 : Int32)) x12 h
def f_PrimeGroup_take (N : Nat) (p0 : Int32) (σ : aSt) : Option aSt :=
  (if (σ.1 34 10) ≠ p0 then ((f_PrimeGroup_residue N (σ.1 34 6).toInt64 (s_i σ 34 10 p0)).bind fun x2 => ((f_PrimeGroup_residue N (σ.1 34 7).toInt64 (s_i (s_i σ 34 10 p0) 34 8 x2)).bind fun x3 => (lt (f_fill (s_i (s_i (s_i (s_i σ 34 10 p0) 34 8 x2) 34 9 x3) 34 11 (0 : Int32)) 35 (-1 : Int32)) fun x4 => f_PrimeGroup_take_l34 N N ((x4.1 34 10) / (2 : Int32)) x4))) else some σ)
set_option maxRecDepth 20000 in
set_option maxHeartbeats 4000000 in
theorem c_PrimeGroup_take (d : Nat) {N : Nat} (p0 : Int32) (σ : aSt) {P : Option Value → aSt → Prop} {x : aSt} (h : f_PrimeGroup_take N p0 σ = some x) (hp : P none x) : aCall MT (d + 3) 141 [.ref 34, .int p0] σ P := by
  unfold f_PrimeGroup_take at h
  refine call_of (code := mc_PrimeGroup_take) (L := [some (.ref 34), some (.int p0), none]) rfl rfl rfl rfl ?_
  refine go_if (c := (σ.1 34 10) ≠ p0) (k1 := 5) (L1 := [some (.ref 34), some (.int p0), none]) (S1 := []) (σ1 := σ) (k2 := 4) (L2 := [some (.ref 34), some (.int p0), none]) (S2 := []) (σ2 := σ) 4 (fun n h => h) (fun hc1 => ?_) (fun hc1 => ?_)
  · rw [if_pos hc1] at h
    obtain ⟨x2, hx2, h⟩ := bind_of h
    refine go_call (r := some (.int x2)) (σc := (s_i σ 34 10 p0)) (σ1 := (s_i σ 34 10 p0)) (mi := 140) (vs := [.ref 34, .long (σ.1 34 6).toInt64]) (k' := 14) (L' := [some (.ref 34), some (.int p0), none]) (S' := [.ref 34]) 9 (fun P9 h9 => c_PrimeGroup_residue (d + 0) (σ.1 34 6).toInt64 (s_i σ 34 10 p0) hx2 h9) (fun n h => h) ?_
    obtain ⟨x3, hx3, h⟩ := bind_of h
    refine go_call (r := some (.int x3)) (σc := (s_i (s_i σ 34 10 p0) 34 8 x2)) (σ1 := (s_i (s_i σ 34 10 p0) 34 8 x2)) (mi := 140) (vs := [.ref 34, .long (σ.1 34 7).toInt64]) (k' := 21) (L' := [some (.ref 34), some (.int p0), none]) (S' := [.ref 34]) 7 (fun P9 h9 => c_PrimeGroup_residue (d + 0) (σ.1 34 7).toInt64 (s_i (s_i σ 34 10 p0) 34 8 x2) hx3 h9) (fun n h => h) ?_
    obtain ⟨x4, hx4, h⟩ := lt_of h
    refine go_call (r := none) (σc := (s_i (s_i (s_i (s_i σ 34 10 p0) 34 8 x2) 34 9 x3) 34 11 (0 : Int32))) (σ1 := x4) (mi := 28) (vs := [.ref 35, .int (-1 : Int32)]) (k' := 29) (L' := [some (.ref 34), some (.int p0), none]) (S' := []) 8 (fun P9 h9 => c_fill (d + 1) (s_i (s_i (s_i (s_i σ 34 10 p0) 34 8 x2) 34 9 x3) 34 11 (0 : Int32)) 35 rfl rfl (-1 : Int32) (by rw [← hx4]; exact h9)) (fun n h => h) ?_
    refine go_q (Q := ¬ (2 : Int32) = 0) (k' := 33) (L' := [some (.ref 34), some (.int p0), none]) (S' := [.int ((x4.1 34 10) / (2 : Int32))]) (σ' := x4) 4 (by decide) (fun n h => h) ?_
    refine go_st (k' := 34) (L' := [some (.ref 34), none, some (.int ((x4.1 34 10) / (2 : Int32)))]) (S' := []) (σ' := x4) 1 (fun n h => h) ?_
    exact t_PrimeGroup_take_l34 d hp N _ ((x4.1 34 10) / (2 : Int32)) x4 h
  · rw [if_neg hc1] at h
    cases h
    exact go_ret 1 (fun _ => hp)
def f_PrimeGroup_rootAt (N : Nat) (p0 : Int32) (σ : aSt) : Option Int32 :=
  ((f_PrimeGroup_residue N ((p0.toInt64 * (p0 + (σ.1 34 8)).toInt64) + (σ.1 34 9).toInt64) σ).bind fun x1 => ((f_PrimeGroup_residue N (p0.toInt64 * x1.toInt64) σ).bind fun x2 => some (f_pick σ 35 x2)))
set_option maxRecDepth 20000 in
set_option maxHeartbeats 4000000 in
theorem c_PrimeGroup_rootAt (d : Nat) {N : Nat} (p0 : Int32) (σ : aSt) {P : Option Value → aSt → Prop} {x : Int32} (h : f_PrimeGroup_rootAt N p0 σ = some x) (hp : P (some (.int x)) σ) : aCall MT (d + 3) 142 [.ref 34, .int p0] σ P := by
  unfold f_PrimeGroup_rootAt at h
  refine call_of (code := mc_PrimeGroup_rootAt) (L := [some (.ref 34), some (.int p0)]) rfl rfl rfl rfl ?_
  obtain ⟨x1, hx1, h⟩ := bind_of h
  refine go_call (r := some (.int x1)) (σc := σ) (σ1 := σ) (mi := 140) (vs := [.ref 34, .long ((p0.toInt64 * (p0 + (σ.1 34 8)).toInt64) + (σ.1 34 9).toInt64)]) (k' := 19) (L' := [some (.ref 34), some (.int p0)]) (S' := [.long p0.toInt64, .ref 34, .ref 35]) 19 (fun P9 h9 => c_PrimeGroup_residue (d + 0) ((p0.toInt64 * (p0 + (σ.1 34 8)).toInt64) + (σ.1 34 9).toInt64) σ hx1 h9) (fun n h => h) ?_
  obtain ⟨x2, hx2, h⟩ := bind_of h
  refine go_call (r := some (.int x2)) (σc := σ) (σ1 := σ) (mi := 140) (vs := [.ref 34, .long (p0.toInt64 * x1.toInt64)]) (k' := 22) (L' := [some (.ref 34), some (.int p0)]) (S' := [.ref 35]) 3 (fun P9 h9 => c_PrimeGroup_residue (d + 0) (p0.toInt64 * x1.toInt64) σ hx2 h9) (fun n h => h) ?_
  refine go_call (r := some (.int (f_pick σ 35 x2))) (σc := σ) (σ1 := σ) (mi := 9) (vs := [.ref 35, .int x2]) (k' := 23) (L' := [some (.ref 34), some (.int p0)]) (S' := []) 1 (fun P9 h9 => c_pick (d + 1) σ 35 rfl x2 h9) (fun n h => h) ?_
  cases h
  exact go_ret 1 (fun _ => hp)
def f_PrimeGroup_manyBy_l16 (N : Nat) : Nat → Int32 → Int32 → Int32 → aSt → Option (Int32 × aSt)
  | 0, _, _, _, _ => none
  | n + 1, v1, v3, v4, σ => (if (σ.1 34 10) ≤ v4 then (lt (f_store σ 40 v1 v3) fun x4 => some (v3, x4)) else ((f_PrimeGroup_rootAt N v4 σ).bind fun x5 => (if x5 < 0 then f_PrimeGroup_manyBy_l16 N n v1 v3 (v4 + (1 : Int32)) σ else (if x5 ≠ 0 then f_PrimeGroup_manyBy_l16 N n v1 (v3 + (2 : Int32)) (v4 + (1 : Int32)) σ else f_PrimeGroup_manyBy_l16 N n v1 (v3 + (1 : Int32)) (v4 + (1 : Int32)) σ))))
set_option maxRecDepth 20000 in
set_option maxHeartbeats 4000000 in
theorem t_PrimeGroup_manyBy_l16 (d : Nat) {N : Nat} {x : (Int32 × aSt)} {P : Option Value → aSt → Prop} (hp : P (some (.int x.1)) x.2) : ∀ (n : Nat) (d2 d5 : Option Value) (v1 : Int32) (v3 : Int32) (v4 : Int32) (σ : aSt), f_PrimeGroup_manyBy_l16 N n v1 v3 v4 σ = some x → aGo (aCall MT (d + 3)) P mc_PrimeGroup_manyBy 16 [some (.ref 34), some (.int v1), d2, some (.int v3), some (.int v4), d5] [] σ := by
  intro n
  induction n with
  | zero => intro d2 d5 v1 v3 v4 σ h; cases h
  | succ n ih =>
    intro d2 d5 v1 v3 v4 σ h
    rw [f_PrimeGroup_manyBy_l16] at h
    refine go_if (c := (σ.1 34 10) ≤ v4) (k1 := 36) (L1 := [some (.ref 34), some (.int v1), d2, some (.int v3), some (.int v4), d5]) (S1 := []) (σ1 := σ) (k2 := 20) (L2 := [some (.ref 34), some (.int v1), d2, some (.int v3), some (.int v4), d5]) (S2 := []) (σ2 := σ) 4 (fun n h => h) (fun hc3 => ?_) (fun hc3 => ?_)
    · rw [if_pos hc3] at h
      obtain ⟨x4, hx4, h⟩ := lt_of h
      refine go_call (r := none) (σc := σ) (σ1 := x4) (mi := 1) (vs := [.ref 40, .int v1, .int v3]) (k' := 41) (L' := [some (.ref 34), some (.int v1), d2, some (.int v3), some (.int v4), d5]) (S' := []) 5 (fun P9 h9 => c_store (d + 2) σ 40 rfl rfl v1 v3 (by rw [← hx4]; exact h9)) (fun n h => h) ?_
      cases h
      exact go_ret 2 (fun _ => hp)
    · rw [if_neg hc3] at h
      obtain ⟨x5, hx5, h⟩ := bind_of h
      refine go_call (r := some (.int x5)) (σc := σ) (σ1 := σ) (mi := 142) (vs := [.ref 34, .int v4]) (k' := 23) (L' := [some (.ref 34), some (.int v1), d2, some (.int v3), some (.int v4), d5]) (S' := []) 3 (fun P9 h9 => c_PrimeGroup_rootAt (d + 0) v4 σ hx5 h9) (fun n h => h) ?_
      refine go_if (c := x5 < 0) (k1 := 34) (L1 := [some (.ref 34), some (.int v1), d2, some (.int v3), some (.int v4), some (.int x5)]) (S1 := []) (σ1 := σ) (k2 := 26) (L2 := [some (.ref 34), some (.int v1), d2, some (.int v3), some (.int v4), some (.int x5)]) (S2 := []) (σ2 := σ) 3 (fun n h => h) (fun hc6 => ?_) (fun hc6 => ?_)
      · rw [if_pos hc6] at h
        refine go_st (k' := 16) (L' := [some (.ref 34), some (.int v1), d2, some (.int v3), some (.int (v4 + (1 : Int32))), some (.int x5)]) (S' := []) (σ' := σ) 2 (fun n h => h) ?_
        exact ih _ _ v1 v3 (v4 + (1 : Int32)) σ h
      · rw [if_neg hc6] at h
        refine go_if (c := x5 ≠ 0) (k1 := 31) (L1 := [some (.ref 34), some (.int v1), d2, some (.int v3), some (.int v4), some (.int x5)]) (S1 := [.int v3]) (σ1 := σ) (k2 := 29) (L2 := [some (.ref 34), some (.int v1), d2, some (.int v3), some (.int v4), some (.int x5)]) (S2 := [.int v3]) (σ2 := σ) 3 (fun n h => h) (fun hc7 => ?_) (fun hc7 => ?_)
        · rw [if_pos hc7] at h
          refine go_st (k' := 16) (L' := [some (.ref 34), some (.int v1), none, some (.int (v3 + (2 : Int32))), some (.int (v4 + (1 : Int32))), some (.int x5)]) (S' := []) (σ' := σ) 5 (fun n h => h) ?_
          exact ih _ _ v1 (v3 + (2 : Int32)) (v4 + (1 : Int32)) σ h
        · rw [if_neg hc7] at h
          refine go_st (k' := 16) (L' := [some (.ref 34), some (.int v1), none, some (.int (v3 + (1 : Int32))), some (.int (v4 + (1 : Int32))), some (.int x5)]) (S' := []) (σ' := σ) 6 (fun n h => h) ?_
          exact ih _ _ v1 (v3 + (1 : Int32)) (v4 + (1 : Int32)) σ h
def f_PrimeGroup_manyBy (N : Nat) (p0 : Int32) (σ : aSt) : Option (Int32 × aSt) :=
  (if (f_pick σ 40 p0) = 0 then ((f_PrimeGroup_take N p0 σ).bind fun x2 => f_PrimeGroup_manyBy_l16 N N p0 (1 : Int32) (0 : Int32) x2) else some ((f_pick σ 40 p0), σ))
set_option maxRecDepth 20000 in
set_option maxHeartbeats 4000000 in
theorem c_PrimeGroup_manyBy (d : Nat) {N : Nat} (p0 : Int32) (σ : aSt) {P : Option Value → aSt → Prop} {x : (Int32 × aSt)} (h : f_PrimeGroup_manyBy N p0 σ = some x) (hp : P (some (.int x.1)) x.2) : aCall MT (d + 4) 143 [.ref 34, .int p0] σ P := by
  unfold f_PrimeGroup_manyBy at h
  refine call_of (code := mc_PrimeGroup_manyBy) (L := [some (.ref 34), some (.int p0), none, none, none, none]) rfl rfl rfl rfl ?_
  refine go_call (r := some (.int (f_pick σ 40 p0))) (σc := σ) (σ1 := σ) (mi := 9) (vs := [.ref 40, .int p0]) (k' := 4) (L' := [some (.ref 34), some (.int p0), none, none, none, none]) (S' := []) 4 (fun P9 h9 => c_pick (d + 2) σ 40 rfl p0 h9) (fun n h => h) ?_
  refine go_if (c := (f_pick σ 40 p0) = 0) (k1 := 9) (L1 := [some (.ref 34), some (.int p0), some (.int (f_pick σ 40 p0)), none, none, none]) (S1 := []) (σ1 := σ) (k2 := 7) (L2 := [some (.ref 34), some (.int p0), some (.int (f_pick σ 40 p0)), none, none, none]) (S2 := []) (σ2 := σ) 3 (fun n h => h) (fun hc1 => ?_) (fun hc1 => ?_)
  · rw [if_pos hc1] at h
    obtain ⟨x2, hx2, h⟩ := bind_of h
    refine go_call (r := none) (σc := σ) (σ1 := x2) (mi := 141) (vs := [.ref 34, .int p0]) (k' := 12) (L' := [some (.ref 34), some (.int p0), some (.int (f_pick σ 40 p0)), none, none, none]) (S' := []) 3 (fun P9 h9 => c_PrimeGroup_take (d + 0) p0 σ hx2 h9) (fun n h => h) ?_
    refine go_st (k' := 16) (L' := [some (.ref 34), some (.int p0), none, some (.int (1 : Int32)), some (.int (0 : Int32)), none]) (S' := []) (σ' := x2) 4 (fun n h => h) ?_
    exact t_PrimeGroup_manyBy_l16 d hp N _ _ p0 (1 : Int32) (0 : Int32) x2 h
  · rw [if_neg hc1] at h
    cases h
    exact go_ret 2 (fun _ => hp)
def f_X_many (N : Nat) (p0 : Int32) (σ : aSt) : Option (Int32 × aSt) :=
  ((f_X_isByPrime N p0 σ).bind fun x1 => (if x1 = true then ((f_PrimeGroup_manyBy N p0 σ).bind fun x3 => some (x3.1, x3.2)) else some ((-2 : Int32), σ)))
set_option maxRecDepth 20000 in
set_option maxHeartbeats 4000000 in
theorem c_X_many (d : Nat) {N : Nat} (p0 : Int32) (σ : aSt) {P : Option Value → aSt → Prop} {x : (Int32 × aSt)} (h : f_X_many N p0 σ = some x) (hp : P (some (.int x.1)) x.2) : aCall MT (d + 5) 144 [.ref 0, .int p0] σ P := by
  unfold f_X_many at h
  refine call_of (code := mc_X_many) (L := [some (.ref 0), some (.int p0)]) rfl rfl rfl rfl ?_
  obtain ⟨x1, hx1, h⟩ := bind_of h
  refine go_call (r := some (.int (b2i x1))) (σc := σ) (σ1 := σ) (mi := 139) (vs := [.ref 0, .int p0]) (k' := 3) (L' := [some (.ref 0), some (.int p0)]) (S' := []) 3 (fun P9 h9 => c_X_isByPrime (d + 1) p0 σ hx1 h9) (fun n h => h) ?_
  refine go_ifz (b := x1) (k1 := 9) (L1 := [some (.ref 0), some (.int p0)]) (S1 := []) (σ1 := σ) (k2 := 4) (L2 := [some (.ref 0), some (.int p0)]) (S2 := []) (σ2 := σ) 1 (fun n h => h) (fun hc2 => ?_) (fun hc2 => ?_)
  · rw [if_neg hc2] at h
    cases h
    exact go_ret 2 (fun _ => hp)
  · rw [if_pos hc2] at h
    obtain ⟨x3, hx3, h⟩ := bind_of h
    refine go_call (r := some (.int x3.1)) (σc := σ) (σ1 := x3.2) (mi := 143) (vs := [.ref 34, .int p0]) (k' := 8) (L' := [some (.ref 0), some (.int p0)]) (S' := []) 4 (fun P9 h9 => c_PrimeGroup_manyBy (d + 0) p0 σ hx3 h9) (fun n h => h) ?_
    cases h
    exact go_ret 2 (fun _ => hp)
def f_PrimeGroup_codeOf (N : Nat) (p0 : Int32) (p1 : Int32) (p2 : Int32) (σ : aSt) : Option Int32 :=
  ((f_PrimeGroup_residue N p2.toInt64 σ).bind fun x1 => (if x1 ≠ 0 then ((f_PrimeGroup_residue N ((p0.toInt64 * (f_pick σ 36 x1).toInt64) * (f_pick σ 36 x1).toInt64) σ).bind fun x3 => ((f_PrimeGroup_residue N (((p1.toInt64 * (f_pick σ 36 x1).toInt64) * (f_pick σ 36 x1).toInt64) * (f_pick σ 36 x1).toInt64) σ).bind fun x4 => some ((x3 * (128 : Int32)) + x4))) else some (-1 : Int32)))
set_option maxRecDepth 20000 in
set_option maxHeartbeats 4000000 in
theorem c_PrimeGroup_codeOf (d : Nat) {N : Nat} (p0 : Int32) (p1 : Int32) (p2 : Int32) (σ : aSt) {P : Option Value → aSt → Prop} {x : Int32} (h : f_PrimeGroup_codeOf N p0 p1 p2 σ = some x) (hp : P (some (.int x)) σ) : aCall MT (d + 3) 150 [.ref 34, .int p0, .int p1, .int p2] σ P := by
  unfold f_PrimeGroup_codeOf at h
  refine call_of (code := mc_PrimeGroup_codeOf) (L := [some (.ref 34), some (.int p0), some (.int p1), some (.int p2), none, none, none, none, none]) rfl rfl rfl rfl ?_
  obtain ⟨x1, hx1, h⟩ := bind_of h
  refine go_call (r := some (.int x1)) (σc := σ) (σ1 := σ) (mi := 140) (vs := [.ref 34, .long p2.toInt64]) (k' := 4) (L' := [some (.ref 34), some (.int p0), some (.int p1), some (.int p2), none, none, none, none, none]) (S' := []) 4 (fun P9 h9 => c_PrimeGroup_residue (d + 0) p2.toInt64 σ hx1 h9) (fun n h => h) ?_
  refine go_if (c := x1 ≠ 0) (k1 := 9) (L1 := [some (.ref 34), some (.int p0), some (.int p1), none, some (.int x1), none, none, none, none]) (S1 := []) (σ1 := σ) (k2 := 7) (L2 := [some (.ref 34), some (.int p0), some (.int p1), none, some (.int x1), none, none, none, none]) (S2 := []) (σ2 := σ) 3 (fun n h => h) (fun hc2 => ?_) (fun hc2 => ?_)
  · rw [if_pos hc2] at h
    refine go_call (r := some (.int (f_pick σ 36 x1))) (σc := σ) (σ1 := σ) (mi := 9) (vs := [.ref 36, .int x1]) (k' := 13) (L' := [some (.ref 34), some (.int p0), some (.int p1), none, some (.int x1), none, none, none, none]) (S' := []) 4 (fun P9 h9 => c_pick (d + 1) σ 36 rfl x1 h9) (fun n h => h) ?_
    obtain ⟨x3, hx3, h⟩ := bind_of h
    refine go_call (r := some (.int x3)) (σc := σ) (σ1 := σ) (mi := 140) (vs := [.ref 34, .long ((p0.toInt64 * (f_pick σ 36 x1).toInt64) * (f_pick σ 36 x1).toInt64)]) (k' := 23) (L' := [some (.ref 34), some (.int p0), some (.int p1), none, none, some (.long (f_pick σ 36 x1).toInt64), none, none, none]) (S' := []) 10 (fun P9 h9 => c_PrimeGroup_residue (d + 0) ((p0.toInt64 * (f_pick σ 36 x1).toInt64) * (f_pick σ 36 x1).toInt64) σ hx3 h9) (fun n h => h) ?_
    obtain ⟨x4, hx4, h⟩ := bind_of h
    refine go_call (r := some (.int x4)) (σc := σ) (σ1 := σ) (mi := 140) (vs := [.ref 34, .long (((p1.toInt64 * (f_pick σ 36 x1).toInt64) * (f_pick σ 36 x1).toInt64) * (f_pick σ 36 x1).toInt64)]) (k' := 34) (L' := [some (.ref 34), some (.int p0), some (.int p1), none, none, some (.long (f_pick σ 36 x1).toInt64), none, some (.int x3), none]) (S' := []) 11 (fun P9 h9 => c_PrimeGroup_residue (d + 0) (((p1.toInt64 * (f_pick σ 36 x1).toInt64) * (f_pick σ 36 x1).toInt64) * (f_pick σ 36 x1).toInt64) σ hx4 h9) (fun n h => h) ?_
    cases h
    exact go_ret 7 (fun _ => hp)
  · rw [if_neg hc2] at h
    cases h
    exact go_ret 2 (fun _ => hp)
def f_X_codeBy (N : Nat) (p0 : Int32) (σ : aSt) : Option Int32 :=
  (if p0 ≠ (1000 : Int32) then ((f_PrimeGroup_codeOf N (f_PointList_m_11 p0 σ) (f_PointList_n_11 p0 σ) (f_PointList_e_11 p0 σ) σ).bind fun x2 => some x2) else some (-1 : Int32))
set_option maxRecDepth 20000 in
set_option maxHeartbeats 4000000 in
theorem c_X_codeBy (d : Nat) {N : Nat} (p0 : Int32) (σ : aSt) {P : Option Value → aSt → Prop} {x : Int32} (h : f_X_codeBy N p0 σ = some x) (hp : P (some (.int x)) σ) : aCall MT (d + 4) 151 [.ref 0, .int p0] σ P := by
  unfold f_X_codeBy at h
  refine call_of (code := mc_X_codeBy) (L := [some (.ref 0), some (.int p0)]) rfl rfl rfl rfl ?_
  refine go_if (c := p0 ≠ (1000 : Int32)) (k1 := 5) (L1 := [some (.ref 0), some (.int p0)]) (S1 := []) (σ1 := σ) (k2 := 3) (L2 := [some (.ref 0), some (.int p0)]) (S2 := []) (σ2 := σ) 3 (fun n h => h) (fun hc1 => ?_) (fun hc1 => ?_)
  · rw [if_pos hc1] at h
    refine go_call (r := some (.int (f_PointList_m_11 p0 σ))) (σc := σ) (σ1 := σ) (mi := 74) (vs := [.ref 11, .int p0]) (k' := 11) (L' := [some (.ref 0), some (.int p0)]) (S' := [.ref 34]) 6 (fun P9 h9 => c_PointList_m_11 (d + 2) p0 σ h9) (fun n h => h) ?_
    refine go_call (r := some (.int (f_PointList_n_11 p0 σ))) (σc := σ) (σ1 := σ) (mi := 75) (vs := [.ref 11, .int p0]) (k' := 15) (L' := [some (.ref 0), some (.int p0)]) (S' := [.int (f_PointList_m_11 p0 σ), .ref 34]) 4 (fun P9 h9 => c_PointList_n_11 (d + 2) p0 σ h9) (fun n h => h) ?_
    refine go_call (r := some (.int (f_PointList_e_11 p0 σ))) (σc := σ) (σ1 := σ) (mi := 76) (vs := [.ref 11, .int p0]) (k' := 19) (L' := [some (.ref 0), some (.int p0)]) (S' := [.int (f_PointList_n_11 p0 σ), .int (f_PointList_m_11 p0 σ), .ref 34]) 4 (fun P9 h9 => c_PointList_e_11 (d + 2) p0 σ h9) (fun n h => h) ?_
    obtain ⟨x2, hx2, h⟩ := bind_of h
    refine go_call (r := some (.int x2)) (σc := σ) (σ1 := σ) (mi := 150) (vs := [.ref 34, .int (f_PointList_m_11 p0 σ), .int (f_PointList_n_11 p0 σ), .int (f_PointList_e_11 p0 σ)]) (k' := 20) (L' := [some (.ref 0), some (.int p0)]) (S' := []) 1 (fun P9 h9 => c_PrimeGroup_codeOf (d + 0) (f_PointList_m_11 p0 σ) (f_PointList_n_11 p0 σ) (f_PointList_e_11 p0 σ) σ hx2 h9) (fun n h => h) ?_
    cases h
    exact go_ret 1 (fun _ => hp)
  · rw [if_neg hc1] at h
    cases h
    exact go_ret 3 (fun _ => hp)
def f_PrimeGroup_add_b83 (N : Nat) (v3 : Int64) (v5 : Int64) (v7 : Int64) (v11 : Int64) (σ : aSt) : Option Int32 :=
  ((f_PrimeGroup_residue N v11 σ).bind fun x5 => ((f_PrimeGroup_residue N ((((x5.toInt64 * x5.toInt64) - (σ.1 34 8).toInt64) - v3) - v7) σ).bind fun x6 => ((f_PrimeGroup_residue N ((x5.toInt64 * (v3 - x6.toInt64)) - v5) σ).bind fun x7 => some ((x6 * (128 : Int32)) + x7))))
set_option maxRecDepth 20000 in
set_option maxHeartbeats 4000000 in
theorem t_PrimeGroup_add_b83 (d : Nat) {N : Nat} (d1 d2 d9 d10 d13 : Option Value) (v3 : Int64) (v5 : Int64) (v7 : Int64) (v11 : Int64) (σ : aSt) {P : Option Value → aSt → Prop} {x : Int32} (h : f_PrimeGroup_add_b83 N v3 v5 v7 v11 σ = some x) (hp : P (some (.int x)) σ) : aGo (aCall MT (d + 2)) P mc_PrimeGroup_add 83 [some (.ref 34), d1, d2, some (.long v3), none, some (.long v5), none, some (.long v7), none, d9, d10, some (.long v11), none, d13] [] σ := by
  unfold f_PrimeGroup_add_b83 at h
  obtain ⟨x5, hx5, h⟩ := bind_of h
  refine go_call (r := some (.int x5)) (σc := σ) (σ1 := σ) (mi := 140) (vs := [.ref 34, .long v11]) (k' := 86) (L' := [some (.ref 34), d1, d2, some (.long v3), none, some (.long v5), none, some (.long v7), none, d9, d10, some (.long v11), none, d13]) (S' := []) 3 (fun P9 h9 => c_PrimeGroup_residue (d + 0) v11 σ hx5 h9) (fun n h => h) ?_
  obtain ⟨x6, hx6, h⟩ := bind_of h
  refine go_call (r := some (.int x6)) (σc := σ) (σ1 := σ) (mi := 140) (vs := [.ref 34, .long ((((x5.toInt64 * x5.toInt64) - (σ.1 34 8).toInt64) - v3) - v7)]) (k' := 101) (L' := [some (.ref 34), d1, d2, some (.long v3), none, some (.long v5), none, some (.long v7), none, d9, none, some (.long x5.toInt64), none, d13]) (S' := []) 15 (fun P9 h9 => c_PrimeGroup_residue (d + 0) ((((x5.toInt64 * x5.toInt64) - (σ.1 34 8).toInt64) - v3) - v7) σ hx6 h9) (fun n h => h) ?_
  obtain ⟨x7, hx7, h⟩ := bind_of h
  refine go_call (r := some (.int x7)) (σc := σ) (σ1 := σ) (mi := 140) (vs := [.ref 34, .long ((x5.toInt64 * (v3 - x6.toInt64)) - v5)]) (k' := 115) (L' := [some (.ref 34), d1, d2, some (.long v3), none, some (.long v5), none, some (.long v7), none, d9, none, some (.long x5.toInt64), none, some (.int x6)]) (S' := [.int (x6 * (128 : Int32))]) 14 (fun P9 h9 => c_PrimeGroup_residue (d + 0) ((x5.toInt64 * (v3 - x6.toInt64)) - v5) σ hx7 h9) (fun n h => h) ?_
  cases h
  exact go_ret 2 (fun _ => hp)
def f_PrimeGroup_add (N : Nat) (p0 : Int32) (p1 : Int32) (σ : aSt) : Option Int32 :=
  (if 0 ≤ p0 then (if 0 ≤ p1 then (if (p0 / (128 : Int32)).toInt64 ≠ (p1 / (128 : Int32)).toInt64 then ((f_PrimeGroup_residue N ((p0 / (128 : Int32)).toInt64 - (p1 / (128 : Int32)).toInt64) σ).bind fun x4 => f_PrimeGroup_add_b83 N (p0 / (128 : Int32)).toInt64 (irem p0 (128 : Int32)).toInt64 (p1 / (128 : Int32)).toInt64 (((irem p0 (128 : Int32)).toInt64 - (irem p1 (128 : Int32)).toInt64) * (f_pick σ 36 x4).toInt64) σ) else ((f_PrimeGroup_residue N ((irem p0 (128 : Int32)).toInt64 + (irem p1 (128 : Int32)).toInt64) σ).bind fun x8 => (if x8 ≠ 0 then ((f_PrimeGroup_residue N ((2 : Int64) * (irem p0 (128 : Int32)).toInt64) σ).bind fun x10 => f_PrimeGroup_add_b83 N (p0 / (128 : Int32)).toInt64 (irem p0 (128 : Int32)).toInt64 (p1 / (128 : Int32)).toInt64 ((((((3 : Int64) * (p0 / (128 : Int32)).toInt64) * (p0 / (128 : Int32)).toInt64) + (((2 : Int32) * (σ.1 34 8)).toInt64 * (p0 / (128 : Int32)).toInt64)) + (σ.1 34 9).toInt64) * (f_pick σ 36 x10).toInt64) σ) else some (-1 : Int32)))) else some p0) else some p1)
set_option maxRecDepth 20000 in
set_option maxHeartbeats 4000000 in
theorem c_PrimeGroup_add (d : Nat) {N : Nat} (p0 : Int32) (p1 : Int32) (σ : aSt) {P : Option Value → aSt → Prop} {x : Int32} (h : f_PrimeGroup_add N p0 p1 σ = some x) (hp : P (some (.int x)) σ) : aCall MT (d + 3) 152 [.ref 34, .int p0, .int p1] σ P := by
  unfold f_PrimeGroup_add at h
  refine call_of (code := mc_PrimeGroup_add) (L := [some (.ref 34), some (.int p0), some (.int p1), none, none, none, none, none, none, none, none, none, none, none]) rfl rfl rfl rfl ?_
  refine go_if (c := 0 ≤ p0) (k1 := 4) (L1 := [some (.ref 34), some (.int p0), some (.int p1), none, none, none, none, none, none, none, none, none, none, none]) (S1 := []) (σ1 := σ) (k2 := 2) (L2 := [some (.ref 34), some (.int p0), some (.int p1), none, none, none, none, none, none, none, none, none, none, none]) (S2 := []) (σ2 := σ) 2 (fun n h => h) (fun hc1 => ?_) (fun hc1 => ?_)
  · rw [if_pos hc1] at h
    refine go_if (c := 0 ≤ p1) (k1 := 8) (L1 := [some (.ref 34), some (.int p0), some (.int p1), none, none, none, none, none, none, none, none, none, none, none]) (S1 := []) (σ1 := σ) (k2 := 6) (L2 := [some (.ref 34), some (.int p0), some (.int p1), none, none, none, none, none, none, none, none, none, none, none]) (S2 := []) (σ2 := σ) 2 (fun n h => h) (fun hc2 => ?_) (fun hc2 => ?_)
    · rw [if_pos hc2] at h
      refine go_q (Q := ¬ (128 : Int32) = 0) (k' := 11) (L' := [some (.ref 34), some (.int p0), some (.int p1), none, none, none, none, none, none, none, none, none, none, none]) (S' := [.int (p0 / (128 : Int32))]) (σ' := σ) 3 (by decide) (fun n h => h) ?_
      refine go_q (Q := ¬ (128 : Int32) = 0) (k' := 16) (L' := [some (.ref 34), some (.int p0), some (.int p1), some (.long (p0 / (128 : Int32)).toInt64), none, none, none, none, none, none, none, none, none, none]) (S' := [.int (irem p0 (128 : Int32))]) (σ' := σ) 5 (by decide) (fun n h => h) ?_
      refine go_q (Q := ¬ (128 : Int32) = 0) (k' := 21) (L' := [some (.ref 34), some (.int p0), some (.int p1), some (.long (p0 / (128 : Int32)).toInt64), none, some (.long (irem p0 (128 : Int32)).toInt64), none, none, none, none, none, none, none, none]) (S' := [.int (p1 / (128 : Int32))]) (σ' := σ) 5 (by decide) (fun n h => h) ?_
      refine go_q (Q := ¬ (128 : Int32) = 0) (k' := 26) (L' := [some (.ref 34), some (.int p0), some (.int p1), some (.long (p0 / (128 : Int32)).toInt64), none, some (.long (irem p0 (128 : Int32)).toInt64), none, some (.long (p1 / (128 : Int32)).toInt64), none, none, none, none, none, none]) (S' := [.int (irem p1 (128 : Int32))]) (σ' := σ) 5 (by decide) (fun n h => h) ?_
      refine go_iff (lcmp_ne (p0 / (128 : Int32)).toInt64 (p1 / (128 : Int32)).toInt64) (k1 := 69) (L1 := [some (.ref 34), some (.int p0), some (.int p1), some (.long (p0 / (128 : Int32)).toInt64), none, some (.long (irem p0 (128 : Int32)).toInt64), none, some (.long (p1 / (128 : Int32)).toInt64), none, some (.long (irem p1 (128 : Int32)).toInt64), none, none, none, none]) (S1 := []) (σ1 := σ) (k2 := 32) (L2 := [some (.ref 34), some (.int p0), some (.int p1), some (.long (p0 / (128 : Int32)).toInt64), none, some (.long (irem p0 (128 : Int32)).toInt64), none, some (.long (p1 / (128 : Int32)).toInt64), none, some (.long (irem p1 (128 : Int32)).toInt64), none, none, none, none]) (S2 := []) (σ2 := σ) 6 (fun n h => h) (fun hc3 => ?_) (fun hc3 => ?_)
      · rw [if_pos hc3] at h
        obtain ⟨x4, hx4, h⟩ := bind_of h
        refine go_call (r := some (.int x4)) (σc := σ) (σ1 := σ) (mi := 140) (vs := [.ref 34, .long ((p0 / (128 : Int32)).toInt64 - (p1 / (128 : Int32)).toInt64)]) (k' := 79) (L' := [some (.ref 34), some (.int p0), some (.int p1), some (.long (p0 / (128 : Int32)).toInt64), none, some (.long (irem p0 (128 : Int32)).toInt64), none, some (.long (p1 / (128 : Int32)).toInt64), none, some (.long (irem p1 (128 : Int32)).toInt64), none, none, none, none]) (S' := [.ref 36, .long ((irem p0 (128 : Int32)).toInt64 - (irem p1 (128 : Int32)).toInt64)]) 10 (fun P9 h9 => c_PrimeGroup_residue (d + 0) ((p0 / (128 : Int32)).toInt64 - (p1 / (128 : Int32)).toInt64) σ hx4 h9) (fun n h => h) ?_
        refine go_call (r := some (.int (f_pick σ 36 x4))) (σc := σ) (σ1 := σ) (mi := 9) (vs := [.ref 36, .int x4]) (k' := 80) (L' := [some (.ref 34), some (.int p0), some (.int p1), some (.long (p0 / (128 : Int32)).toInt64), none, some (.long (irem p0 (128 : Int32)).toInt64), none, some (.long (p1 / (128 : Int32)).toInt64), none, some (.long (irem p1 (128 : Int32)).toInt64), none, none, none, none]) (S' := [.long ((irem p0 (128 : Int32)).toInt64 - (irem p1 (128 : Int32)).toInt64)]) 1 (fun P9 h9 => c_pick (d + 1) σ 36 rfl x4 h9) (fun n h => h) ?_
        refine go_st (k' := 83) (L' := [some (.ref 34), some (.int p0), some (.int p1), some (.long (p0 / (128 : Int32)).toInt64), none, some (.long (irem p0 (128 : Int32)).toInt64), none, some (.long (p1 / (128 : Int32)).toInt64), none, some (.long (irem p1 (128 : Int32)).toInt64), none, some (.long (((irem p0 (128 : Int32)).toInt64 - (irem p1 (128 : Int32)).toInt64) * (f_pick σ 36 x4).toInt64)), none, none]) (S' := []) (σ' := σ) 3 (fun n h => h) ?_
        exact t_PrimeGroup_add_b83 d _ _ _ _ _ (p0 / (128 : Int32)).toInt64 (irem p0 (128 : Int32)).toInt64 (p1 / (128 : Int32)).toInt64 (((irem p0 (128 : Int32)).toInt64 - (irem p1 (128 : Int32)).toInt64) * (f_pick σ 36 x4).toInt64) σ h hp
      · rw [if_neg hc3] at h
        obtain ⟨x8, hx8, h⟩ := bind_of h
        refine go_call (r := some (.int x8)) (σc := σ) (σ1 := σ) (mi := 140) (vs := [.ref 34, .long ((irem p0 (128 : Int32)).toInt64 + (irem p1 (128 : Int32)).toInt64)]) (k' := 37) (L' := [some (.ref 34), some (.int p0), some (.int p1), some (.long (p0 / (128 : Int32)).toInt64), none, some (.long (irem p0 (128 : Int32)).toInt64), none, some (.long (p1 / (128 : Int32)).toInt64), none, some (.long (irem p1 (128 : Int32)).toInt64), none, none, none, none]) (S' := []) 5 (fun P9 h9 => c_PrimeGroup_residue (d + 0) ((irem p0 (128 : Int32)).toInt64 + (irem p1 (128 : Int32)).toInt64) σ hx8 h9) (fun n h => h) ?_
        refine go_if (c := x8 ≠ 0) (k1 := 40) (L1 := [some (.ref 34), some (.int p0), some (.int p1), some (.long (p0 / (128 : Int32)).toInt64), none, some (.long (irem p0 (128 : Int32)).toInt64), none, some (.long (p1 / (128 : Int32)).toInt64), none, some (.long (irem p1 (128 : Int32)).toInt64), none, none, none, none]) (S1 := []) (σ1 := σ) (k2 := 38) (L2 := [some (.ref 34), some (.int p0), some (.int p1), some (.long (p0 / (128 : Int32)).toInt64), none, some (.long (irem p0 (128 : Int32)).toInt64), none, some (.long (p1 / (128 : Int32)).toInt64), none, some (.long (irem p1 (128 : Int32)).toInt64), none, none, none, none]) (S2 := []) (σ2 := σ) 1 (fun n h => h) (fun hc9 => ?_) (fun hc9 => ?_)
        · rw [if_pos hc9] at h
          obtain ⟨x10, hx10, h⟩ := bind_of h
          refine go_call (r := some (.int x10)) (σc := σ) (σ1 := σ) (mi := 140) (vs := [.ref 34, .long ((2 : Int64) * (irem p0 (128 : Int32)).toInt64)]) (k' := 64) (L' := [some (.ref 34), some (.int p0), some (.int p1), some (.long (p0 / (128 : Int32)).toInt64), none, some (.long (irem p0 (128 : Int32)).toInt64), none, some (.long (p1 / (128 : Int32)).toInt64), none, some (.long (irem p1 (128 : Int32)).toInt64), none, none, none, none]) (S' := [.ref 36, .long (((((3 : Int64) * (p0 / (128 : Int32)).toInt64) * (p0 / (128 : Int32)).toInt64) + (((2 : Int32) * (σ.1 34 8)).toInt64 * (p0 / (128 : Int32)).toInt64)) + (σ.1 34 9).toInt64)]) 24 (fun P9 h9 => c_PrimeGroup_residue (d + 0) ((2 : Int64) * (irem p0 (128 : Int32)).toInt64) σ hx10 h9) (fun n h => h) ?_
          refine go_call (r := some (.int (f_pick σ 36 x10))) (σc := σ) (σ1 := σ) (mi := 9) (vs := [.ref 36, .int x10]) (k' := 65) (L' := [some (.ref 34), some (.int p0), some (.int p1), some (.long (p0 / (128 : Int32)).toInt64), none, some (.long (irem p0 (128 : Int32)).toInt64), none, some (.long (p1 / (128 : Int32)).toInt64), none, some (.long (irem p1 (128 : Int32)).toInt64), none, none, none, none]) (S' := [.long (((((3 : Int64) * (p0 / (128 : Int32)).toInt64) * (p0 / (128 : Int32)).toInt64) + (((2 : Int32) * (σ.1 34 8)).toInt64 * (p0 / (128 : Int32)).toInt64)) + (σ.1 34 9).toInt64)]) 1 (fun P9 h9 => c_pick (d + 1) σ 36 rfl x10 h9) (fun n h => h) ?_
          refine go_st (k' := 83) (L' := [some (.ref 34), some (.int p0), some (.int p1), some (.long (p0 / (128 : Int32)).toInt64), none, some (.long (irem p0 (128 : Int32)).toInt64), none, some (.long (p1 / (128 : Int32)).toInt64), none, some (.long (irem p1 (128 : Int32)).toInt64), none, some (.long ((((((3 : Int64) * (p0 / (128 : Int32)).toInt64) * (p0 / (128 : Int32)).toInt64) + (((2 : Int32) * (σ.1 34 8)).toInt64 * (p0 / (128 : Int32)).toInt64)) + (σ.1 34 9).toInt64) * (f_pick σ 36 x10).toInt64)), none, none]) (S' := []) (σ' := σ) 4 (fun n h => h) ?_
          exact t_PrimeGroup_add_b83 d _ _ _ _ _ (p0 / (128 : Int32)).toInt64 (irem p0 (128 : Int32)).toInt64 (p1 / (128 : Int32)).toInt64 ((((((3 : Int64) * (p0 / (128 : Int32)).toInt64) * (p0 / (128 : Int32)).toInt64) + (((2 : Int32) * (σ.1 34 8)).toInt64 * (p0 / (128 : Int32)).toInt64)) + (σ.1 34 9).toInt64) * (f_pick σ 36 x10).toInt64) σ h hp
        · rw [if_neg hc9] at h
          cases h
          exact go_ret 2 (fun _ => hp)
    · rw [if_neg hc2] at h
      cases h
      exact go_ret 2 (fun _ => hp)
  · rw [if_neg hc1] at h
    cases h
    exact go_ret 2 (fun _ => hp)
def f_PrimeGroup_orderOfCode_l6 (N : Nat) (σ : aSt) : Nat → Int32 → Int32 → Int32 → Int32 → Option Int32
  | 0, _, _, _, _ => none
  | n + 1, v1, v2, v3, v4 => (if (200 : Int32) ≤ v4 then some v3 else (if v2 < 0 then some v3 else ((f_PrimeGroup_add N v2 v1 σ).bind fun x3 => f_PrimeGroup_orderOfCode_l6 N σ n v1 x3 (v3 + (1 : Int32)) (v4 + (1 : Int32)))))
set_option maxRecDepth 20000 in
set_option maxHeartbeats 4000000 in
theorem t_PrimeGroup_orderOfCode_l6 (d : Nat) {N : Nat} (σ : aSt) {x : Int32} {P : Option Value → aSt → Prop} (hp : P (some (.int x)) σ) : ∀ (n : Nat) (v1 : Int32) (v2 : Int32) (v3 : Int32) (v4 : Int32), f_PrimeGroup_orderOfCode_l6 N σ n v1 v2 v3 v4 = some x → aGo (aCall MT (d + 3)) P mc_PrimeGroup_orderOfCode 6 [some (.ref 34), some (.int v1), some (.int v2), some (.int v3), some (.int v4)] [] σ := by
  intro n
  induction n with
  | zero => intro v1 v2 v3 v4 h; cases h
  | succ n ih =>
    intro v1 v2 v3 v4 h
    rw [f_PrimeGroup_orderOfCode_l6] at h
    refine go_if (c := (200 : Int32) ≤ v4) (k1 := 19) (L1 := [some (.ref 34), some (.int v1), some (.int v2), some (.int v3), some (.int v4)]) (S1 := []) (σ1 := σ) (k2 := 9) (L2 := [some (.ref 34), some (.int v1), some (.int v2), some (.int v3), some (.int v4)]) (S2 := []) (σ2 := σ) 3 (fun n h => h) (fun hc1 => ?_) (fun hc1 => ?_)
    · rw [if_pos hc1] at h
      cases h
      exact go_ret 2 (fun _ => hp)
    · rw [if_neg hc1] at h
      refine go_if (c := v2 < 0) (k1 := 19) (L1 := [some (.ref 34), some (.int v1), some (.int v2), some (.int v3), some (.int v4)]) (S1 := []) (σ1 := σ) (k2 := 11) (L2 := [some (.ref 34), some (.int v1), some (.int v2), some (.int v3), some (.int v4)]) (S2 := []) (σ2 := σ) 2 (fun n h => h) (fun hc2 => ?_) (fun hc2 => ?_)
      · rw [if_pos hc2] at h
        cases h
        exact go_ret 2 (fun _ => hp)
      · rw [if_neg hc2] at h
        obtain ⟨x3, hx3, h⟩ := bind_of h
        refine go_call (r := some (.int x3)) (σc := σ) (σ1 := σ) (mi := 152) (vs := [.ref 34, .int v2, .int v1]) (k' := 15) (L' := [some (.ref 34), some (.int v1), some (.int v2), some (.int v3), some (.int v4)]) (S' := []) 4 (fun P9 h9 => c_PrimeGroup_add (d + 0) v2 v1 σ hx3 h9) (fun n h => h) ?_
        refine go_st (k' := 6) (L' := [some (.ref 34), some (.int v1), some (.int x3), some (.int (v3 + (1 : Int32))), some (.int (v4 + (1 : Int32)))]) (S' := []) (σ' := σ) 4 (fun n h => h) ?_
        exact ih v1 x3 (v3 + (1 : Int32)) (v4 + (1 : Int32)) h
def f_PrimeGroup_orderOfCode (N : Nat) (p0 : Int32) (σ : aSt) : Option Int32 :=
  f_PrimeGroup_orderOfCode_l6 N σ N p0 p0 (1 : Int32) (0 : Int32)
set_option maxRecDepth 20000 in
set_option maxHeartbeats 4000000 in
theorem c_PrimeGroup_orderOfCode (d : Nat) {N : Nat} (p0 : Int32) (σ : aSt) {P : Option Value → aSt → Prop} {x : Int32} (h : f_PrimeGroup_orderOfCode N p0 σ = some x) (hp : P (some (.int x)) σ) : aCall MT (d + 4) 153 [.ref 34, .int p0] σ P := by
  unfold f_PrimeGroup_orderOfCode at h
  refine call_of (code := mc_PrimeGroup_orderOfCode) (L := [some (.ref 34), some (.int p0), none, none, none]) rfl rfl rfl rfl ?_
  refine go_st (k' := 6) (L' := [some (.ref 34), some (.int p0), some (.int p0), some (.int (1 : Int32)), some (.int (0 : Int32))]) (S' := []) (σ' := σ) 6 (fun n h => h) ?_
  exact t_PrimeGroup_orderOfCode_l6 d σ hp N p0 p0 (1 : Int32) (0 : Int32) h
def f_X_orderBy (N : Nat) (p0 : Int32) (p1 : Int32) (σ : aSt) : Option (Int32 × aSt) :=
  (if (f_X_isPoint p0 σ) = true then ((f_X_isByPrime N p1 σ).bind fun x2 => (if x2 = true then ((f_PrimeGroup_take N p1 σ).bind fun x4 => ((f_X_codeBy N p0 x4).bind fun x5 => ((f_PrimeGroup_orderOfCode N x5 x4).bind fun x6 => some (x6, x4)))) else some ((-2 : Int32), σ))) else some ((-2 : Int32), σ))
set_option maxRecDepth 20000 in
set_option maxHeartbeats 4000000 in
theorem c_X_orderBy (d : Nat) {N : Nat} (p0 : Int32) (p1 : Int32) (σ : aSt) {P : Option Value → aSt → Prop} {x : (Int32 × aSt)} (h : f_X_orderBy N p0 p1 σ = some x) (hp : P (some (.int x.1)) x.2) : aCall MT (d + 5) 154 [.ref 0, .int p0, .int p1] σ P := by
  unfold f_X_orderBy at h
  refine call_of (code := mc_X_orderBy) (L := [some (.ref 0), some (.int p0), some (.int p1)]) rfl rfl rfl rfl ?_
  refine go_call (r := some (.int (b2i (f_X_isPoint p0 σ)))) (σc := σ) (σ1 := σ) (mi := 85) (vs := [.ref 0, .int p0]) (k' := 3) (L' := [some (.ref 0), some (.int p0), some (.int p1)]) (S' := []) 3 (fun P9 h9 => c_X_isPoint (d + 1) p0 σ h9) (fun n h => h) ?_
  refine go_ifz (b := (f_X_isPoint p0 σ)) (k1 := 8) (L1 := [some (.ref 0), some (.int p0), some (.int p1)]) (S1 := []) (σ1 := σ) (k2 := 4) (L2 := [some (.ref 0), some (.int p0), some (.int p1)]) (S2 := []) (σ2 := σ) 1 (fun n h => h) (fun hc1 => ?_) (fun hc1 => ?_)
  · rw [if_neg hc1] at h
    cases h
    exact go_ret 2 (fun _ => hp)
  · rw [if_pos hc1] at h
    obtain ⟨x2, hx2, h⟩ := bind_of h
    refine go_call (r := some (.int (b2i x2))) (σc := σ) (σ1 := σ) (mi := 139) (vs := [.ref 0, .int p1]) (k' := 7) (L' := [some (.ref 0), some (.int p0), some (.int p1)]) (S' := []) 3 (fun P9 h9 => c_X_isByPrime (d + 1) p1 σ hx2 h9) (fun n h => h) ?_
    refine go_ifn (b := x2) (k1 := 10) (L1 := [some (.ref 0), some (.int p0), some (.int p1)]) (S1 := []) (σ1 := σ) (k2 := 8) (L2 := [some (.ref 0), some (.int p0), some (.int p1)]) (S2 := []) (σ2 := σ) 1 (fun n h => h) (fun hc3 => ?_) (fun hc3 => ?_)
    · rw [if_pos hc3] at h
      obtain ⟨x4, hx4, h⟩ := bind_of h
      refine go_call (r := none) (σc := σ) (σ1 := x4) (mi := 141) (vs := [.ref 34, .int p1]) (k' := 14) (L' := [some (.ref 0), some (.int p0), some (.int p1)]) (S' := []) 4 (fun P9 h9 => c_PrimeGroup_take (d + 1) p1 σ hx4 h9) (fun n h => h) ?_
      obtain ⟨x5, hx5, h⟩ := bind_of h
      refine go_call (r := some (.int x5)) (σc := x4) (σ1 := x4) (mi := 151) (vs := [.ref 0, .int p0]) (k' := 19) (L' := [some (.ref 0), some (.int p0), some (.int p1)]) (S' := [.ref 34]) 5 (fun P9 h9 => c_X_codeBy (d + 0) p0 x4 hx5 h9) (fun n h => h) ?_
      obtain ⟨x6, hx6, h⟩ := bind_of h
      refine go_call (r := some (.int x6)) (σc := x4) (σ1 := x4) (mi := 153) (vs := [.ref 34, .int x5]) (k' := 20) (L' := [some (.ref 0), some (.int p0), some (.int p1)]) (S' := []) 1 (fun P9 h9 => c_PrimeGroup_orderOfCode (d + 0) x5 x4 hx6 h9) (fun n h => h) ?_
      cases h
      exact go_ret 1 (fun _ => hp)
    · rw [if_neg hc3] at h
      cases h
      exact go_ret 2 (fun _ => hp)
def f_X_bound_l14 (N : Nat) : Nat → Int64 → Int32 → Int32 → aSt → Option (Int32 × aSt)
  | 0, _, _, _, _ => none
  | n + 1, v1, v4, v5, σ => (if v4 ≤ v5 then some (v1.toInt32, σ) else (if 0 ≤ v5 ∧ v5 < (25 : Int32) then ((f_X_isByPrime N (σ.1 87 v5.toNatClampNeg) σ).bind fun x4 => (if x4 = true then ((f_PrimeGroup_manyBy N (σ.1 87 v5.toNatClampNeg) σ).bind fun x6 => ((f_Whole_gcd N v1 x6.1.toInt64).bind fun x7 => f_X_bound_l14 N n x7 v4 (v5 + (1 : Int32)) x6.2)) else f_X_bound_l14 N n v1 v4 (v5 + (1 : Int32)) σ)) else none))
set_option maxRecDepth 20000 in
set_option maxHeartbeats 4000000 in
theorem t_X_bound_l14 (d : Nat) {N : Nat} {x : (Int32 × aSt)} {P : Option Value → aSt → Prop} (hp : P (some (.int x.1)) x.2) : ∀ (n : Nat) (d6 : Option Value) (v1 : Int64) (v4 : Int32) (v5 : Int32) (σ : aSt), f_X_bound_l14 N n v1 v4 v5 σ = some x → aGo (aCall MT (d + 4)) P mc_X_bound 14 [some (.ref 0), some (.long v1), none, some (.ref 87), some (.int v4), some (.int v5), d6] [] σ := by
  intro n
  induction n with
  | zero => intro d6 v1 v4 v5 σ h; cases h
  | succ n ih =>
    intro d6 v1 v4 v5 σ h
    rw [f_X_bound_l14] at h
    refine go_if (c := v4 ≤ v5) (k1 := 35) (L1 := [some (.ref 0), some (.long v1), none, some (.ref 87), some (.int v4), some (.int v5), d6]) (S1 := []) (σ1 := σ) (k2 := 17) (L2 := [some (.ref 0), some (.long v1), none, some (.ref 87), some (.int v4), some (.int v5), d6]) (S2 := []) (σ2 := σ) 3 (fun n h => h) (fun hc2 => ?_) (fun hc2 => ?_)
    · rw [if_pos hc2] at h
      cases h
      exact go_ret 3 (fun _ => hp)
    · rw [if_neg hc2] at h
      obtain ⟨hc3, h⟩ := ite_of h
      refine go_q (Q := inb 0 σ 87 v5) (k' := 20) (L' := [some (.ref 0), some (.long v1), none, some (.ref 87), some (.int v4), some (.int v5), d6]) (S' := [.int (σ.1 87 v5.toNatClampNeg)]) (σ' := σ) 3 (inb_mk rfl hc3.1 hc3.2) (fun n h => h) ?_
      obtain ⟨x4, hx4, h⟩ := bind_of h
      refine go_call (r := some (.int (b2i x4))) (σc := σ) (σ1 := σ) (mi := 139) (vs := [.ref 0, .int (σ.1 87 v5.toNatClampNeg)]) (k' := 24) (L' := [some (.ref 0), some (.long v1), none, some (.ref 87), some (.int v4), some (.int v5), some (.int (σ.1 87 v5.toNatClampNeg))]) (S' := []) 4 (fun P9 h9 => c_X_isByPrime (d + 1) (σ.1 87 v5.toNatClampNeg) σ hx4 h9) (fun n h => h) ?_
      refine go_ifz (b := x4) (k1 := 33) (L1 := [some (.ref 0), some (.long v1), none, some (.ref 87), some (.int v4), some (.int v5), some (.int (σ.1 87 v5.toNatClampNeg))]) (S1 := []) (σ1 := σ) (k2 := 25) (L2 := [some (.ref 0), some (.long v1), none, some (.ref 87), some (.int v4), some (.int v5), some (.int (σ.1 87 v5.toNatClampNeg))]) (S2 := []) (σ2 := σ) 1 (fun n h => h) (fun hc5 => ?_) (fun hc5 => ?_)
      · rw [if_neg hc5] at h
        refine go_st (k' := 14) (L' := [some (.ref 0), some (.long v1), none, some (.ref 87), some (.int v4), some (.int (v5 + (1 : Int32))), some (.int (σ.1 87 v5.toNatClampNeg))]) (S' := []) (σ' := σ) 2 (fun n h => h) ?_
        exact ih _ v1 v4 (v5 + (1 : Int32)) σ h
      · rw [if_pos hc5] at h
        obtain ⟨x6, hx6, h⟩ := bind_of h
        refine go_call (r := some (.int x6.1)) (σc := σ) (σ1 := x6.2) (mi := 143) (vs := [.ref 34, .int (σ.1 87 v5.toNatClampNeg)]) (k' := 30) (L' := [some (.ref 0), some (.long v1), none, some (.ref 87), some (.int v4), some (.int v5), some (.int (σ.1 87 v5.toNatClampNeg))]) (S' := [.long v1]) 5 (fun P9 h9 => c_PrimeGroup_manyBy (d + 0) (σ.1 87 v5.toNatClampNeg) σ hx6 h9) (fun n h => h) ?_
        obtain ⟨x7, hx7, h⟩ := bind_of h
        refine go_call (r := some (.long x7)) (σc := x6.2) (σ1 := x6.2) (mi := 38) (vs := [.long v1, .long x6.1.toInt64]) (k' := 32) (L' := [some (.ref 0), some (.long v1), none, some (.ref 87), some (.int v4), some (.int v5), some (.int (σ.1 87 v5.toNatClampNeg))]) (S' := []) 2 (fun P9 h9 => c_Whole_gcd (d + 3) v1 x6.1.toInt64 x6.2 hx7 h9) (fun n h => h) ?_
        refine go_st (k' := 14) (L' := [some (.ref 0), some (.long x7), none, some (.ref 87), some (.int v4), some (.int (v5 + (1 : Int32))), some (.int (σ.1 87 v5.toNatClampNeg))]) (S' := []) (σ' := x6.2) 3 (fun n h => h) ?_
        exact ih _ x7 v4 (v5 + (1 : Int32)) x6.2 h
def f_X_bound (N : Nat) (σ : aSt) : Option (Int32 × aSt) :=
  (if (σ.2.2 0 13) = true then f_X_bound_l14 N N (0 : Int64) (25 : Int32) (0 : Int32) σ else some ((-2 : Int32), σ))
set_option maxRecDepth 20000 in
set_option maxHeartbeats 4000000 in
theorem c_X_bound (d : Nat) {N : Nat} (σ : aSt) {P : Option Value → aSt → Prop} {x : (Int32 × aSt)} (h : f_X_bound N σ = some x) (hp : P (some (.int x.1)) x.2) : aCall MT (d + 5) 160 [.ref 0] σ P := by
  unfold f_X_bound at h
  refine call_of (code := mc_X_bound) (L := [some (.ref 0), none, none, none, none, none, none]) rfl rfl rfl rfl ?_
  refine go_ifn (b := (σ.2.2 0 13)) (k1 := 5) (L1 := [some (.ref 0), none, none, none, none, none, none]) (S1 := []) (σ1 := σ) (k2 := 3) (L2 := [some (.ref 0), none, none, none, none, none, none]) (S2 := []) (σ2 := σ) 3 (fun n h => h) (fun hc1 => ?_) (fun hc1 => ?_)
  · rw [if_pos hc1] at h
    refine go_st (k' := 14) (L' := [some (.ref 0), some (.long (0 : Int64)), none, some (.ref 87), some (.int (25 : Int32)), some (.int (0 : Int32)), none]) (S' := []) (σ' := σ) 9 (fun n h => h) ?_
    exact t_X_bound_l14 d hp N _ (0 : Int64) (25 : Int32) (0 : Int32) σ h
  · rw [if_neg hc1] at h
    cases h
    exact go_ret 2 (fun _ => hp)
def f_X_trace (N : Nat) (p0 : Int32) (σ : aSt) : Option (Int64 × aSt) :=
  ((f_X_isByPrime N p0 σ).bind fun x1 => (if x1 = true then ((f_PrimeGroup_manyBy N p0 σ).bind fun x3 => some (((p0 + (1 : Int32)) - x3.1).toInt64, x3.2)) else some ((-9223372036854775808 : Int64), σ)))
set_option maxRecDepth 20000 in
set_option maxHeartbeats 4000000 in
theorem c_X_trace (d : Nat) {N : Nat} (p0 : Int32) (σ : aSt) {P : Option Value → aSt → Prop} {x : (Int64 × aSt)} (h : f_X_trace N p0 σ = some x) (hp : P (some (.long x.1)) x.2) : aCall MT (d + 5) 162 [.ref 0, .int p0] σ P := by
  unfold f_X_trace at h
  refine call_of (code := mc_X_trace) (L := [some (.ref 0), some (.int p0)]) rfl rfl rfl rfl ?_
  obtain ⟨x1, hx1, h⟩ := bind_of h
  refine go_call (r := some (.int (b2i x1))) (σc := σ) (σ1 := σ) (mi := 139) (vs := [.ref 0, .int p0]) (k' := 3) (L' := [some (.ref 0), some (.int p0)]) (S' := []) 3 (fun P9 h9 => c_X_isByPrime (d + 1) p0 σ hx1 h9) (fun n h => h) ?_
  refine go_ifz (b := x1) (k1 := 14) (L1 := [some (.ref 0), some (.int p0)]) (S1 := []) (σ1 := σ) (k2 := 4) (L2 := [some (.ref 0), some (.int p0)]) (S2 := []) (σ2 := σ) 1 (fun n h => h) (fun hc2 => ?_) (fun hc2 => ?_)
  · rw [if_neg hc2] at h
    cases h
    exact go_ret 2 (fun _ => hp)
  · rw [if_pos hc2] at h
    obtain ⟨x3, hx3, h⟩ := bind_of h
    refine go_call (r := some (.int x3.1)) (σc := σ) (σ1 := x3.2) (mi := 143) (vs := [.ref 34, .int p0]) (k' := 11) (L' := [some (.ref 0), some (.int p0)]) (S' := [.int (p0 + (1 : Int32))]) 7 (fun P9 h9 => c_PrimeGroup_manyBy (d + 0) p0 σ hx3 h9) (fun n h => h) ?_
    cases h
    exact go_ret 4 (fun _ => hp)
def f_ClassTable_sortDivisors_49_l18 (N : Nat) (k50 : Int32 → Int32 → Int32 → Int32 → aSt → Option aSt) : Nat → Int32 → Int32 → Int32 → Int32 → aSt → Option aSt
  | 0, _, _, _, _, _ => none
  | n + 1, v1, v2, v3, v4, σ => (if v4 ≤ 0 then k50 v1 v2 v3 v4 σ else (if (f_pick σ 50 (v4 - (1 : Int32))) ≤ v2 then k50 v1 v2 v3 v4 σ else (lt (f_store σ 50 v4 (f_pick σ 50 (v4 - (1 : Int32)))) fun x4 => (lt (f_store x4 51 v4 (f_pick x4 51 (v4 - (1 : Int32)))) fun x5 => f_ClassTable_sortDivisors_49_l18 N k50 n v1 v2 v3 (v4 + (-1 : Int32)) x5))))
set_option maxRecDepth 20000 in
set_option maxHeartbeats 4000000 in
theorem t_ClassTable_sortDivisors_49_l18 (d : Nat) {N : Nat} (k50 : Int32 → Int32 → Int32 → Int32 → aSt → Option aSt) {x : aSt} {P : Option Value → aSt → Prop} (hp : P none x) (hk50 : ∀ (v1 : Int32) (v2 : Int32) (v3 : Int32) (v4 : Int32) (σ : aSt), k50 v1 v2 v3 v4 σ = some x → aGo (aCall MT (d + 1)) P mc_ClassTable_sortDivisors 50 [some (.ref 49), some (.int v1), some (.int v2), some (.int v3), some (.int v4)] [] σ) : ∀ (n : Nat) (v1 : Int32) (v2 : Int32) (v3 : Int32) (v4 : Int32) (σ : aSt), f_ClassTable_sortDivisors_49_l18 N k50 n v1 v2 v3 v4 σ = some x → aGo (aCall MT (d + 1)) P mc_ClassTable_sortDivisors 18 [some (.ref 49), some (.int v1), some (.int v2), some (.int v3), some (.int v4)] [] σ := by
  intro n
  induction n with
  | zero => intro v1 v2 v3 v4 σ h; cases h
  | succ n ih =>
    intro v1 v2 v3 v4 σ h
    rw [f_ClassTable_sortDivisors_49_l18] at h
    refine go_if (c := v4 ≤ 0) (k1 := 50) (L1 := [some (.ref 49), some (.int v1), some (.int v2), some (.int v3), some (.int v4)]) (S1 := []) (σ1 := σ) (k2 := 20) (L2 := [some (.ref 49), some (.int v1), some (.int v2), some (.int v3), some (.int v4)]) (S2 := []) (σ2 := σ) 2 (fun n h => h) (fun hc2 => ?_) (fun hc2 => ?_)
    · rw [if_pos hc2] at h
      exact hk50 v1 v2 v3 v4 σ h
    · rw [if_neg hc2] at h
      refine go_call (r := some (.int (f_pick σ 50 (v4 - (1 : Int32))))) (σc := σ) (σ1 := σ) (mi := 9) (vs := [.ref 50, .int (v4 - (1 : Int32))]) (k' := 26) (L' := [some (.ref 49), some (.int v1), some (.int v2), some (.int v3), some (.int v4)]) (S' := []) 6 (fun P9 h9 => c_pick (d + 0) σ 50 rfl (v4 - (1 : Int32)) h9) (fun n h => h) ?_
      refine go_if (c := (f_pick σ 50 (v4 - (1 : Int32))) ≤ v2) (k1 := 50) (L1 := [some (.ref 49), some (.int v1), some (.int v2), some (.int v3), some (.int v4)]) (S1 := []) (σ1 := σ) (k2 := 28) (L2 := [some (.ref 49), some (.int v1), some (.int v2), some (.int v3), some (.int v4)]) (S2 := []) (σ2 := σ) 2 (fun n h => h) (fun hc3 => ?_) (fun hc3 => ?_)
      · rw [if_pos hc3] at h
        exact hk50 v1 v2 v3 v4 σ h
      · rw [if_neg hc3] at h
        refine go_call (r := some (.int (f_pick σ 50 (v4 - (1 : Int32))))) (σc := σ) (σ1 := σ) (mi := 9) (vs := [.ref 50, .int (v4 - (1 : Int32))]) (k' := 37) (L' := [some (.ref 49), some (.int v1), some (.int v2), some (.int v3), some (.int v4)]) (S' := [.int v4, .ref 50]) 9 (fun P9 h9 => c_pick (d + 0) σ 50 rfl (v4 - (1 : Int32)) h9) (fun n h => h) ?_
        obtain ⟨x4, hx4, h⟩ := lt_of h
        refine go_call (r := none) (σc := σ) (σ1 := x4) (mi := 1) (vs := [.ref 50, .int v4, .int (f_pick σ 50 (v4 - (1 : Int32)))]) (k' := 38) (L' := [some (.ref 49), some (.int v1), some (.int v2), some (.int v3), some (.int v4)]) (S' := []) 1 (fun P9 h9 => c_store (d + 0) σ 50 rfl rfl v4 (f_pick σ 50 (v4 - (1 : Int32))) (by rw [← hx4]; exact h9)) (fun n h => h) ?_
        refine go_call (r := some (.int (f_pick x4 51 (v4 - (1 : Int32))))) (σc := x4) (σ1 := x4) (mi := 9) (vs := [.ref 51, .int (v4 - (1 : Int32))]) (k' := 47) (L' := [some (.ref 49), some (.int v1), some (.int v2), some (.int v3), some (.int v4)]) (S' := [.int v4, .ref 51]) 9 (fun P9 h9 => c_pick (d + 0) x4 51 rfl (v4 - (1 : Int32)) h9) (fun n h => h) ?_
        obtain ⟨x5, hx5, h⟩ := lt_of h
        refine go_call (r := none) (σc := x4) (σ1 := x5) (mi := 1) (vs := [.ref 51, .int v4, .int (f_pick x4 51 (v4 - (1 : Int32)))]) (k' := 48) (L' := [some (.ref 49), some (.int v1), some (.int v2), some (.int v3), some (.int v4)]) (S' := []) 1 (fun P9 h9 => c_store (d + 0) x4 51 rfl rfl v4 (f_pick x4 51 (v4 - (1 : Int32))) (by rw [← hx5]; exact h9)) (fun n h => h) ?_
        refine go_st (k' := 18) (L' := [some (.ref 49), some (.int v1), some (.int v2), some (.int v3), some (.int (v4 + (-1 : Int32)))]) (S' := []) (σ' := x5) 2 (fun n h => h) ?_
        exact ih v1 v2 v3 (v4 + (-1 : Int32)) x5 h
def f_ClassTable_sortDivisors_49_l2 (N : Nat) : Nat → Int32 → aSt → Option aSt
  | 0, _, _ => none
  | n + 1, v1, σ => (if (σ.1 49 7) ≤ v1 then some σ else f_ClassTable_sortDivisors_49_l18 N (fun (y6 : Int32) (y7 : Int32) (y8 : Int32) (y9 : Int32) σ10 => (lt (f_store σ10 50 y9 y7) fun x11 => (lt (f_store x11 51 y9 y8) fun x12 => f_ClassTable_sortDivisors_49_l2 N n (y6 + (1 : Int32)) x12))) N v1 (f_pick σ 50 v1) (f_pick σ 51 v1) v1 σ)
set_option maxRecDepth 20000 in
set_option maxHeartbeats 4000000 in
theorem t_ClassTable_sortDivisors_49_l2 (d : Nat) {N : Nat} {x : aSt} {P : Option Value → aSt → Prop} (hp : P none x) : ∀ (n : Nat) (d2 d3 d4 : Option Value) (v1 : Int32) (σ : aSt), f_ClassTable_sortDivisors_49_l2 N n v1 σ = some x → aGo (aCall MT (d + 1)) P mc_ClassTable_sortDivisors 2 [some (.ref 49), some (.int v1), d2, d3, d4] [] σ := by
  intro n
  induction n with
  | zero => intro d2 d3 d4 v1 σ h; cases h
  | succ n ih =>
    intro d2 d3 d4 v1 σ h
    rw [f_ClassTable_sortDivisors_49_l2] at h
    refine go_if (c := (σ.1 49 7) ≤ v1) (k1 := 62) (L1 := [some (.ref 49), some (.int v1), d2, d3, d4]) (S1 := []) (σ1 := σ) (k2 := 6) (L2 := [some (.ref 49), some (.int v1), d2, d3, d4]) (S2 := []) (σ2 := σ) 4 (fun n h => h) (fun hc1 => ?_) (fun hc1 => ?_)
    · rw [if_pos hc1] at h
      cases h
      exact go_ret 1 (fun _ => hp)
    · rw [if_neg hc1] at h
      refine go_call (r := some (.int (f_pick σ 50 v1))) (σc := σ) (σ1 := σ) (mi := 9) (vs := [.ref 50, .int v1]) (k' := 10) (L' := [some (.ref 49), some (.int v1), d2, d3, d4]) (S' := []) 4 (fun P9 h9 => c_pick (d + 0) σ 50 rfl v1 h9) (fun n h => h) ?_
      refine go_call (r := some (.int (f_pick σ 51 v1))) (σc := σ) (σ1 := σ) (mi := 9) (vs := [.ref 51, .int v1]) (k' := 15) (L' := [some (.ref 49), some (.int v1), some (.int (f_pick σ 50 v1)), d3, d4]) (S' := []) 5 (fun P9 h9 => c_pick (d + 0) σ 51 rfl v1 h9) (fun n h => h) ?_
      refine go_st (k' := 18) (L' := [some (.ref 49), some (.int v1), some (.int (f_pick σ 50 v1)), some (.int (f_pick σ 51 v1)), some (.int v1)]) (S' := []) (σ' := σ) 3 (fun n h => h) ?_
      refine t_ClassTable_sortDivisors_49_l18 d _ hp (fun y6 y7 y8 y9 σ10 h => ?_) N v1 (f_pick σ 50 v1) (f_pick σ 51 v1) v1 σ h
      · obtain ⟨x11, hx11, h⟩ := lt_of h
        refine go_call (r := none) (σc := σ10) (σ1 := x11) (mi := 1) (vs := [.ref 50, .int y9, .int y7]) (k' := 55) (L' := [some (.ref 49), some (.int y6), some (.int y7), some (.int y8), some (.int y9)]) (S' := []) 5 (fun P9 h9 => c_store (d + 0) σ10 50 rfl rfl y9 y7 (by rw [← hx11]; exact h9)) (fun n h => h) ?_
        obtain ⟨x12, hx12, h⟩ := lt_of h
        refine go_call (r := none) (σc := x11) (σ1 := x12) (mi := 1) (vs := [.ref 51, .int y9, .int y8]) (k' := 60) (L' := [some (.ref 49), some (.int y6), some (.int y7), some (.int y8), some (.int y9)]) (S' := []) 5 (fun P9 h9 => c_store (d + 0) x11 51 rfl rfl y9 y8 (by rw [← hx12]; exact h9)) (fun n h => h) ?_
        refine go_st (k' := 2) (L' := [some (.ref 49), some (.int (y6 + (1 : Int32))), some (.int y7), some (.int y8), some (.int y9)]) (S' := []) (σ' := x12) 2 (fun n h => h) ?_
        exact ih _ _ _ (y6 + (1 : Int32)) x12 h
def f_ClassTable_sortDivisors_49 (N : Nat) (σ : aSt) : Option aSt :=
  f_ClassTable_sortDivisors_49_l2 N N (1 : Int32) σ
set_option maxRecDepth 20000 in
set_option maxHeartbeats 4000000 in
theorem c_ClassTable_sortDivisors_49 (d : Nat) {N : Nat} (σ : aSt) {P : Option Value → aSt → Prop} {x : aSt} (h : f_ClassTable_sortDivisors_49 N σ = some x) (hp : P none x) : aCall MT (d + 2) 164 [.ref 49] σ P := by
  unfold f_ClassTable_sortDivisors_49 at h
  refine call_of (code := mc_ClassTable_sortDivisors) (L := [some (.ref 49), none, none, none, none]) rfl rfl rfl rfl ?_
  refine go_st (k' := 2) (L' := [some (.ref 49), some (.int (1 : Int32)), none, none, none]) (S' := []) (σ' := σ) 2 (fun n h => h) ?_
  exact t_ClassTable_sortDivisors_49_l2 d hp N _ _ _ (1 : Int32) σ h
def f_ClassTable_addPrime_49_l11 (N : Nat) : Nat → Int32 → Int32 → Int32 → Int32 → aSt → Option aSt
  | 0, _, _, _, _, _ => none
  | n + 1, v1, v2, v3, v4, σ => (if v3 ≤ v4 then ((f_ClassTable_sortDivisors_49 N (s_i σ 49 7 ((2 : Int32) * v3))).bind fun x3 => some x3) else (lt (f_store σ 50 (v3 + v4) ((f_pick σ 50 v4) * v1)) fun x4 => (lt (f_store x4 51 (v3 + v4) ((f_pick x4 51 v4) + v2)) fun x5 => f_ClassTable_addPrime_49_l11 N n v1 v2 v3 (v4 + (1 : Int32)) x5)))
set_option maxRecDepth 20000 in
set_option maxHeartbeats 4000000 in
theorem t_ClassTable_addPrime_49_l11 (d : Nat) {N : Nat} {x : aSt} {P : Option Value → aSt → Prop} (hp : P none x) : ∀ (n : Nat) (v1 : Int32) (v2 : Int32) (v3 : Int32) (v4 : Int32) (σ : aSt), f_ClassTable_addPrime_49_l11 N n v1 v2 v3 v4 σ = some x → aGo (aCall MT (d + 2)) P mc_ClassTable_addPrime 11 [some (.ref 49), some (.int v1), some (.int v2), some (.int v3), some (.int v4)] [] σ := by
  intro n
  induction n with
  | zero => intro v1 v2 v3 v4 σ h; cases h
  | succ n ih =>
    intro v1 v2 v3 v4 σ h
    rw [f_ClassTable_addPrime_49_l11] at h
    refine go_if (c := v3 ≤ v4) (k1 := 40) (L1 := [some (.ref 49), some (.int v1), some (.int v2), some (.int v3), some (.int v4)]) (S1 := []) (σ1 := σ) (k2 := 14) (L2 := [some (.ref 49), some (.int v1), some (.int v2), some (.int v3), some (.int v4)]) (S2 := []) (σ2 := σ) 3 (fun n h => h) (fun hc2 => ?_) (fun hc2 => ?_)
    · rw [if_pos hc2] at h
      obtain ⟨x3, hx3, h⟩ := bind_of h
      refine go_call (r := none) (σc := (s_i σ 49 7 ((2 : Int32) * v3))) (σ1 := x3) (mi := 164) (vs := [.ref 49]) (k' := 47) (L' := [some (.ref 49), some (.int v1), some (.int v2), some (.int v3), some (.int v4)]) (S' := []) 7 (fun P9 h9 => c_ClassTable_sortDivisors_49 (d + 0) (s_i σ 49 7 ((2 : Int32) * v3)) hx3 h9) (fun n h => h) ?_
      cases h
      exact go_ret 1 (fun _ => hp)
    · rw [if_neg hc2] at h
      refine go_call (r := some (.int (f_pick σ 50 v4))) (σc := σ) (σ1 := σ) (mi := 9) (vs := [.ref 50, .int v4]) (k' := 23) (L' := [some (.ref 49), some (.int v1), some (.int v2), some (.int v3), some (.int v4)]) (S' := [.int (v3 + v4), .ref 50]) 9 (fun P9 h9 => c_pick (d + 1) σ 50 rfl v4 h9) (fun n h => h) ?_
      obtain ⟨x4, hx4, h⟩ := lt_of h
      refine go_call (r := none) (σc := σ) (σ1 := x4) (mi := 1) (vs := [.ref 50, .int (v3 + v4), .int ((f_pick σ 50 v4) * v1)]) (k' := 26) (L' := [some (.ref 49), some (.int v1), some (.int v2), some (.int v3), some (.int v4)]) (S' := []) 3 (fun P9 h9 => c_store (d + 1) σ 50 rfl rfl (v3 + v4) ((f_pick σ 50 v4) * v1) (by rw [← hx4]; exact h9)) (fun n h => h) ?_
      refine go_call (r := some (.int (f_pick x4 51 v4))) (σc := x4) (σ1 := x4) (mi := 9) (vs := [.ref 51, .int v4]) (k' := 35) (L' := [some (.ref 49), some (.int v1), some (.int v2), some (.int v3), some (.int v4)]) (S' := [.int (v3 + v4), .ref 51]) 9 (fun P9 h9 => c_pick (d + 1) x4 51 rfl v4 h9) (fun n h => h) ?_
      obtain ⟨x5, hx5, h⟩ := lt_of h
      refine go_call (r := none) (σc := x4) (σ1 := x5) (mi := 1) (vs := [.ref 51, .int (v3 + v4), .int ((f_pick x4 51 v4) + v2)]) (k' := 38) (L' := [some (.ref 49), some (.int v1), some (.int v2), some (.int v3), some (.int v4)]) (S' := []) 3 (fun P9 h9 => c_store (d + 1) x4 51 rfl rfl (v3 + v4) ((f_pick x4 51 v4) + v2) (by rw [← hx5]; exact h9)) (fun n h => h) ?_
      refine go_st (k' := 11) (L' := [some (.ref 49), some (.int v1), some (.int v2), some (.int v3), some (.int (v4 + (1 : Int32)))]) (S' := []) (σ' := x5) 2 (fun n h => h) ?_
      exact ih v1 v2 v3 (v4 + (1 : Int32)) x5 h
def f_ClassTable_addPrime_49 (N : Nat) (p0 : Int32) (p1 : Int32) (σ : aSt) : Option aSt :=
  (if ((2 : Int32) * (σ.1 49 7)) ≤ (32 : Int32) then f_ClassTable_addPrime_49_l11 N N p0 p1 (σ.1 49 7) (0 : Int32) σ else some σ)
set_option maxRecDepth 20000 in
set_option maxHeartbeats 4000000 in
theorem c_ClassTable_addPrime_49 (d : Nat) {N : Nat} (p0 : Int32) (p1 : Int32) (σ : aSt) {P : Option Value → aSt → Prop} {x : aSt} (h : f_ClassTable_addPrime_49 N p0 p1 σ = some x) (hp : P none x) : aCall MT (d + 3) 165 [.ref 49, .int p0, .int p1] σ P := by
  unfold f_ClassTable_addPrime_49 at h
  refine call_of (code := mc_ClassTable_addPrime) (L := [some (.ref 49), some (.int p0), some (.int p1), none, none]) rfl rfl rfl rfl ?_
  refine go_if (c := ((2 : Int32) * (σ.1 49 7)) ≤ (32 : Int32)) (k1 := 9) (L1 := [some (.ref 49), some (.int p0), some (.int p1), some (.int (σ.1 49 7)), none]) (S1 := []) (σ1 := σ) (k2 := 8) (L2 := [some (.ref 49), some (.int p0), some (.int p1), some (.int (σ.1 49 7)), none]) (S2 := []) (σ2 := σ) 8 (fun n h => h) (fun hc1 => ?_) (fun hc1 => ?_)
  · rw [if_pos hc1] at h
    refine go_st (k' := 11) (L' := [some (.ref 49), some (.int p0), some (.int p1), some (.int (σ.1 49 7)), some (.int (0 : Int32))]) (S' := []) (σ' := σ) 2 (fun n h => h) ?_
    exact t_ClassTable_addPrime_49_l11 d hp N p0 p1 (σ.1 49 7) (0 : Int32) σ h
  · rw [if_neg hc1] at h
    cases h
    exact go_ret 1 (fun _ => hp)
def f_ClassTable_gatherDivisors_49_l33 (N : Nat) (k46 : Int32 → Int32 → Int32 → aSt → Option aSt) : Nat → Int32 → Int32 → Int32 → Int32 → aSt → Option aSt
  | 0, _, _, _, _, _ => none
  | n + 1, v1, v2, v3, v4, σ => (if (32 : Int32) ≤ v4 then k46 v1 v2 v3 σ else (if ¬ v3 = 0 then (if (irem v1 v3) ≠ 0 then k46 v1 v2 v3 σ else f_ClassTable_gatherDivisors_49_l33 N k46 n (v1 / v3) v2 v3 (v4 + (1 : Int32)) σ) else none))
set_option maxRecDepth 20000 in
set_option maxHeartbeats 4000000 in
theorem t_ClassTable_gatherDivisors_49_l33 (d : Nat) {N : Nat} (k46 : Int32 → Int32 → Int32 → aSt → Option aSt) {x : aSt} {P : Option Value → aSt → Prop} (hp : P none x) (hk46 : ∀ (d4 : Option Value) (v1 : Int32) (v2 : Int32) (v3 : Int32) (σ : aSt), k46 v1 v2 v3 σ = some x → aGo (aCall MT (d + 3)) P mc_ClassTable_gatherDivisors 46 [some (.ref 49), some (.int v1), some (.int v2), some (.int v3), d4] [] σ) : ∀ (n : Nat) (v1 : Int32) (v2 : Int32) (v3 : Int32) (v4 : Int32) (σ : aSt), f_ClassTable_gatherDivisors_49_l33 N k46 n v1 v2 v3 v4 σ = some x → aGo (aCall MT (d + 3)) P mc_ClassTable_gatherDivisors 33 [some (.ref 49), some (.int v1), some (.int v2), some (.int v3), some (.int v4)] [] σ := by
  intro n
  induction n with
  | zero => intro v1 v2 v3 v4 σ h; cases h
  | succ n ih =>
    intro v1 v2 v3 v4 σ h
    rw [f_ClassTable_gatherDivisors_49_l33] at h
    refine go_if (c := (32 : Int32) ≤ v4) (k1 := 46) (L1 := [some (.ref 49), some (.int v1), some (.int v2), some (.int v3), some (.int v4)]) (S1 := []) (σ1 := σ) (k2 := 36) (L2 := [some (.ref 49), some (.int v1), some (.int v2), some (.int v3), some (.int v4)]) (S2 := []) (σ2 := σ) 3 (fun n h => h) (fun hc8 => ?_) (fun hc8 => ?_)
    · rw [if_pos hc8] at h
      exact hk46 _ v1 v2 v3 σ h
    · rw [if_neg hc8] at h
      obtain ⟨hc9, h⟩ := ite_of h
      refine go_q (Q := ¬ v3 = 0) (k' := 39) (L' := [some (.ref 49), some (.int v1), some (.int v2), some (.int v3), some (.int v4)]) (S' := [.int (irem v1 v3)]) (σ' := σ) 3 hc9 (fun n h => h) ?_
      refine go_if (c := (irem v1 v3) ≠ 0) (k1 := 46) (L1 := [some (.ref 49), some (.int v1), some (.int v2), some (.int v3), some (.int v4)]) (S1 := []) (σ1 := σ) (k2 := 40) (L2 := [some (.ref 49), some (.int v1), some (.int v2), some (.int v3), some (.int v4)]) (S2 := []) (σ2 := σ) 1 (fun n h => h) (fun hc10 => ?_) (fun hc10 => ?_)
      · rw [if_pos hc10] at h
        exact hk46 _ v1 v2 v3 σ h
      · rw [if_neg hc10] at h
        refine go_q (Q := ¬ v3 = 0) (k' := 43) (L' := [some (.ref 49), some (.int v1), some (.int v2), some (.int v3), some (.int v4)]) (S' := [.int (v1 / v3)]) (σ' := σ) 3 (hc9) (fun n h => h) ?_
        refine go_st (k' := 33) (L' := [some (.ref 49), some (.int (v1 / v3)), some (.int v2), some (.int v3), some (.int (v4 + (1 : Int32)))]) (S' := []) (σ' := σ) 3 (fun n h => h) ?_
        exact ih (v1 / v3) v2 v3 (v4 + (1 : Int32)) σ h
def f_ClassTable_gatherDivisors_49_l21 (N : Nat) : Nat → Int32 → Int32 → Int32 → aSt → Option aSt
  | 0, _, _, _, _ => none
  | n + 1, v1, v2, v3, σ => (if v1 < (v3 * v3) then (if v1 ≤ (1 : Int32) then some σ else ((f_ClassTable_addPrime_49 N v1 v2 σ).bind fun x5 => some x5)) else (if ¬ v3 = 0 then (if (irem v1 v3) = 0 then f_ClassTable_gatherDivisors_49_l33 N (fun (y11 : Int32) (y12 : Int32) (y13 : Int32) σ14 => ((f_ClassTable_addPrime_49 N y13 y12 σ14).bind fun x15 => f_ClassTable_gatherDivisors_49_l21 N n y11 (y12 * (2 : Int32)) (y13 + (1 : Int32)) x15)) N v1 v2 v3 (0 : Int32) σ else f_ClassTable_gatherDivisors_49_l21 N n v1 v2 (v3 + (1 : Int32)) σ) else none))
set_option maxRecDepth 20000 in
set_option maxHeartbeats 4000000 in
theorem t_ClassTable_gatherDivisors_49_l21 (d : Nat) {N : Nat} {x : aSt} {P : Option Value → aSt → Prop} (hp : P none x) : ∀ (n : Nat) (d4 : Option Value) (v1 : Int32) (v2 : Int32) (v3 : Int32) (σ : aSt), f_ClassTable_gatherDivisors_49_l21 N n v1 v2 v3 σ = some x → aGo (aCall MT (d + 3)) P mc_ClassTable_gatherDivisors 21 [some (.ref 49), some (.int v1), some (.int v2), some (.int v3), d4] [] σ := by
  intro n
  induction n with
  | zero => intro d4 v1 v2 v3 σ h; cases h
  | succ n ih =>
    intro d4 v1 v2 v3 σ h
    rw [f_ClassTable_gatherDivisors_49_l21] at h
    refine go_if (c := v1 < (v3 * v3)) (k1 := 56) (L1 := [some (.ref 49), some (.int v1), some (.int v2), some (.int v3), d4]) (S1 := []) (σ1 := σ) (k2 := 26) (L2 := [some (.ref 49), some (.int v1), some (.int v2), some (.int v3), d4]) (S2 := []) (σ2 := σ) 5 (fun n h => h) (fun hc3 => ?_) (fun hc3 => ?_)
    · rw [if_pos hc3] at h
      refine go_if (c := v1 ≤ (1 : Int32)) (k1 := 63) (L1 := [some (.ref 49), some (.int v1), some (.int v2), some (.int v3), d4]) (S1 := []) (σ1 := σ) (k2 := 59) (L2 := [some (.ref 49), some (.int v1), some (.int v2), some (.int v3), d4]) (S2 := []) (σ2 := σ) 3 (fun n h => h) (fun hc4 => ?_) (fun hc4 => ?_)
      · rw [if_pos hc4] at h
        cases h
        exact go_ret 1 (fun _ => hp)
      · rw [if_neg hc4] at h
        obtain ⟨x5, hx5, h⟩ := bind_of h
        refine go_call (r := none) (σc := σ) (σ1 := x5) (mi := 165) (vs := [.ref 49, .int v1, .int v2]) (k' := 63) (L' := [some (.ref 49), some (.int v1), some (.int v2), some (.int v3), d4]) (S' := []) 4 (fun P9 h9 => c_ClassTable_addPrime_49 (d + 0) v1 v2 σ hx5 h9) (fun n h => h) ?_
        cases h
        exact go_ret 1 (fun _ => hp)
    · rw [if_neg hc3] at h
      obtain ⟨hc6, h⟩ := ite_of h
      refine go_q (Q := ¬ v3 = 0) (k' := 29) (L' := [some (.ref 49), some (.int v1), some (.int v2), some (.int v3), d4]) (S' := [.int (irem v1 v3)]) (σ' := σ) 3 hc6 (fun n h => h) ?_
      refine go_if (c := (irem v1 v3) = 0) (k1 := 31) (L1 := [some (.ref 49), some (.int v1), some (.int v2), some (.int v3), d4]) (S1 := []) (σ1 := σ) (k2 := 30) (L2 := [some (.ref 49), some (.int v1), some (.int v2), some (.int v3), d4]) (S2 := []) (σ2 := σ) 1 (fun n h => h) (fun hc7 => ?_) (fun hc7 => ?_)
      · rw [if_pos hc7] at h
        refine go_st (k' := 33) (L' := [some (.ref 49), some (.int v1), some (.int v2), some (.int v3), some (.int (0 : Int32))]) (S' := []) (σ' := σ) 2 (fun n h => h) ?_
        refine t_ClassTable_gatherDivisors_49_l33 d _ hp (fun d4 y11 y12 y13 σ14 h => ?_) N v1 v2 v3 (0 : Int32) σ h
        · obtain ⟨x15, hx15, h⟩ := bind_of h
          refine go_call (r := none) (σc := σ14) (σ1 := x15) (mi := 165) (vs := [.ref 49, .int y13, .int y12]) (k' := 50) (L' := [some (.ref 49), some (.int y11), some (.int y12), some (.int y13), d4]) (S' := []) 4 (fun P9 h9 => c_ClassTable_addPrime_49 (d + 0) y13 y12 σ14 hx15 h9) (fun n h => h) ?_
          refine go_st (k' := 21) (L' := [some (.ref 49), some (.int y11), some (.int (y12 * (2 : Int32))), some (.int (y13 + (1 : Int32))), d4]) (S' := []) (σ' := x15) 6 (fun n h => h) ?_
          exact ih _ y11 (y12 * (2 : Int32)) (y13 + (1 : Int32)) x15 h
      · rw [if_neg hc7] at h
        refine go_st (k' := 21) (L' := [some (.ref 49), some (.int v1), some (.int v2), some (.int (v3 + (1 : Int32))), d4]) (S' := []) (σ' := σ) 3 (fun n h => h) ?_
        exact ih _ v1 v2 (v3 + (1 : Int32)) σ h
def f_ClassTable_gatherDivisors_49 (N : Nat) (σ : aSt) : Option aSt :=
  (lt (f_store σ 50 (0 : Int32) (1 : Int32)) fun x1 => (lt (f_store x1 51 (0 : Int32) (0 : Int32)) fun x2 => f_ClassTable_gatherDivisors_49_l21 N N (iabs (x2.1 49 9)) (1 : Int32) (2 : Int32) (s_i x2 49 7 (1 : Int32))))
set_option maxRecDepth 20000 in
set_option maxHeartbeats 4000000 in
theorem c_ClassTable_gatherDivisors_49 (d : Nat) {N : Nat} (σ : aSt) {P : Option Value → aSt → Prop} {x : aSt} (h : f_ClassTable_gatherDivisors_49 N σ = some x) (hp : P none x) : aCall MT (d + 4) 166 [.ref 49] σ P := by
  unfold f_ClassTable_gatherDivisors_49 at h
  refine call_of (code := mc_ClassTable_gatherDivisors) (L := [some (.ref 49), none, none, none, none]) rfl rfl rfl rfl ?_
  obtain ⟨x1, hx1, h⟩ := lt_of h
  refine go_call (r := none) (σc := σ) (σ1 := x1) (mi := 1) (vs := [.ref 50, .int (0 : Int32), .int (1 : Int32)]) (k' := 5) (L' := [some (.ref 49), none, none, none, none]) (S' := []) 5 (fun P9 h9 => c_store (d + 2) σ 50 rfl rfl (0 : Int32) (1 : Int32) (by rw [← hx1]; exact h9)) (fun n h => h) ?_
  obtain ⟨x2, hx2, h⟩ := lt_of h
  refine go_call (r := none) (σc := x1) (σ1 := x2) (mi := 1) (vs := [.ref 51, .int (0 : Int32), .int (0 : Int32)]) (k' := 10) (L' := [some (.ref 49), none, none, none, none]) (S' := []) 5 (fun P9 h9 => c_store (d + 2) x1 51 rfl rfl (0 : Int32) (0 : Int32) (by rw [← hx2]; exact h9)) (fun n h => h) ?_
  refine go_st (k' := 21) (L' := [some (.ref 49), some (.int (iabs (x2.1 49 9))), some (.int (1 : Int32)), some (.int (2 : Int32)), none]) (S' := []) (σ' := (s_i x2 49 7 (1 : Int32))) 11 (fun n h => h) ?_
  exact t_ClassTable_gatherDivisors_49_l21 d hp N _ (iabs (x2.1 49 9)) (1 : Int32) (2 : Int32) (s_i x2 49 7 (1 : Int32)) h
def f_ClassTable_size_49 (σ : aSt) : Int32 :=
  ((2 : Int32) * (σ.1 49 7))
set_option maxRecDepth 20000 in
set_option maxHeartbeats 4000000 in
theorem c_ClassTable_size_49 (d : Nat) (σ : aSt) {P : Option Value → aSt → Prop} (h : P (some (.int ((f_ClassTable_size_49 σ)))) σ) : aCall MT (d + 1) 167 [.ref 49] σ P := by
  unfold f_ClassTable_size_49 at h
  refine call_of (code := mc_ClassTable_size) (L := [some (.ref 49)]) rfl rfl rfl rfl ?_
  exact go_ret 5 (fun _ => h)
def f_ClassTable_divisor_49 (p0 : Int32) (σ : aSt) : Int32 :=
  (if (irem p0 (2 : Int32)) ≠ 0 then (-(f_pick σ 50 (p0 / (2 : Int32)))) else (f_pick σ 50 (p0 / (2 : Int32))))
set_option maxRecDepth 20000 in
set_option maxHeartbeats 4000000 in
theorem c_ClassTable_divisor_49 (d : Nat) (p0 : Int32) (σ : aSt) {P : Option Value → aSt → Prop} (h : P (some (.int ((f_ClassTable_divisor_49 p0 σ)))) σ) : aCall MT (d + 2) 168 [.ref 49, .int p0] σ P := by
  unfold f_ClassTable_divisor_49 at h
  refine call_of (code := mc_ClassTable_divisor) (L := [some (.ref 49), some (.int p0), none]) rfl rfl rfl rfl ?_
  refine go_q (Q := ¬ (2 : Int32) = 0) (k' := 5) (L' := [some (.ref 49), some (.int p0), none]) (S' := [.int (p0 / (2 : Int32)), .ref 50]) (σ' := σ) 5 (by decide) (fun n h => h) ?_
  refine go_call (r := some (.int (f_pick σ 50 (p0 / (2 : Int32))))) (σc := σ) (σ1 := σ) (mi := 9) (vs := [.ref 50, .int (p0 / (2 : Int32))]) (k' := 6) (L' := [some (.ref 49), some (.int p0), none]) (S' := []) 1 (fun P9 h9 => c_pick (d + 0) σ 50 rfl (p0 / (2 : Int32)) h9) (fun n h => h) ?_
  refine go_q (Q := ¬ (2 : Int32) = 0) (k' := 10) (L' := [some (.ref 49), some (.int p0), some (.int (f_pick σ 50 (p0 / (2 : Int32))))]) (S' := [.int (irem p0 (2 : Int32))]) (σ' := σ) 4 (by decide) (fun n h => h) ?_
  refine go_if (c := (irem p0 (2 : Int32)) ≠ 0) (k1 := 13) (L1 := [some (.ref 49), some (.int p0), some (.int (f_pick σ 50 (p0 / (2 : Int32))))]) (S1 := []) (σ1 := σ) (k2 := 11) (L2 := [some (.ref 49), some (.int p0), some (.int (f_pick σ 50 (p0 / (2 : Int32))))]) (S2 := []) (σ2 := σ) 1 (fun n h => h) (fun hc1 => ?_) (fun hc1 => ?_)
  · rw [if_pos hc1] at h
    exact go_ret 3 (fun _ => h)
  · rw [if_neg hc1] at h
    exact go_ret 3 (fun _ => h)
def f_ClassTable_valueAt_49 (p0 : Int64) (p1 : Int64) (p2 : Int64) (p3 : Int64) (σ : aSt) : Int64 :=
  ((((p0 * p2) * p2) + (((σ.1 49 8).toInt64 * p2) * p3)) + ((p1 * p3) * p3))
set_option maxRecDepth 20000 in
set_option maxHeartbeats 4000000 in
theorem c_ClassTable_valueAt_49 (d : Nat) (p0 : Int64) (p1 : Int64) (p2 : Int64) (p3 : Int64) (σ : aSt) {P : Option Value → aSt → Prop} (h : P (some (.long ((f_ClassTable_valueAt_49 p0 p1 p2 p3 σ)))) σ) : aCall MT (d + 1) 169 [.ref 49, .long p0, .long p1, .long p2, .long p3] σ P := by
  unfold f_ClassTable_valueAt_49 at h
  refine call_of (code := mc_ClassTable_valueAt) (L := [some (.ref 49), some (.long p0), none, some (.long p1), none, some (.long p2), none, some (.long p3), none]) rfl rfl rfl rfl ?_
  exact go_ret 20 (fun _ => h)
def f_ClassTable_mayBeBy_49_l56 (N : Nat) (σ : aSt) : Nat → Int32 → Int32 → Int32 → Int32 → Int64 → Int32 → Option Bool
  | 0, _, _, _, _, _, _ => none
  | n + 1, v1, v2, v3, v4, v5, v7 => (if v4 ≤ v7 then some false else ((f_Whole_residue N (f_ClassTable_valueAt_49 v1.toInt64 v2.toInt64 (v7.toInt64 * v7.toInt64) (1 : Int64) σ) v4).bind fun x7 => (if ((lushr v5 x7) &&& (1 : Int64)) = (0 : Int64) then (if 0 ≤ v3 ∧ v3 < (6 : Int32) then f_ClassTable_mayBeBy_49_l56 N σ n v1 v2 v3 v4 v5 (v7 + (σ.1 89 v3.toNatClampNeg)) else none) else some true)))
set_option maxRecDepth 20000 in
set_option maxHeartbeats 4000000 in
theorem t_ClassTable_mayBeBy_49_l56 (d : Nat) {N : Nat} (σ : aSt) {x : Bool} {P : Option Value → aSt → Prop} (hp : P (some (.int (b2i x))) σ) : ∀ (n : Nat) (d8 : Option Value) (v1 : Int32) (v2 : Int32) (v3 : Int32) (v4 : Int32) (v5 : Int64) (v7 : Int32), f_ClassTable_mayBeBy_49_l56 N σ n v1 v2 v3 v4 v5 v7 = some x → aGo (aCall MT (d + 1)) P mc_ClassTable_mayBeBy 56 [some (.ref 49), some (.int v1), some (.int v2), some (.int v3), some (.int v4), some (.long v5), none, some (.int v7), d8] [] σ := by
  intro n
  induction n with
  | zero => intro d8 v1 v2 v3 v4 v5 v7 h; cases h
  | succ n ih =>
    intro d8 v1 v2 v3 v4 v5 v7 h
    rw [f_ClassTable_mayBeBy_49_l56] at h
    refine go_if (c := v4 ≤ v7) (k1 := 91) (L1 := [some (.ref 49), some (.int v1), some (.int v2), some (.int v3), some (.int v4), some (.long v5), none, some (.int v7), d8]) (S1 := []) (σ1 := σ) (k2 := 59) (L2 := [some (.ref 49), some (.int v1), some (.int v2), some (.int v3), some (.int v4), some (.long v5), none, some (.int v7), d8]) (S2 := []) (σ2 := σ) 3 (fun n h => h) (fun hc6 => ?_) (fun hc6 => ?_)
    · rw [if_pos hc6] at h
      cases h
      exact go_ret 2 (fun _ => And.intro (Or.inl rfl) hp)
    · rw [if_neg hc6] at h
      refine go_call (r := some (.long (f_ClassTable_valueAt_49 v1.toInt64 v2.toInt64 (v7.toInt64 * v7.toInt64) (1 : Int64) σ))) (σc := σ) (σ1 := σ) (mi := 169) (vs := [.ref 49, .long v1.toInt64, .long v2.toInt64, .long (v7.toInt64 * v7.toInt64), .long (1 : Int64)]) (k' := 71) (L' := [some (.ref 49), some (.int v1), some (.int v2), some (.int v3), some (.int v4), some (.long v5), none, some (.int v7), d8]) (S' := []) 12 (fun P9 h9 => c_ClassTable_valueAt_49 (d + 0) v1.toInt64 v2.toInt64 (v7.toInt64 * v7.toInt64) (1 : Int64) σ h9) (fun n h => h) ?_
      obtain ⟨x7, hx7, h⟩ := bind_of h
      refine go_call (r := some (.int x7)) (σc := σ) (σ1 := σ) (mi := 137) (vs := [.long (f_ClassTable_valueAt_49 v1.toInt64 v2.toInt64 (v7.toInt64 * v7.toInt64) (1 : Int64) σ), .int v4]) (k' := 73) (L' := [some (.ref 49), some (.int v1), some (.int v2), some (.int v3), some (.int v4), some (.long v5), none, some (.int v7), d8]) (S' := []) 2 (fun P9 h9 => c_Whole_residue (d + 0) (f_ClassTable_valueAt_49 v1.toInt64 v2.toInt64 (v7.toInt64 * v7.toInt64) (1 : Int64) σ) v4 σ hx7 h9) (fun n h => h) ?_
      refine go_iff (lcmp_eq ((lushr v5 x7) &&& (1 : Int64)) (0 : Int64)) (k1 := 84) (L1 := [some (.ref 49), some (.int v1), some (.int v2), some (.int v3), some (.int v4), some (.long v5), none, some (.int v7), some (.int x7)]) (S1 := []) (σ1 := σ) (k2 := 82) (L2 := [some (.ref 49), some (.int v1), some (.int v2), some (.int v3), some (.int v4), some (.long v5), none, some (.int v7), some (.int x7)]) (S2 := []) (σ2 := σ) 9 (fun n h => h) (fun hc8 => ?_) (fun hc8 => ?_)
      · rw [if_pos hc8] at h
        obtain ⟨hc9, h⟩ := ite_of h
        refine go_q (Q := inb 0 σ 89 v3) (k' := 88) (L' := [some (.ref 49), some (.int v1), some (.int v2), some (.int v3), some (.int v4), some (.long v5), none, some (.int v7), some (.int x7)]) (S' := [.int (σ.1 89 v3.toNatClampNeg), .int v7]) (σ' := σ) 4 (inb_mk rfl hc9.1 hc9.2) (fun n h => h) ?_
        refine go_st (k' := 56) (L' := [some (.ref 49), some (.int v1), some (.int v2), some (.int v3), some (.int v4), some (.long v5), none, some (.int (v7 + (σ.1 89 v3.toNatClampNeg))), some (.int x7)]) (S' := []) (σ' := σ) 3 (fun n h => h) ?_
        exact ih _ v1 v2 v3 v4 v5 (v7 + (σ.1 89 v3.toNatClampNeg)) h
      · rw [if_neg hc8] at h
        cases h
        exact go_ret 2 (fun _ => And.intro (Or.inr rfl) hp)
def f_ClassTable_mayBeBy_49_l24 (N : Nat) (σ : aSt) : Nat → Int32 → Int32 → Int32 → Int32 → Int64 → Int32 → Option Bool
  | 0, _, _, _, _, _, _ => none
  | n + 1, v1, v2, v3, v4, v5, v7 => (if v4 ≤ v7 then f_ClassTable_mayBeBy_49_l56 N σ N v1 v2 v3 v4 v5 (0 : Int32) else ((f_Whole_residue N (f_ClassTable_valueAt_49 v1.toInt64 v2.toInt64 (1 : Int64) (v7.toInt64 * v7.toInt64) σ) v4).bind fun x10 => (if ((lushr v5 x10) &&& (1 : Int64)) = (0 : Int64) then f_ClassTable_mayBeBy_49_l24 N σ n v1 v2 v3 v4 v5 (v7 + (1 : Int32)) else some true)))
set_option maxRecDepth 20000 in
set_option maxHeartbeats 4000000 in
theorem t_ClassTable_mayBeBy_49_l24 (d : Nat) {N : Nat} (σ : aSt) {x : Bool} {P : Option Value → aSt → Prop} (hp : P (some (.int (b2i x))) σ) : ∀ (n : Nat) (d8 : Option Value) (v1 : Int32) (v2 : Int32) (v3 : Int32) (v4 : Int32) (v5 : Int64) (v7 : Int32), f_ClassTable_mayBeBy_49_l24 N σ n v1 v2 v3 v4 v5 v7 = some x → aGo (aCall MT (d + 1)) P mc_ClassTable_mayBeBy 24 [some (.ref 49), some (.int v1), some (.int v2), some (.int v3), some (.int v4), some (.long v5), none, some (.int v7), d8] [] σ := by
  intro n
  induction n with
  | zero => intro d8 v1 v2 v3 v4 v5 v7 h; cases h
  | succ n ih =>
    intro d8 v1 v2 v3 v4 v5 v7 h
    rw [f_ClassTable_mayBeBy_49_l24] at h
    refine go_if (c := v4 ≤ v7) (k1 := 54) (L1 := [some (.ref 49), some (.int v1), some (.int v2), some (.int v3), some (.int v4), some (.long v5), none, some (.int v7), d8]) (S1 := []) (σ1 := σ) (k2 := 27) (L2 := [some (.ref 49), some (.int v1), some (.int v2), some (.int v3), some (.int v4), some (.long v5), none, some (.int v7), d8]) (S2 := []) (σ2 := σ) 3 (fun n h => h) (fun hc5 => ?_) (fun hc5 => ?_)
    · rw [if_pos hc5] at h
      refine go_st (k' := 56) (L' := [some (.ref 49), some (.int v1), some (.int v2), some (.int v3), some (.int v4), some (.long v5), none, some (.int (0 : Int32)), d8]) (S' := []) (σ' := σ) 2 (fun n h => h) ?_
      exact t_ClassTable_mayBeBy_49_l56 d σ hp N _ v1 v2 v3 v4 v5 (0 : Int32) h
    · rw [if_neg hc5] at h
      refine go_call (r := some (.long (f_ClassTable_valueAt_49 v1.toInt64 v2.toInt64 (1 : Int64) (v7.toInt64 * v7.toInt64) σ))) (σc := σ) (σ1 := σ) (mi := 169) (vs := [.ref 49, .long v1.toInt64, .long v2.toInt64, .long (1 : Int64), .long (v7.toInt64 * v7.toInt64)]) (k' := 39) (L' := [some (.ref 49), some (.int v1), some (.int v2), some (.int v3), some (.int v4), some (.long v5), none, some (.int v7), d8]) (S' := []) 12 (fun P9 h9 => c_ClassTable_valueAt_49 (d + 0) v1.toInt64 v2.toInt64 (1 : Int64) (v7.toInt64 * v7.toInt64) σ h9) (fun n h => h) ?_
      obtain ⟨x10, hx10, h⟩ := bind_of h
      refine go_call (r := some (.int x10)) (σc := σ) (σ1 := σ) (mi := 137) (vs := [.long (f_ClassTable_valueAt_49 v1.toInt64 v2.toInt64 (1 : Int64) (v7.toInt64 * v7.toInt64) σ), .int v4]) (k' := 41) (L' := [some (.ref 49), some (.int v1), some (.int v2), some (.int v3), some (.int v4), some (.long v5), none, some (.int v7), d8]) (S' := []) 2 (fun P9 h9 => c_Whole_residue (d + 0) (f_ClassTable_valueAt_49 v1.toInt64 v2.toInt64 (1 : Int64) (v7.toInt64 * v7.toInt64) σ) v4 σ hx10 h9) (fun n h => h) ?_
      refine go_iff (lcmp_eq ((lushr v5 x10) &&& (1 : Int64)) (0 : Int64)) (k1 := 52) (L1 := [some (.ref 49), some (.int v1), some (.int v2), some (.int v3), some (.int v4), some (.long v5), none, some (.int v7), some (.int x10)]) (S1 := []) (σ1 := σ) (k2 := 50) (L2 := [some (.ref 49), some (.int v1), some (.int v2), some (.int v3), some (.int v4), some (.long v5), none, some (.int v7), some (.int x10)]) (S2 := []) (σ2 := σ) 9 (fun n h => h) (fun hc11 => ?_) (fun hc11 => ?_)
      · rw [if_pos hc11] at h
        refine go_st (k' := 24) (L' := [some (.ref 49), some (.int v1), some (.int v2), some (.int v3), some (.int v4), some (.long v5), none, some (.int (v7 + (1 : Int32))), some (.int x10)]) (S' := []) (σ' := σ) 2 (fun n h => h) ?_
        exact ih _ v1 v2 v3 v4 v5 (v7 + (1 : Int32)) h
      · rw [if_neg hc11] at h
        cases h
        exact go_ret 2 (fun _ => And.intro (Or.inr rfl) hp)
def f_ClassTable_mayBeBy_49 (N : Nat) (p0 : Int32) (p1 : Int32) (p2 : Int32) (σ : aSt) : Option Bool :=
  (if (6 : Int32) ≤ p2 then some false else (if (6 : Int32) ≤ p2 then some false else (if p2 < (6 : Int32) then (if 0 ≤ p2 ∧ p2 < (6 : Int32) then f_ClassTable_mayBeBy_49_l24 N σ N p0 p1 p2 (σ.1 88 p2.toNatClampNeg) (σ.2.1 90 p2.toNatClampNeg) (0 : Int32) else none) else some false)))
set_option maxRecDepth 20000 in
set_option maxHeartbeats 4000000 in
theorem c_ClassTable_mayBeBy_49 (d : Nat) {N : Nat} (p0 : Int32) (p1 : Int32) (p2 : Int32) (σ : aSt) {P : Option Value → aSt → Prop} {x : Bool} (h : f_ClassTable_mayBeBy_49 N p0 p1 p2 σ = some x) (hp : P (some (.int (b2i x))) σ) : aCall MT (d + 2) 170 [.ref 49, .int p0, .int p1, .int p2] σ P := by
  unfold f_ClassTable_mayBeBy_49 at h
  refine call_of (code := mc_ClassTable_mayBeBy) (L := [some (.ref 49), some (.int p0), some (.int p1), some (.int p2), none, none, none, none, none]) rfl rfl rfl rfl ?_
  refine go_if (c := (6 : Int32) ≤ p2) (k1 := 12) (L1 := [some (.ref 49), some (.int p0), some (.int p1), some (.int p2), none, none, none, none, none]) (S1 := []) (σ1 := σ) (k2 := 4) (L2 := [some (.ref 49), some (.int p0), some (.int p1), some (.int p2), none, none, none, none, none]) (S2 := []) (σ2 := σ) 4 (fun n h => h) (fun hc1 => ?_) (fun hc1 => ?_)
  · rw [if_pos hc1] at h
    cases h
    exact go_ret 2 (fun _ => And.intro (Or.inl rfl) hp)
  · rw [if_neg hc1] at h
    refine go_if (c := (6 : Int32) ≤ p2) (k1 := 12) (L1 := [some (.ref 49), some (.int p0), some (.int p1), some (.int p2), none, none, none, none, none]) (S1 := []) (σ1 := σ) (k2 := 8) (L2 := [some (.ref 49), some (.int p0), some (.int p1), some (.int p2), none, none, none, none, none]) (S2 := []) (σ2 := σ) 4 (fun n h => h) (fun hc2 => ?_) (fun hc2 => ?_)
    · rw [if_pos hc2] at h
      cases h
      exact go_ret 2 (fun _ => And.intro (Or.inl rfl) hp)
    · rw [if_neg hc2] at h
      refine go_if (c := p2 < (6 : Int32)) (k1 := 14) (L1 := [some (.ref 49), some (.int p0), some (.int p1), some (.int p2), none, none, none, none, none]) (S1 := []) (σ1 := σ) (k2 := 12) (L2 := [some (.ref 49), some (.int p0), some (.int p1), some (.int p2), none, none, none, none, none]) (S2 := []) (σ2 := σ) 4 (fun n h => h) (fun hc3 => ?_) (fun hc3 => ?_)
      · rw [if_pos hc3] at h
        obtain ⟨hc4, h⟩ := ite_of h
        refine go_q (Q := inb 0 σ 88 p2) (k' := 17) (L' := [some (.ref 49), some (.int p0), some (.int p1), some (.int p2), none, none, none, none, none]) (S' := [.int (σ.1 88 p2.toNatClampNeg)]) (σ' := σ) 3 (inb_mk rfl hc4.1 hc4.2) (fun n h => h) ?_
        refine go_q (Q := inb 1 σ 90 p2) (k' := 21) (L' := [some (.ref 49), some (.int p0), some (.int p1), some (.int p2), some (.int (σ.1 88 p2.toNatClampNeg)), none, none, none, none]) (S' := [.long (σ.2.1 90 p2.toNatClampNeg)]) (σ' := σ) 4 (inb_mk rfl hc4.1 hc4.2) (fun n h => h) ?_
        refine go_st (k' := 24) (L' := [some (.ref 49), some (.int p0), some (.int p1), some (.int p2), some (.int (σ.1 88 p2.toNatClampNeg)), some (.long (σ.2.1 90 p2.toNatClampNeg)), none, some (.int (0 : Int32)), none]) (S' := []) (σ' := σ) 3 (fun n h => h) ?_
        exact t_ClassTable_mayBeBy_49_l24 d σ hp N _ p0 p1 p2 (σ.1 88 p2.toNatClampNeg) (σ.2.1 90 p2.toNatClampNeg) (0 : Int32) h
      · rw [if_neg hc3] at h
        cases h
        exact go_ret 2 (fun _ => And.intro (Or.inl rfl) hp)
def f_ClassTable_mayBe_49_l30 (N : Nat) (σ : aSt) : Nat → Int32 → Int32 → Int32 → Option Bool
  | 0, _, _, _ => none
  | n + 1, v1, v2, v3 => (if (6 : Int32) ≤ v3 then some true else ((f_ClassTable_mayBeBy_49 N v1 v2 v3 σ).bind fun x3 => (if x3 = true then f_ClassTable_mayBe_49_l30 N σ n v1 v2 (v3 + (1 : Int32)) else some false)))
set_option maxRecDepth 20000 in
set_option maxHeartbeats 4000000 in
theorem t_ClassTable_mayBe_49_l30 (d : Nat) {N : Nat} (σ : aSt) {x : Bool} {P : Option Value → aSt → Prop} (hp : P (some (.int (b2i x))) σ) : ∀ (n : Nat) (v1 : Int32) (v2 : Int32) (v3 : Int32), f_ClassTable_mayBe_49_l30 N σ n v1 v2 v3 = some x → aGo (aCall MT (d + 2)) P mc_ClassTable_mayBe 30 [some (.ref 49), some (.int v1), some (.int v2), some (.int v3)] [] σ := by
  intro n
  induction n with
  | zero => intro v1 v2 v3 h; cases h
  | succ n ih =>
    intro v1 v2 v3 h
    rw [f_ClassTable_mayBe_49_l30] at h
    refine go_if (c := (6 : Int32) ≤ v3) (k1 := 44) (L1 := [some (.ref 49), some (.int v1), some (.int v2), some (.int v3)]) (S1 := []) (σ1 := σ) (k2 := 34) (L2 := [some (.ref 49), some (.int v1), some (.int v2), some (.int v3)]) (S2 := []) (σ2 := σ) 4 (fun n h => h) (fun hc2 => ?_) (fun hc2 => ?_)
    · rw [if_pos hc2] at h
      cases h
      exact go_ret 2 (fun _ => And.intro (Or.inr rfl) hp)
    · rw [if_neg hc2] at h
      obtain ⟨x3, hx3, h⟩ := bind_of h
      refine go_call (r := some (.int (b2i x3))) (σc := σ) (σ1 := σ) (mi := 170) (vs := [.ref 49, .int v1, .int v2, .int v3]) (k' := 39) (L' := [some (.ref 49), some (.int v1), some (.int v2), some (.int v3)]) (S' := []) 5 (fun P9 h9 => c_ClassTable_mayBeBy_49 (d + 0) v1 v2 v3 σ hx3 h9) (fun n h => h) ?_
      refine go_ifn (b := x3) (k1 := 42) (L1 := [some (.ref 49), some (.int v1), some (.int v2), some (.int v3)]) (S1 := []) (σ1 := σ) (k2 := 40) (L2 := [some (.ref 49), some (.int v1), some (.int v2), some (.int v3)]) (S2 := []) (σ2 := σ) 1 (fun n h => h) (fun hc4 => ?_) (fun hc4 => ?_)
      · rw [if_pos hc4] at h
        refine go_st (k' := 30) (L' := [some (.ref 49), some (.int v1), some (.int v2), some (.int (v3 + (1 : Int32)))]) (S' := []) (σ' := σ) 2 (fun n h => h) ?_
        exact ih v1 v2 (v3 + (1 : Int32)) h
      · rw [if_neg hc4] at h
        cases h
        exact go_ret 2 (fun _ => And.intro (Or.inl rfl) hp)
def f_ClassTable_mayBe_49_b28 (N : Nat) (v1 : Int32) (v2 : Int32) (σ : aSt) : Option Bool :=
  f_ClassTable_mayBe_49_l30 N σ N v1 v2 (0 : Int32)
set_option maxRecDepth 20000 in
set_option maxHeartbeats 4000000 in
theorem t_ClassTable_mayBe_49_b28 (d : Nat) {N : Nat} (d3 : Option Value) (v1 : Int32) (v2 : Int32) (σ : aSt) {P : Option Value → aSt → Prop} {x : Bool} (h : f_ClassTable_mayBe_49_b28 N v1 v2 σ = some x) (hp : P (some (.int (b2i x))) σ) : aGo (aCall MT (d + 2)) P mc_ClassTable_mayBe 28 [some (.ref 49), some (.int v1), some (.int v2), d3] [] σ := by
  unfold f_ClassTable_mayBe_49_b28 at h
  refine go_st (k' := 30) (L' := [some (.ref 49), some (.int v1), some (.int v2), some (.int (0 : Int32))]) (S' := []) (σ' := σ) 2 (fun n h => h) ?_
  exact t_ClassTable_mayBe_49_l30 d σ hp N v1 v2 (0 : Int32) h
def f_ClassTable_mayBe_49 (N : Nat) (p0 : Int32) (σ : aSt) : Option Bool :=
  (if 0 ≤ p0 then f_ClassTable_mayBe_49_b28 N p0 (f_Whole_quotient (σ.1 49 9).toInt64 p0.toInt64).toInt32 σ else (if 0 ≤ (f_Whole_quotient (σ.1 49 9).toInt64 p0.toInt64).toInt32 then f_ClassTable_mayBe_49_b28 N p0 (f_Whole_quotient (σ.1 49 9).toInt64 p0.toInt64).toInt32 σ else (if (σ.1 49 8) ≤ 0 then some false else (if 0 < (((σ.1 49 8) * (σ.1 49 8)) - ((4 : Int32) * (σ.1 49 9))) then f_ClassTable_mayBe_49_b28 N p0 (f_Whole_quotient (σ.1 49 9).toInt64 p0.toInt64).toInt32 σ else some false))))
set_option maxRecDepth 20000 in
set_option maxHeartbeats 4000000 in
theorem c_ClassTable_mayBe_49 (d : Nat) {N : Nat} (p0 : Int32) (σ : aSt) {P : Option Value → aSt → Prop} {x : Bool} (h : f_ClassTable_mayBe_49 N p0 σ = some x) (hp : P (some (.int (b2i x))) σ) : aCall MT (d + 3) 171 [.ref 49, .int p0] σ P := by
  unfold f_ClassTable_mayBe_49 at h
  refine call_of (code := mc_ClassTable_mayBe) (L := [some (.ref 49), some (.int p0), none, none]) rfl rfl rfl rfl ?_
  refine go_call (r := some (.long (f_Whole_quotient (σ.1 49 9).toInt64 p0.toInt64))) (σc := σ) (σ1 := σ) (mi := 97) (vs := [.long (σ.1 49 9).toInt64, .long p0.toInt64]) (k' := 6) (L' := [some (.ref 49), some (.int p0), none, none]) (S' := []) 6 (fun P9 h9 => c_Whole_quotient (d + 1) (σ.1 49 9).toInt64 p0.toInt64 σ h9) (fun n h => h) ?_
  refine go_if (c := 0 ≤ p0) (k1 := 28) (L1 := [some (.ref 49), some (.int p0), some (.int (f_Whole_quotient (σ.1 49 9).toInt64 p0.toInt64).toInt32), none]) (S1 := []) (σ1 := σ) (k2 := 10) (L2 := [some (.ref 49), some (.int p0), some (.int (f_Whole_quotient (σ.1 49 9).toInt64 p0.toInt64).toInt32), none]) (S2 := []) (σ2 := σ) 4 (fun n h => h) (fun hc1 => ?_) (fun hc1 => ?_)
  · rw [if_pos hc1] at h
    exact t_ClassTable_mayBe_49_b28 d _ p0 (f_Whole_quotient (σ.1 49 9).toInt64 p0.toInt64).toInt32 σ h hp
  · rw [if_neg hc1] at h
    refine go_if (c := 0 ≤ (f_Whole_quotient (σ.1 49 9).toInt64 p0.toInt64).toInt32) (k1 := 28) (L1 := [some (.ref 49), some (.int p0), some (.int (f_Whole_quotient (σ.1 49 9).toInt64 p0.toInt64).toInt32), none]) (S1 := []) (σ1 := σ) (k2 := 12) (L2 := [some (.ref 49), some (.int p0), some (.int (f_Whole_quotient (σ.1 49 9).toInt64 p0.toInt64).toInt32), none]) (S2 := []) (σ2 := σ) 2 (fun n h => h) (fun hc5 => ?_) (fun hc5 => ?_)
    · rw [if_pos hc5] at h
      exact t_ClassTable_mayBe_49_b28 d _ p0 (f_Whole_quotient (σ.1 49 9).toInt64 p0.toInt64).toInt32 σ h hp
    · rw [if_neg hc5] at h
      refine go_if (c := (σ.1 49 8) ≤ 0) (k1 := 26) (L1 := [some (.ref 49), some (.int p0), some (.int (f_Whole_quotient (σ.1 49 9).toInt64 p0.toInt64).toInt32), none]) (S1 := []) (σ1 := σ) (k2 := 15) (L2 := [some (.ref 49), some (.int p0), some (.int (f_Whole_quotient (σ.1 49 9).toInt64 p0.toInt64).toInt32), none]) (S2 := []) (σ2 := σ) 3 (fun n h => h) (fun hc6 => ?_) (fun hc6 => ?_)
      · rw [if_pos hc6] at h
        cases h
        exact go_ret 2 (fun _ => And.intro (Or.inl rfl) hp)
      · rw [if_neg hc6] at h
        refine go_if (c := 0 < (((σ.1 49 8) * (σ.1 49 8)) - ((4 : Int32) * (σ.1 49 9)))) (k1 := 28) (L1 := [some (.ref 49), some (.int p0), some (.int (f_Whole_quotient (σ.1 49 9).toInt64 p0.toInt64).toInt32), none]) (S1 := []) (σ1 := σ) (k2 := 26) (L2 := [some (.ref 49), some (.int p0), some (.int (f_Whole_quotient (σ.1 49 9).toInt64 p0.toInt64).toInt32), none]) (S2 := []) (σ2 := σ) 11 (fun n h => h) (fun hc7 => ?_) (fun hc7 => ?_)
        · rw [if_pos hc7] at h
          exact t_ClassTable_mayBe_49_b28 d _ p0 (f_Whole_quotient (σ.1 49 9).toInt64 p0.toInt64).toInt32 σ h hp
        · rw [if_neg hc7] at h
          cases h
          exact go_ret 2 (fun _ => And.intro (Or.inl rfl) hp)
def f_ClassTable_tally_49 (p0 : Int32) (σ : aSt) : Int32 :=
  (f_pick σ 56 p0)
set_option maxRecDepth 20000 in
set_option maxHeartbeats 4000000 in
theorem c_ClassTable_tally_49 (d : Nat) (p0 : Int32) (σ : aSt) {P : Option Value → aSt → Prop} (h : P (some (.int ((f_ClassTable_tally_49 p0 σ)))) σ) : aCall MT (d + 2) 172 [.ref 49, .int p0] σ P := by
  unfold f_ClassTable_tally_49 at h
  refine call_of (code := mc_ClassTable_tally) (L := [some (.ref 49), some (.int p0)]) rfl rfl rfl rfl ?_
  refine go_call (r := some (.int (f_pick σ 56 p0))) (σc := σ) (σ1 := σ) (mi := 9) (vs := [.ref 56, .int p0]) (k' := 4) (L' := [some (.ref 49), some (.int p0)]) (S' := []) 4 (fun P9 h9 => c_pick (d + 0) σ 56 rfl p0 h9) (fun n h => h) ?_
  exact go_ret 1 (fun _ => h)
def f_ClassTable_search_49_l19 (N : Nat) (k66 : Int32 → Int32 → Int32 → Int32 → aSt → Option aSt) : Nat → Int32 → Int32 → Int32 → Int32 → Int32 → Int32 → aSt → Option aSt
  | 0, _, _, _, _, _, _, _ => none
  | n + 1, v1, v2, v3, v4, v5, v6, σ => (if (20 : Int32) < v6 then k66 v1 v2 v3 v4 σ else (if (f_ClassTable_valueAt_49 v2.toInt64 v3.toInt64 (v6 * v6).toInt64 v5.toInt64 σ) < (0 : Int64) then f_ClassTable_search_49_l19 N k66 n v1 v2 v3 v4 v5 (v6 + (1 : Int32)) σ else ((f_Whole_rootOf N (f_ClassTable_valueAt_49 v2.toInt64 v3.toInt64 (v6 * v6).toInt64 v5.toInt64 σ)).bind fun x4 => (if x4 < (0 : Int64) then f_ClassTable_search_49_l19 N k66 n v1 v2 v3 v4 v5 (v6 + (1 : Int32)) σ else ((f_Whole_gcd N v6.toInt64 v4.toInt64).bind fun x6 => (if x6 = (1 : Int64) then (lt (f_store σ 53 v1 v6) fun x8 => (lt (f_store x8 54 v1 v4) fun x9 => some x9)) else f_ClassTable_search_49_l19 N k66 n v1 v2 v3 v4 v5 (v6 + (1 : Int32)) σ))))))
set_option maxRecDepth 20000 in
set_option maxHeartbeats 4000000 in
theorem t_ClassTable_search_49_l19 (d : Nat) {N : Nat} (k66 : Int32 → Int32 → Int32 → Int32 → aSt → Option aSt) {x : aSt} {P : Option Value → aSt → Prop} (hp : P none x) (hk66 : ∀ (d5 d6 d7 d8 : Option Value) (v1 : Int32) (v2 : Int32) (v3 : Int32) (v4 : Int32) (σ : aSt), k66 v1 v2 v3 v4 σ = some x → aGo (aCall MT (d + 3)) P mc_ClassTable_search 66 [some (.ref 49), some (.int v1), some (.int v2), some (.int v3), some (.int v4), d5, d6, d7, d8] [] σ) : ∀ (n : Nat) (d7 d8 : Option Value) (v1 : Int32) (v2 : Int32) (v3 : Int32) (v4 : Int32) (v5 : Int32) (v6 : Int32) (σ : aSt), f_ClassTable_search_49_l19 N k66 n v1 v2 v3 v4 v5 v6 σ = some x → aGo (aCall MT (d + 3)) P mc_ClassTable_search 19 [some (.ref 49), some (.int v1), some (.int v2), some (.int v3), some (.int v4), some (.int v5), some (.int v6), d7, d8] [] σ := by
  intro n
  induction n with
  | zero => intro d7 d8 v1 v2 v3 v4 v5 v6 σ h; cases h
  | succ n ih =>
    intro d7 d8 v1 v2 v3 v4 v5 v6 σ h
    rw [f_ClassTable_search_49_l19] at h
    refine go_if (c := (20 : Int32) < v6) (k1 := 66) (L1 := [some (.ref 49), some (.int v1), some (.int v2), some (.int v3), some (.int v4), some (.int v5), some (.int v6), d7, d8]) (S1 := []) (σ1 := σ) (k2 := 22) (L2 := [some (.ref 49), some (.int v1), some (.int v2), some (.int v3), some (.int v4), some (.int v5), some (.int v6), d7, d8]) (S2 := []) (σ2 := σ) 3 (fun n h => h) (fun hc2 => ?_) (fun hc2 => ?_)
    · rw [if_pos hc2] at h
      exact hk66 _ _ _ _ v1 v2 v3 v4 σ h
    · rw [if_neg hc2] at h
      refine go_call (r := some (.long (f_ClassTable_valueAt_49 v2.toInt64 v3.toInt64 (v6 * v6).toInt64 v5.toInt64 σ))) (σc := σ) (σ1 := σ) (mi := 169) (vs := [.ref 49, .long v2.toInt64, .long v3.toInt64, .long (v6 * v6).toInt64, .long v5.toInt64]) (k' := 34) (L' := [some (.ref 49), some (.int v1), some (.int v2), some (.int v3), some (.int v4), some (.int v5), some (.int v6), d7, d8]) (S' := []) 12 (fun P9 h9 => c_ClassTable_valueAt_49 (d + 2) v2.toInt64 v3.toInt64 (v6 * v6).toInt64 v5.toInt64 σ h9) (fun n h => h) ?_
      refine go_iff (lcmp_lt (f_ClassTable_valueAt_49 v2.toInt64 v3.toInt64 (v6 * v6).toInt64 v5.toInt64 σ) (0 : Int64)) (k1 := 64) (L1 := [some (.ref 49), some (.int v1), some (.int v2), some (.int v3), some (.int v4), some (.int v5), some (.int v6), some (.long (f_ClassTable_valueAt_49 v2.toInt64 v3.toInt64 (v6 * v6).toInt64 v5.toInt64 σ)), none]) (S1 := []) (σ1 := σ) (k2 := 39) (L2 := [some (.ref 49), some (.int v1), some (.int v2), some (.int v3), some (.int v4), some (.int v5), some (.int v6), some (.long (f_ClassTable_valueAt_49 v2.toInt64 v3.toInt64 (v6 * v6).toInt64 v5.toInt64 σ)), none]) (S2 := []) (σ2 := σ) 5 (fun n h => h) (fun hc3 => ?_) (fun hc3 => ?_)
      · rw [if_pos hc3] at h
        refine go_st (k' := 19) (L' := [some (.ref 49), some (.int v1), some (.int v2), some (.int v3), some (.int v4), some (.int v5), some (.int (v6 + (1 : Int32))), some (.long (f_ClassTable_valueAt_49 v2.toInt64 v3.toInt64 (v6 * v6).toInt64 v5.toInt64 σ)), none]) (S' := []) (σ' := σ) 2 (fun n h => h) ?_
        exact ih _ _ v1 v2 v3 v4 v5 (v6 + (1 : Int32)) σ h
      · rw [if_neg hc3] at h
        obtain ⟨x4, hx4, h⟩ := bind_of h
        refine go_call (r := some (.long x4)) (σc := σ) (σ1 := σ) (mi := 37) (vs := [.long (f_ClassTable_valueAt_49 v2.toInt64 v3.toInt64 (v6 * v6).toInt64 v5.toInt64 σ)]) (k' := 41) (L' := [some (.ref 49), some (.int v1), some (.int v2), some (.int v3), some (.int v4), some (.int v5), some (.int v6), some (.long (f_ClassTable_valueAt_49 v2.toInt64 v3.toInt64 (v6 * v6).toInt64 v5.toInt64 σ)), none]) (S' := []) 2 (fun P9 h9 => c_Whole_rootOf (d + 0) (f_ClassTable_valueAt_49 v2.toInt64 v3.toInt64 (v6 * v6).toInt64 v5.toInt64 σ) σ hx4 h9) (fun n h => h) ?_
        refine go_iff (lcmp_lt x4 (0 : Int64)) (k1 := 64) (L1 := [some (.ref 49), some (.int v1), some (.int v2), some (.int v3), some (.int v4), some (.int v5), some (.int v6), some (.long (f_ClassTable_valueAt_49 v2.toInt64 v3.toInt64 (v6 * v6).toInt64 v5.toInt64 σ)), none]) (S1 := []) (σ1 := σ) (k2 := 44) (L2 := [some (.ref 49), some (.int v1), some (.int v2), some (.int v3), some (.int v4), some (.int v5), some (.int v6), some (.long (f_ClassTable_valueAt_49 v2.toInt64 v3.toInt64 (v6 * v6).toInt64 v5.toInt64 σ)), none]) (S2 := []) (σ2 := σ) 3 (fun n h => h) (fun hc5 => ?_) (fun hc5 => ?_)
        · rw [if_pos hc5] at h
          refine go_st (k' := 19) (L' := [some (.ref 49), some (.int v1), some (.int v2), some (.int v3), some (.int v4), some (.int v5), some (.int (v6 + (1 : Int32))), some (.long (f_ClassTable_valueAt_49 v2.toInt64 v3.toInt64 (v6 * v6).toInt64 v5.toInt64 σ)), none]) (S' := []) (σ' := σ) 2 (fun n h => h) ?_
          exact ih _ _ v1 v2 v3 v4 v5 (v6 + (1 : Int32)) σ h
        · rw [if_neg hc5] at h
          obtain ⟨x6, hx6, h⟩ := bind_of h
          refine go_call (r := some (.long x6)) (σc := σ) (σ1 := σ) (mi := 38) (vs := [.long v6.toInt64, .long v4.toInt64]) (k' := 49) (L' := [some (.ref 49), some (.int v1), some (.int v2), some (.int v3), some (.int v4), some (.int v5), some (.int v6), some (.long (f_ClassTable_valueAt_49 v2.toInt64 v3.toInt64 (v6 * v6).toInt64 v5.toInt64 σ)), none]) (S' := []) 5 (fun P9 h9 => c_Whole_gcd (d + 2) v6.toInt64 v4.toInt64 σ hx6 h9) (fun n h => h) ?_
          refine go_iff (lcmp_eq x6 (1 : Int64)) (k1 := 53) (L1 := [some (.ref 49), some (.int v1), some (.int v2), some (.int v3), some (.int v4), some (.int v5), some (.int v6), some (.long (f_ClassTable_valueAt_49 v2.toInt64 v3.toInt64 (v6 * v6).toInt64 v5.toInt64 σ)), none]) (S1 := []) (σ1 := σ) (k2 := 52) (L2 := [some (.ref 49), some (.int v1), some (.int v2), some (.int v3), some (.int v4), some (.int v5), some (.int v6), some (.long (f_ClassTable_valueAt_49 v2.toInt64 v3.toInt64 (v6 * v6).toInt64 v5.toInt64 σ)), none]) (S2 := []) (σ2 := σ) 3 (fun n h => h) (fun hc7 => ?_) (fun hc7 => ?_)
          · rw [if_pos hc7] at h
            obtain ⟨x8, hx8, h⟩ := lt_of h
            refine go_call (r := none) (σc := σ) (σ1 := x8) (mi := 1) (vs := [.ref 53, .int v1, .int v6]) (k' := 58) (L' := [some (.ref 49), some (.int v1), some (.int v2), some (.int v3), some (.int v4), some (.int v5), some (.int v6), some (.long (f_ClassTable_valueAt_49 v2.toInt64 v3.toInt64 (v6 * v6).toInt64 v5.toInt64 σ)), none]) (S' := []) 5 (fun P9 h9 => c_store (d + 2) σ 53 rfl rfl v1 v6 (by rw [← hx8]; exact h9)) (fun n h => h) ?_
            obtain ⟨x9, hx9, h⟩ := lt_of h
            refine go_call (r := none) (σc := x8) (σ1 := x9) (mi := 1) (vs := [.ref 54, .int v1, .int v4]) (k' := 63) (L' := [some (.ref 49), some (.int v1), some (.int v2), some (.int v3), some (.int v4), some (.int v5), some (.int v6), some (.long (f_ClassTable_valueAt_49 v2.toInt64 v3.toInt64 (v6 * v6).toInt64 v5.toInt64 σ)), none]) (S' := []) 5 (fun P9 h9 => c_store (d + 2) x8 54 rfl rfl v1 v4 (by rw [← hx9]; exact h9)) (fun n h => h) ?_
            cases h
            exact go_ret 1 (fun _ => hp)
          · rw [if_neg hc7] at h
            refine go_st (k' := 19) (L' := [some (.ref 49), some (.int v1), some (.int v2), some (.int v3), some (.int v4), some (.int v5), some (.int (v6 + (1 : Int32))), some (.long (f_ClassTable_valueAt_49 v2.toInt64 v3.toInt64 (v6 * v6).toInt64 v5.toInt64 σ)), none]) (S' := []) (σ' := σ) 3 (fun n h => h) ?_
            exact ih _ _ v1 v2 v3 v4 v5 (v6 + (1 : Int32)) σ h
def f_ClassTable_search_49_l10 (N : Nat) : Nat → Int32 → Int32 → Int32 → Int32 → aSt → Option aSt
  | 0, _, _, _, _, _ => none
  | n + 1, v1, v2, v3, v4, σ => (if (20 : Int32) < v4 then some σ else f_ClassTable_search_49_l19 N (fun (y10 : Int32) (y11 : Int32) (y12 : Int32) (y13 : Int32) σ14 => f_ClassTable_search_49_l10 N n y10 y11 y12 (y13 + (1 : Int32)) σ14) N v1 v2 v3 v4 (v4 * v4) (0 : Int32) σ)
set_option maxRecDepth 20000 in
set_option maxHeartbeats 4000000 in
theorem t_ClassTable_search_49_l10 (d : Nat) {N : Nat} {x : aSt} {P : Option Value → aSt → Prop} (hp : P none x) : ∀ (n : Nat) (d5 d6 d7 d8 : Option Value) (v1 : Int32) (v2 : Int32) (v3 : Int32) (v4 : Int32) (σ : aSt), f_ClassTable_search_49_l10 N n v1 v2 v3 v4 σ = some x → aGo (aCall MT (d + 3)) P mc_ClassTable_search 10 [some (.ref 49), some (.int v1), some (.int v2), some (.int v3), some (.int v4), d5, d6, d7, d8] [] σ := by
  intro n
  induction n with
  | zero => intro d5 d6 d7 d8 v1 v2 v3 v4 σ h; cases h
  | succ n ih =>
    intro d5 d6 d7 d8 v1 v2 v3 v4 σ h
    rw [f_ClassTable_search_49_l10] at h
    refine go_if (c := (20 : Int32) < v4) (k1 := 68) (L1 := [some (.ref 49), some (.int v1), some (.int v2), some (.int v3), some (.int v4), d5, d6, d7, d8]) (S1 := []) (σ1 := σ) (k2 := 13) (L2 := [some (.ref 49), some (.int v1), some (.int v2), some (.int v3), some (.int v4), d5, d6, d7, d8]) (S2 := []) (σ2 := σ) 3 (fun n h => h) (fun hc1 => ?_) (fun hc1 => ?_)
    · rw [if_pos hc1] at h
      cases h
      exact go_ret 1 (fun _ => hp)
    · rw [if_neg hc1] at h
      refine go_st (k' := 19) (L' := [some (.ref 49), some (.int v1), some (.int v2), some (.int v3), some (.int v4), some (.int (v4 * v4)), some (.int (0 : Int32)), d7, d8]) (S' := []) (σ' := σ) 6 (fun n h => h) ?_
      refine t_ClassTable_search_49_l19 d _ hp (fun d5 d6 d7 d8 y10 y11 y12 y13 σ14 h => ?_) N _ _ v1 v2 v3 v4 (v4 * v4) (0 : Int32) σ h
      · refine go_st (k' := 10) (L' := [some (.ref 49), some (.int y10), some (.int y11), some (.int y12), some (.int (y13 + (1 : Int32))), d5, d6, d7, d8]) (S' := []) (σ' := σ14) 2 (fun n h => h) ?_
        exact ih _ _ _ _ y10 y11 y12 (y13 + (1 : Int32)) σ14 h
def f_ClassTable_search_49 (N : Nat) (p0 : Int32) (p1 : Int32) (σ : aSt) : Option aSt :=
  f_ClassTable_search_49_l10 N N p0 p1 (f_Whole_quotient (σ.1 49 9).toInt64 p1.toInt64).toInt32 (0 : Int32) σ
set_option maxRecDepth 20000 in
set_option maxHeartbeats 4000000 in
theorem c_ClassTable_search_49 (d : Nat) {N : Nat} (p0 : Int32) (p1 : Int32) (σ : aSt) {P : Option Value → aSt → Prop} {x : aSt} (h : f_ClassTable_search_49 N p0 p1 σ = some x) (hp : P none x) : aCall MT (d + 4) 173 [.ref 49, .int p0, .int p1] σ P := by
  unfold f_ClassTable_search_49 at h
  refine call_of (code := mc_ClassTable_search) (L := [some (.ref 49), some (.int p0), some (.int p1), none, none, none, none, none, none]) rfl rfl rfl rfl ?_
  refine go_call (r := some (.long (f_Whole_quotient (σ.1 49 9).toInt64 p1.toInt64))) (σc := σ) (σ1 := σ) (mi := 97) (vs := [.long (σ.1 49 9).toInt64, .long p1.toInt64]) (k' := 6) (L' := [some (.ref 49), some (.int p0), some (.int p1), none, none, none, none, none, none]) (S' := []) 6 (fun P9 h9 => c_Whole_quotient (d + 2) (σ.1 49 9).toInt64 p1.toInt64 σ h9) (fun n h => h) ?_
  refine go_st (k' := 10) (L' := [some (.ref 49), some (.int p0), some (.int p1), some (.int (f_Whole_quotient (σ.1 49 9).toInt64 p1.toInt64).toInt32), some (.int (0 : Int32)), none, none, none, none]) (S' := []) (σ' := σ) 4 (fun n h => h) ?_
  exact t_ClassTable_search_49_l10 d hp N _ _ _ _ p0 p1 (f_Whole_quotient (σ.1 49 9).toInt64 p1.toInt64).toInt32 (0 : Int32) σ h
def f_ClassTable_isFound_49 (p0 : Int32) (σ : aSt) : Bool :=
  (if (f_pick σ 53 p0) < 0 then false else true)
set_option maxRecDepth 20000 in
set_option maxHeartbeats 4000000 in
theorem c_ClassTable_isFound_49 (d : Nat) (p0 : Int32) (σ : aSt) {P : Option Value → aSt → Prop} (h : P (some (.int (b2i ((f_ClassTable_isFound_49 p0 σ))))) σ) : aCall MT (d + 2) 174 [.ref 49, .int p0] σ P := by
  unfold f_ClassTable_isFound_49 at h
  refine call_of (code := mc_ClassTable_isFound) (L := [some (.ref 49), some (.int p0)]) rfl rfl rfl rfl ?_
  refine go_call (r := some (.int (f_pick σ 53 p0))) (σc := σ) (σ1 := σ) (mi := 9) (vs := [.ref 53, .int p0]) (k' := 4) (L' := [some (.ref 49), some (.int p0)]) (S' := []) 4 (fun P9 h9 => c_pick (d + 0) σ 53 rfl p0 h9) (fun n h => h) ?_
  refine go_if (c := (f_pick σ 53 p0) < 0) (k1 := 7) (L1 := [some (.ref 49), some (.int p0)]) (S1 := []) (σ1 := σ) (k2 := 5) (L2 := [some (.ref 49), some (.int p0)]) (S2 := []) (σ2 := σ) 1 (fun n h => h) (fun hc1 => ?_) (fun hc1 => ?_)
  · rw [if_pos hc1] at h
    exact go_ret 2 (fun _ => And.intro (Or.inl rfl) h)
  · rw [if_neg hc1] at h
    exact go_ret 3 (fun _ => And.intro (Or.inr rfl) h)
def f_ClassTable_mask_49 (p0 : Int32) (σ : aSt) : Int32 :=
  (if (irem p0 (2 : Int32)) ≠ 0 then ((f_pick σ 51 (p0 / (2 : Int32))) + (32 : Int32)) else ((f_pick σ 51 (p0 / (2 : Int32))) + (0 : Int32)))
set_option maxRecDepth 20000 in
set_option maxHeartbeats 4000000 in
theorem c_ClassTable_mask_49 (d : Nat) (p0 : Int32) (σ : aSt) {P : Option Value → aSt → Prop} (h : P (some (.int ((f_ClassTable_mask_49 p0 σ)))) σ) : aCall MT (d + 2) 175 [.ref 49, .int p0] σ P := by
  unfold f_ClassTable_mask_49 at h
  refine call_of (code := mc_ClassTable_mask) (L := [some (.ref 49), some (.int p0)]) rfl rfl rfl rfl ?_
  refine go_q (Q := ¬ (2 : Int32) = 0) (k' := 5) (L' := [some (.ref 49), some (.int p0)]) (S' := [.int (p0 / (2 : Int32)), .ref 51]) (σ' := σ) 5 (by decide) (fun n h => h) ?_
  refine go_call (r := some (.int (f_pick σ 51 (p0 / (2 : Int32))))) (σc := σ) (σ1 := σ) (mi := 9) (vs := [.ref 51, .int (p0 / (2 : Int32))]) (k' := 6) (L' := [some (.ref 49), some (.int p0)]) (S' := []) 1 (fun P9 h9 => c_pick (d + 0) σ 51 rfl (p0 / (2 : Int32)) h9) (fun n h => h) ?_
  refine go_q (Q := ¬ (2 : Int32) = 0) (k' := 9) (L' := [some (.ref 49), some (.int p0)]) (S' := [.int (irem p0 (2 : Int32)), .int (f_pick σ 51 (p0 / (2 : Int32)))]) (σ' := σ) 3 (by decide) (fun n h => h) ?_
  refine go_if (c := (irem p0 (2 : Int32)) ≠ 0) (k1 := 12) (L1 := [some (.ref 49), some (.int p0)]) (S1 := [.int (f_pick σ 51 (p0 / (2 : Int32)))]) (σ1 := σ) (k2 := 10) (L2 := [some (.ref 49), some (.int p0)]) (S2 := [.int (f_pick σ 51 (p0 / (2 : Int32)))]) (σ2 := σ) 1 (fun n h => h) (fun hc1 => ?_) (fun hc1 => ?_)
  · rw [if_pos hc1] at h
    exact go_ret 3 (fun _ => h)
  · rw [if_neg hc1] at h
    exact go_ret 4 (fun _ => h)
