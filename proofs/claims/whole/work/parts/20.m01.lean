def f_X_become_b27 (N : Nat) (v1 : Int32) (v2 : Int32) (v3 : Int32) (v4 : Int32) (σ : aSt) : Option (Int32 × aSt) :=
  ((f_PointList_fill_11 N v1 v2 v3 v4 σ).bind fun x4 => (lt (f_Sums_renew x4) fun x5 => (lt (f_Closure_forget_26 x5) fun x6 => some ((f_PointList_shown_11 (s_b (s_b x6 0 14 false) 0 13 true)), (s_b (s_b x6 0 14 false) 0 13 true)))))
set_option maxRecDepth 20000 in
set_option maxHeartbeats 4000000 in
theorem t_X_become_b27 (d : Nat) {N : Nat} (d5 : Option Value) (v1 : Int32) (v2 : Int32) (v3 : Int32) (v4 : Int32) (σ : aSt) {P : Option Value → aSt → Prop} {x : (Int32 × aSt)} (h : f_X_become_b27 N v1 v2 v3 v4 σ = some x) (hp : P (some (.int x.1)) x.2) : aGo (aCall MT (d + 5)) P mc_X_become 27 [some (.ref 0), some (.int v1), some (.int v2), some (.int v3), some (.int v4), d5] [] σ := by
  unfold f_X_become_b27 at h
  obtain ⟨x4, hx4, h⟩ := bind_of h
  refine go_call (r := none) (σc := σ) (σ1 := x4) (mi := 41) (vs := [.ref 11, .int v1, .int v2, .int v3, .int v4]) (k' := 34) (L' := [some (.ref 0), some (.int v1), some (.int v2), some (.int v3), some (.int v4), d5]) (S' := []) 7 (fun P9 h9 => c_PointList_fill_11 (d + 0) v1 v2 v3 v4 σ hx4 h9) (fun n h => h) ?_
  obtain ⟨x5, hx5, h⟩ := lt_of h
  refine go_call (r := none) (σc := x4) (σ1 := x5) (mi := 42) (vs := [.ref 21]) (k' := 37) (L' := [some (.ref 0), some (.int v1), some (.int v2), some (.int v3), some (.int v4), d5]) (S' := []) 3 (fun P9 h9 => c_Sums_renew (d + 3) x4 (by rw [← hx5]; exact h9)) (fun n h => h) ?_
  obtain ⟨x6, hx6, h⟩ := lt_of h
  refine go_call (r := none) (σc := x5) (σ1 := x6) (mi := 43) (vs := [.ref 26]) (k' := 40) (L' := [some (.ref 0), some (.int v1), some (.int v2), some (.int v3), some (.int v4), d5]) (S' := []) 3 (fun P9 h9 => c_Closure_forget_26 (d + 3) x5 (by rw [← hx6]; exact h9)) (fun n h => h) ?_
  refine go_q (Q := (0 : Int32) = 0 ∨ (0 : Int32) = 1) (k' := 43) (L' := [some (.ref 0), some (.int v1), some (.int v2), some (.int v3), some (.int v4), d5]) (S' := []) (σ' := (s_b x6 0 14 false)) 3 (Or.inl rfl) (fun n h => h) ?_
  refine go_q (Q := (1 : Int32) = 0 ∨ (1 : Int32) = 1) (k' := 46) (L' := [some (.ref 0), some (.int v1), some (.int v2), some (.int v3), some (.int v4), d5]) (S' := []) (σ' := (s_b (s_b x6 0 14 false) 0 13 true)) 3 (Or.inr rfl) (fun n h => h) ?_
  refine go_call (r := some (.int (f_PointList_shown_11 (s_b (s_b x6 0 14 false) 0 13 true)))) (σc := (s_b (s_b x6 0 14 false) 0 13 true)) (σ1 := (s_b (s_b x6 0 14 false) 0 13 true)) (mi := 44) (vs := [.ref 11]) (k' := 49) (L' := [some (.ref 0), some (.int v1), some (.int v2), some (.int v3), some (.int v4), d5]) (S' := []) 3 (fun P9 h9 => c_PointList_shown_11 (d + 4) (s_b (s_b x6 0 14 false) 0 13 true) h9) (fun n h => h) ?_
  cases h
  exact go_ret 1 (fun _ => hp)
def f_X_become_b16 (N : Nat) (v1 : Int32) (v2 : Int32) (v3 : Int32) (v4 : Int32) (s0 : Int32) (σ : aSt) : Option (Int32 × aSt) :=
  (if s0 ≠ 0 then f_X_become_b27 N v1 v2 v3 v4 σ else (lt (f_PrimeGroup_renew v1 v2 (s_b σ 0 15 false)) fun x7 => f_X_become_b27 N v1 v2 v3 v4 x7))
set_option maxRecDepth 20000 in
set_option maxHeartbeats 4000000 in
theorem t_X_become_b16 (d : Nat) {N : Nat} (d5 : Option Value) (v1 : Int32) (v2 : Int32) (v3 : Int32) (v4 : Int32) (s0 : Int32) (σ : aSt) {P : Option Value → aSt → Prop} {x : (Int32 × aSt)} (h : f_X_become_b16 N v1 v2 v3 v4 s0 σ = some x) (hp : P (some (.int x.1)) x.2) : aGo (aCall MT (d + 5)) P mc_X_become 16 [some (.ref 0), some (.int v1), some (.int v2), some (.int v3), some (.int v4), d5] [.int s0] σ := by
  unfold f_X_become_b16 at h
  refine go_if (c := s0 ≠ 0) (k1 := 27) (L1 := [some (.ref 0), some (.int v1), some (.int v2), some (.int v3), some (.int v4), some (.int s0)]) (S1 := []) (σ1 := σ) (k2 := 19) (L2 := [some (.ref 0), some (.int v1), some (.int v2), some (.int v3), some (.int v4), some (.int s0)]) (S2 := []) (σ2 := σ) 3 (fun n h => h) (fun hc3 => ?_) (fun hc3 => ?_)
  · rw [if_pos hc3] at h
    exact t_X_become_b27 d _ v1 v2 v3 v4 σ h hp
  · rw [if_neg hc3] at h
    refine go_q (Q := (0 : Int32) = 0 ∨ (0 : Int32) = 1) (k' := 22) (L' := [some (.ref 0), some (.int v1), some (.int v2), some (.int v3), some (.int v4), some (.int s0)]) (S' := []) (σ' := (s_b σ 0 15 false)) 3 (Or.inl rfl) (fun n h => h) ?_
    obtain ⟨x7, hx7, h⟩ := lt_of h
    refine go_call (r := none) (σc := (s_b σ 0 15 false)) (σ1 := x7) (mi := 29) (vs := [.ref 34, .int v1, .int v2]) (k' := 27) (L' := [some (.ref 0), some (.int v1), some (.int v2), some (.int v3), some (.int v4), some (.int s0)]) (S' := []) 5 (fun P9 h9 => c_PrimeGroup_renew (d + 3) v1 v2 (s_b σ 0 15 false) (by rw [← hx7]; exact h9)) (fun n h => h) ?_
    exact t_X_become_b27 d _ v1 v2 v3 v4 x7 h hp
def f_X_become_b15 (N : Nat) (v1 : Int32) (v2 : Int32) (v3 : Int32) (v4 : Int32) (σ : aSt) : Option (Int32 × aSt) :=
  f_X_become_b16 N v1 v2 v3 v4 (0 : Int32) σ
set_option maxRecDepth 20000 in
set_option maxHeartbeats 4000000 in
theorem t_X_become_b15 (d : Nat) {N : Nat} (d5 : Option Value) (v1 : Int32) (v2 : Int32) (v3 : Int32) (v4 : Int32) (σ : aSt) {P : Option Value → aSt → Prop} {x : (Int32 × aSt)} (h : f_X_become_b15 N v1 v2 v3 v4 σ = some x) (hp : P (some (.int x.1)) x.2) : aGo (aCall MT (d + 5)) P mc_X_become 15 [some (.ref 0), some (.int v1), some (.int v2), some (.int v3), some (.int v4), d5] [] σ := by
  unfold f_X_become_b15 at h
  refine go_st (k' := 16) (L' := [some (.ref 0), some (.int v1), some (.int v2), some (.int v3), some (.int v4), d5]) (S' := [.int (0 : Int32)]) (σ' := σ) 1 (fun n h => h) ?_
  exact t_X_become_b16 d _ v1 v2 v3 v4 (0 : Int32) σ h hp
def f_X_become (N : Nat) (p0 : Int32) (p1 : Int32) (p2 : Int32) (p3 : Int32) (σ : aSt) : Option (Int32 × aSt) :=
  (if (σ.2.2 0 13) = true then (if p0 ≠ (f_PointList_a_11 σ) then f_X_become_b15 N p0 p1 p2 p3 σ else (if p1 ≠ (f_PointList_b_11 σ) then f_X_become_b15 N p0 p1 p2 p3 σ else f_X_become_b16 N p0 p1 p2 p3 (1 : Int32) σ)) else f_X_become_b15 N p0 p1 p2 p3 σ)
set_option maxRecDepth 20000 in
set_option maxHeartbeats 4000000 in
theorem c_X_become (d : Nat) {N : Nat} (p0 : Int32) (p1 : Int32) (p2 : Int32) (p3 : Int32) (σ : aSt) {P : Option Value → aSt → Prop} {x : (Int32 × aSt)} (h : f_X_become N p0 p1 p2 p3 σ = some x) (hp : P (some (.int x.1)) x.2) : aCall MT (d + 6) 45 [.ref 0, .int p0, .int p1, .int p2, .int p3] σ P := by
  unfold f_X_become at h
  refine call_of (code := mc_X_become) (L := [some (.ref 0), some (.int p0), some (.int p1), some (.int p2), some (.int p3), none]) rfl rfl rfl rfl ?_
  refine go_ifz (b := (σ.2.2 0 13)) (k1 := 15) (L1 := [some (.ref 0), some (.int p0), some (.int p1), some (.int p2), some (.int p3), none]) (S1 := []) (σ1 := σ) (k2 := 3) (L2 := [some (.ref 0), some (.int p0), some (.int p1), some (.int p2), some (.int p3), none]) (S2 := []) (σ2 := σ) 3 (fun n h => h) (fun hc1 => ?_) (fun hc1 => ?_)
  · rw [if_neg hc1] at h
    exact t_X_become_b15 d _ p0 p1 p2 p3 σ h hp
  · rw [if_pos hc1] at h
    refine go_call (r := some (.int (f_PointList_a_11 σ))) (σc := σ) (σ1 := σ) (mi := 26) (vs := [.ref 11]) (k' := 7) (L' := [some (.ref 0), some (.int p0), some (.int p1), some (.int p2), some (.int p3), none]) (S' := [.int p0]) 4 (fun P9 h9 => c_PointList_a_11 (d + 4) σ h9) (fun n h => h) ?_
    refine go_if (c := p0 ≠ (f_PointList_a_11 σ)) (k1 := 15) (L1 := [some (.ref 0), some (.int p0), some (.int p1), some (.int p2), some (.int p3), none]) (S1 := []) (σ1 := σ) (k2 := 8) (L2 := [some (.ref 0), some (.int p0), some (.int p1), some (.int p2), some (.int p3), none]) (S2 := []) (σ2 := σ) 1 (fun n h => h) (fun hc2 => ?_) (fun hc2 => ?_)
    · rw [if_pos hc2] at h
      exact t_X_become_b15 d _ p0 p1 p2 p3 σ h hp
    · rw [if_neg hc2] at h
      refine go_call (r := some (.int (f_PointList_b_11 σ))) (σc := σ) (σ1 := σ) (mi := 27) (vs := [.ref 11]) (k' := 12) (L' := [some (.ref 0), some (.int p0), some (.int p1), some (.int p2), some (.int p3), none]) (S' := [.int p1]) 4 (fun P9 h9 => c_PointList_b_11 (d + 4) σ h9) (fun n h => h) ?_
      refine go_if (c := p1 ≠ (f_PointList_b_11 σ)) (k1 := 15) (L1 := [some (.ref 0), some (.int p0), some (.int p1), some (.int p2), some (.int p3), none]) (S1 := []) (σ1 := σ) (k2 := 13) (L2 := [some (.ref 0), some (.int p0), some (.int p1), some (.int p2), some (.int p3), none]) (S2 := []) (σ2 := σ) 1 (fun n h => h) (fun hc8 => ?_) (fun hc8 => ?_)
      · rw [if_pos hc8] at h
        exact t_X_become_b15 d _ p0 p1 p2 p3 σ h hp
      · rw [if_neg hc8] at h
        refine go_st (k' := 16) (L' := [some (.ref 0), some (.int p0), some (.int p1), some (.int p2), some (.int p3), none]) (S' := [.int (1 : Int32)]) (σ' := σ) 2 (fun n h => h) ?_
        exact t_X_become_b16 d _ p0 p1 p2 p3 (1 : Int32) σ h hp
def f_X_curve (N : Nat) (σ : aSt) : Option (Int32 × aSt) :=
  ((f_Reader_readCurve N σ).bind fun x1 => (lt (f_Reader_cut (0 : Int32) x1.2) fun x2 => (if x1.1 = true then (lt (f_History_clear x2) fun x4 => ((f_X_become N (f_Reader_number (0 : Int32) x4) (f_Reader_number (1 : Int32) x4) (f_Reader_number (2 : Int32) x4) (f_Reader_number (3 : Int32) x4) x4).bind fun x5 => some (x5.1, x5.2))) else some ((-4 : Int32), x2))))
set_option maxRecDepth 20000 in
set_option maxHeartbeats 4000000 in
theorem c_X_curve (d : Nat) {N : Nat} (σ : aSt) {P : Option Value → aSt → Prop} {x : (Int32 × aSt)} (h : f_X_curve N σ = some x) (hp : P (some (.int x.1)) x.2) : aCall MT (d + 7) 46 [.ref 0] σ P := by
  unfold f_X_curve at h
  refine call_of (code := mc_X_curve) (L := [some (.ref 0), none]) rfl rfl rfl rfl ?_
  obtain ⟨x1, hx1, h⟩ := bind_of h
  refine go_call (r := some (.int (b2i x1.1))) (σc := σ) (σ1 := x1.2) (mi := 24) (vs := [.ref 1]) (k' := 3) (L' := [some (.ref 0), none]) (S' := []) 3 (fun P9 h9 => c_Reader_readCurve (d + 0) σ hx1 h9) (fun n h => h) ?_
  obtain ⟨x2, hx2, h⟩ := lt_of h
  refine go_call (r := none) (σc := x1.2) (σ1 := x2) (mi := 5) (vs := [.ref 1, .int (0 : Int32)]) (k' := 8) (L' := [some (.ref 0), some (.int (b2i x1.1))]) (S' := []) 5 (fun P9 h9 => c_Reader_cut (d + 5) (0 : Int32) x1.2 (by rw [← hx2]; exact h9)) (fun n h => h) ?_
  refine go_ifn (b := x1.1) (k1 := 12) (L1 := [some (.ref 0), some (.int (b2i x1.1))]) (S1 := []) (σ1 := x2) (k2 := 10) (L2 := [some (.ref 0), some (.int (b2i x1.1))]) (S2 := []) (σ2 := x2) 2 (fun n h => h) (fun hc3 => ?_) (fun hc3 => ?_)
  · rw [if_pos hc3] at h
    obtain ⟨x4, hx4, h⟩ := lt_of h
    refine go_call (r := none) (σc := x2) (σ1 := x4) (mi := 25) (vs := [.ref 6]) (k' := 15) (L' := [some (.ref 0), some (.int (b2i x1.1))]) (S' := []) 3 (fun P9 h9 => c_History_clear (d + 5) x2 (by rw [← hx4]; exact h9)) (fun n h => h) ?_
    refine go_call (r := some (.int (f_Reader_number (0 : Int32) x4))) (σc := x4) (σ1 := x4) (mi := 19) (vs := [.ref 1, .int (0 : Int32)]) (k' := 20) (L' := [some (.ref 0), some (.int (b2i x1.1))]) (S' := [.ref 0]) 5 (fun P9 h9 => c_Reader_number (d + 4) (0 : Int32) x4 h9) (fun n h => h) ?_
    refine go_call (r := some (.int (f_Reader_number (1 : Int32) x4))) (σc := x4) (σ1 := x4) (mi := 19) (vs := [.ref 1, .int (1 : Int32)]) (k' := 24) (L' := [some (.ref 0), some (.int (b2i x1.1))]) (S' := [.int (f_Reader_number (0 : Int32) x4), .ref 0]) 4 (fun P9 h9 => c_Reader_number (d + 4) (1 : Int32) x4 h9) (fun n h => h) ?_
    refine go_call (r := some (.int (f_Reader_number (2 : Int32) x4))) (σc := x4) (σ1 := x4) (mi := 19) (vs := [.ref 1, .int (2 : Int32)]) (k' := 28) (L' := [some (.ref 0), some (.int (b2i x1.1))]) (S' := [.int (f_Reader_number (1 : Int32) x4), .int (f_Reader_number (0 : Int32) x4), .ref 0]) 4 (fun P9 h9 => c_Reader_number (d + 4) (2 : Int32) x4 h9) (fun n h => h) ?_
    refine go_call (r := some (.int (f_Reader_number (3 : Int32) x4))) (σc := x4) (σ1 := x4) (mi := 19) (vs := [.ref 1, .int (3 : Int32)]) (k' := 32) (L' := [some (.ref 0), some (.int (b2i x1.1))]) (S' := [.int (f_Reader_number (2 : Int32) x4), .int (f_Reader_number (1 : Int32) x4), .int (f_Reader_number (0 : Int32) x4), .ref 0]) 4 (fun P9 h9 => c_Reader_number (d + 4) (3 : Int32) x4 h9) (fun n h => h) ?_
    obtain ⟨x5, hx5, h⟩ := bind_of h
    refine go_call (r := some (.int x5.1)) (σc := x4) (σ1 := x5.2) (mi := 45) (vs := [.ref 0, .int (f_Reader_number (0 : Int32) x4), .int (f_Reader_number (1 : Int32) x4), .int (f_Reader_number (2 : Int32) x4), .int (f_Reader_number (3 : Int32) x4)]) (k' := 33) (L' := [some (.ref 0), some (.int (b2i x1.1))]) (S' := []) 1 (fun P9 h9 => c_X_become (d + 0) (f_Reader_number (0 : Int32) x4) (f_Reader_number (1 : Int32) x4) (f_Reader_number (2 : Int32) x4) (f_Reader_number (3 : Int32) x4) x4 hx5 h9) (fun n h => h) ?_
    cases h
    exact go_ret 1 (fun _ => hp)
  · rw [if_neg hc3] at h
    cases h
    exact go_ret 2 (fun _ => hp)
def f_Reader_faultPlace (σ : aSt) : Int32 :=
  (σ.1 1 8)
set_option maxRecDepth 20000 in
set_option maxHeartbeats 4000000 in
theorem c_Reader_faultPlace (d : Nat) (σ : aSt) {P : Option Value → aSt → Prop} (h : P (some (.int ((f_Reader_faultPlace σ)))) σ) : aCall MT (d + 1) 65 [.ref 1] σ P := by
  unfold f_Reader_faultPlace at h
  refine call_of (code := mc_Reader_faultPlace) (L := [some (.ref 1)]) rfl rfl rfl rfl ?_
  exact go_ret 3 (fun _ => h)
def f_Reader_faultNumber (σ : aSt) : Int32 :=
  (σ.1 1 7)
set_option maxRecDepth 20000 in
set_option maxHeartbeats 4000000 in
theorem c_Reader_faultNumber (d : Nat) (σ : aSt) {P : Option Value → aSt → Prop} (h : P (some (.int ((f_Reader_faultNumber σ)))) σ) : aCall MT (d + 1) 64 [.ref 1] σ P := by
  unfold f_Reader_faultNumber at h
  refine call_of (code := mc_Reader_faultNumber) (L := [some (.ref 1)]) rfl rfl rfl rfl ?_
  exact go_ret 3 (fun _ => h)
def f_X_fault (p0 : Int32) (σ : aSt) : Int32 :=
  (if p0 ≠ 0 then (if p0 ≠ (1 : Int32) then (-1 : Int32) else (f_Reader_faultPlace σ)) else (f_Reader_faultNumber σ))
set_option maxRecDepth 20000 in
set_option maxHeartbeats 4000000 in
theorem c_X_fault (d : Nat) (p0 : Int32) (σ : aSt) {P : Option Value → aSt → Prop} (h : P (some (.int ((f_X_fault p0 σ)))) σ) : aCall MT (d + 2) 66 [.ref 0, .int p0] σ P := by
  unfold f_X_fault at h
  refine call_of (code := mc_X_fault) (L := [some (.ref 0), some (.int p0)]) rfl rfl rfl rfl ?_
  refine go_if (c := p0 ≠ 0) (k1 := 6) (L1 := [some (.ref 0), some (.int p0)]) (S1 := []) (σ1 := σ) (k2 := 2) (L2 := [some (.ref 0), some (.int p0)]) (S2 := []) (σ2 := σ) 2 (fun n h => h) (fun hc1 => ?_) (fun hc1 => ?_)
  · rw [if_pos hc1] at h
    refine go_if (c := p0 ≠ (1 : Int32)) (k1 := 13) (L1 := [some (.ref 0), some (.int p0)]) (S1 := []) (σ1 := σ) (k2 := 9) (L2 := [some (.ref 0), some (.int p0)]) (S2 := []) (σ2 := σ) 3 (fun n h => h) (fun hc2 => ?_) (fun hc2 => ?_)
    · rw [if_pos hc2] at h
      exact go_ret 2 (fun _ => h)
    · rw [if_neg hc2] at h
      refine go_call (r := some (.int (f_Reader_faultPlace σ))) (σc := σ) (σ1 := σ) (mi := 65) (vs := [.ref 1]) (k' := 12) (L' := [some (.ref 0), some (.int p0)]) (S' := []) 3 (fun P9 h9 => c_Reader_faultPlace (d + 0) σ h9) (fun n h => h) ?_
      exact go_ret 2 (fun _ => h)
  · rw [if_neg hc1] at h
    refine go_call (r := some (.int (f_Reader_faultNumber σ))) (σc := σ) (σ1 := σ) (mi := 64) (vs := [.ref 1]) (k' := 5) (L' := [some (.ref 0), some (.int p0)]) (S' := []) 3 (fun P9 h9 => c_Reader_faultNumber (d + 0) σ h9) (fun n h => h) ?_
    exact go_ret 1 (fun _ => h)
def f_PointList_most_11 (σ : aSt) : Int32 :=
  (σ.1 11 8)
set_option maxRecDepth 20000 in
set_option maxHeartbeats 4000000 in
theorem c_PointList_most_11 (d : Nat) (σ : aSt) {P : Option Value → aSt → Prop} (h : P (some (.int ((f_PointList_most_11 σ)))) σ) : aCall MT (d + 1) 69 [.ref 11] σ P := by
  unfold f_PointList_most_11 at h
  refine call_of (code := mc_PointList_most) (L := [some (.ref 11)]) rfl rfl rfl rfl ?_
  exact go_ret 3 (fun _ => h)
def f_PointList_deepest_11 (σ : aSt) : Int32 :=
  (σ.1 11 9)
set_option maxRecDepth 20000 in
set_option maxHeartbeats 4000000 in
theorem c_PointList_deepest_11 (d : Nat) (σ : aSt) {P : Option Value → aSt → Prop} (h : P (some (.int ((f_PointList_deepest_11 σ)))) σ) : aCall MT (d + 1) 70 [.ref 11] σ P := by
  unfold f_PointList_deepest_11 at h
  refine call_of (code := mc_PointList_deepest) (L := [some (.ref 11)]) rfl rfl rfl rfl ?_
  exact go_ret 3 (fun _ => h)
def f_Told_length (σ : aSt) : Int32 :=
  (σ.1 4 1)
set_option maxRecDepth 20000 in
set_option maxHeartbeats 4000000 in
theorem c_Told_length (d : Nat) (σ : aSt) {P : Option Value → aSt → Prop} (h : P (some (.int ((f_Told_length σ)))) σ) : aCall MT (d + 1) 68 [.ref 4] σ P := by
  unfold f_Told_length at h
  refine call_of (code := mc_Told_length) (L := [some (.ref 4)]) rfl rfl rfl rfl ?_
  exact go_ret 3 (fun _ => h)
def f_X_count (p0 : Int32) (σ : aSt) : Int64 :=
  (if p0 ≠ (4 : Int32) then (if p0 ≠ (5 : Int32) then (if p0 ≠ (6 : Int32) then (if (σ.2.2 0 13) = true then (if p0 = (0 : Int32) then (f_PointList_a_11 σ).toInt64 else (if p0 = (1 : Int32) then (f_PointList_b_11 σ).toInt64 else (if p0 = (2 : Int32) then (f_PointList_most_11 σ).toInt64 else (if p0 = (3 : Int32) then (f_PointList_deepest_11 σ).toInt64 else (-9223372036854775808 : Int64))))) else (-9223372036854775808 : Int64)) else (f_Told_length σ).toInt64) else (f_Reader_length σ).toInt64) else (f_PointList_shown_11 σ).toInt64)
set_option maxRecDepth 20000 in
set_option maxHeartbeats 4000000 in
theorem c_X_count (d : Nat) (p0 : Int32) (σ : aSt) {P : Option Value → aSt → Prop} (h : P (some (.long ((f_X_count p0 σ)))) σ) : aCall MT (d + 2) 71 [.ref 0, .int p0] σ P := by
  unfold f_X_count at h
  refine call_of (code := mc_X_count) (L := [some (.ref 0), some (.int p0)]) rfl rfl rfl rfl ?_
  refine go_if (c := p0 ≠ (4 : Int32)) (k1 := 8) (L1 := [some (.ref 0), some (.int p0)]) (S1 := []) (σ1 := σ) (k2 := 3) (L2 := [some (.ref 0), some (.int p0)]) (S2 := []) (σ2 := σ) 3 (fun n h => h) (fun hc1 => ?_) (fun hc1 => ?_)
  · rw [if_pos hc1] at h
    refine go_if (c := p0 ≠ (5 : Int32)) (k1 := 16) (L1 := [some (.ref 0), some (.int p0)]) (S1 := []) (σ1 := σ) (k2 := 11) (L2 := [some (.ref 0), some (.int p0)]) (S2 := []) (σ2 := σ) 3 (fun n h => h) (fun hc2 => ?_) (fun hc2 => ?_)
    · rw [if_pos hc2] at h
      refine go_if (c := p0 ≠ (6 : Int32)) (k1 := 24) (L1 := [some (.ref 0), some (.int p0)]) (S1 := []) (σ1 := σ) (k2 := 19) (L2 := [some (.ref 0), some (.int p0)]) (S2 := []) (σ2 := σ) 3 (fun n h => h) (fun hc3 => ?_) (fun hc3 => ?_)
      · rw [if_pos hc3] at h
        refine go_ifn (b := (σ.2.2 0 13)) (k1 := 29) (L1 := [some (.ref 0), some (.int p0)]) (S1 := []) (σ1 := σ) (k2 := 27) (L2 := [some (.ref 0), some (.int p0)]) (S2 := []) (σ2 := σ) 3 (fun n h => h) (fun hc4 => ?_) (fun hc4 => ?_)
        · rw [if_pos hc4] at h
          refine go_sw (L' := [some (.ref 0), some (.int p0)]) (S' := []) (σ' := σ) 2 (fun n h => h) ?_
          refine tsw_cons (fun hc5 => ?_) (fun hc5 => ?_)
          · rw [if_pos (show p0 = (0 : Int32) from hc5)] at h
            refine go_call (r := some (.int (f_PointList_a_11 σ))) (σc := σ) (σ1 := σ) (mi := 26) (vs := [.ref 11]) (k' := 34) (L' := [some (.ref 0), some (.int p0)]) (S' := []) 3 (fun P9 h9 => c_PointList_a_11 (d + 0) σ h9) (fun n h => h) ?_
            exact go_ret 2 (fun _ => h)
          · rw [if_neg (show ¬ p0 = (0 : Int32) from hc5)] at h
            refine tsw_cons (fun hc6 => ?_) (fun hc6 => ?_)
            · rw [if_pos (show p0 = (1 : Int32) from hc6)] at h
              refine go_call (r := some (.int (f_PointList_b_11 σ))) (σc := σ) (σ1 := σ) (mi := 27) (vs := [.ref 11]) (k' := 39) (L' := [some (.ref 0), some (.int p0)]) (S' := []) 3 (fun P9 h9 => c_PointList_b_11 (d + 0) σ h9) (fun n h => h) ?_
              exact go_ret 2 (fun _ => h)
            · rw [if_neg (show ¬ p0 = (1 : Int32) from hc6)] at h
              refine tsw_cons (fun hc7 => ?_) (fun hc7 => ?_)
              · rw [if_pos (show p0 = (2 : Int32) from hc7)] at h
                refine go_call (r := some (.int (f_PointList_most_11 σ))) (σc := σ) (σ1 := σ) (mi := 69) (vs := [.ref 11]) (k' := 44) (L' := [some (.ref 0), some (.int p0)]) (S' := []) 3 (fun P9 h9 => c_PointList_most_11 (d + 0) σ h9) (fun n h => h) ?_
                exact go_ret 2 (fun _ => h)
              · rw [if_neg (show ¬ p0 = (2 : Int32) from hc7)] at h
                refine tsw_cons (fun hc8 => ?_) (fun hc8 => ?_)
                · rw [if_pos (show p0 = (3 : Int32) from hc8)] at h
                  refine go_call (r := some (.int (f_PointList_deepest_11 σ))) (σc := σ) (σ1 := σ) (mi := 70) (vs := [.ref 11]) (k' := 49) (L' := [some (.ref 0), some (.int p0)]) (S' := []) 3 (fun P9 h9 => c_PointList_deepest_11 (d + 0) σ h9) (fun n h => h) ?_
                  exact go_ret 2 (fun _ => h)
                · rw [if_neg (show ¬ p0 = (3 : Int32) from hc8)] at h
                  refine tsw_nil ?_
                  exact go_ret 2 (fun _ => h)
        · rw [if_neg hc4] at h
          exact go_ret 2 (fun _ => h)
      · rw [if_neg hc3] at h
        refine go_call (r := some (.int (f_Told_length σ))) (σc := σ) (σ1 := σ) (mi := 68) (vs := [.ref 4]) (k' := 22) (L' := [some (.ref 0), some (.int p0)]) (S' := []) 3 (fun P9 h9 => c_Told_length (d + 0) σ h9) (fun n h => h) ?_
        exact go_ret 2 (fun _ => h)
    · rw [if_neg hc2] at h
      refine go_call (r := some (.int (f_Reader_length σ))) (σc := σ) (σ1 := σ) (mi := 0) (vs := [.ref 1]) (k' := 14) (L' := [some (.ref 0), some (.int p0)]) (S' := []) 3 (fun P9 h9 => c_Reader_length (d + 0) σ h9) (fun n h => h) ?_
      exact go_ret 2 (fun _ => h)
  · rw [if_neg hc1] at h
    refine go_call (r := some (.int (f_PointList_shown_11 σ))) (σc := σ) (σ1 := σ) (mi := 44) (vs := [.ref 11]) (k' := 6) (L' := [some (.ref 0), some (.int p0)]) (S' := []) 3 (fun P9 h9 => c_PointList_shown_11 (d + 0) σ h9) (fun n h => h) ?_
    exact go_ret 2 (fun _ => h)
def f_X_isListed (p0 : Int32) (σ : aSt) : Bool :=
  (if (σ.2.2 0 13) = true then (if p0 < 0 then false else (if (f_PointList_shown_11 σ) ≤ p0 then false else true)) else false)
set_option maxRecDepth 20000 in
set_option maxHeartbeats 4000000 in
theorem c_X_isListed (d : Nat) (p0 : Int32) (σ : aSt) {P : Option Value → aSt → Prop} (h : P (some (.int (b2i ((f_X_isListed p0 σ))))) σ) : aCall MT (d + 2) 73 [.ref 0, .int p0] σ P := by
  unfold f_X_isListed at h
  refine call_of (code := mc_X_isListed) (L := [some (.ref 0), some (.int p0)]) rfl rfl rfl rfl ?_
  refine go_ifz (b := (σ.2.2 0 13)) (k1 := 12) (L1 := [some (.ref 0), some (.int p0)]) (S1 := []) (σ1 := σ) (k2 := 3) (L2 := [some (.ref 0), some (.int p0)]) (S2 := []) (σ2 := σ) 3 (fun n h => h) (fun hc1 => ?_) (fun hc1 => ?_)
  · rw [if_neg hc1] at h
    exact go_ret 2 (fun _ => And.intro (Or.inl rfl) h)
  · rw [if_pos hc1] at h
    refine go_if (c := p0 < 0) (k1 := 12) (L1 := [some (.ref 0), some (.int p0)]) (S1 := []) (σ1 := σ) (k2 := 5) (L2 := [some (.ref 0), some (.int p0)]) (S2 := []) (σ2 := σ) 2 (fun n h => h) (fun hc2 => ?_) (fun hc2 => ?_)
    · rw [if_pos hc2] at h
      exact go_ret 2 (fun _ => And.intro (Or.inl rfl) h)
    · rw [if_neg hc2] at h
      refine go_call (r := some (.int (f_PointList_shown_11 σ))) (σc := σ) (σ1 := σ) (mi := 44) (vs := [.ref 11]) (k' := 9) (L' := [some (.ref 0), some (.int p0)]) (S' := [.int p0]) 4 (fun P9 h9 => c_PointList_shown_11 (d + 0) σ h9) (fun n h => h) ?_
      refine go_if (c := (f_PointList_shown_11 σ) ≤ p0) (k1 := 12) (L1 := [some (.ref 0), some (.int p0)]) (S1 := []) (σ1 := σ) (k2 := 10) (L2 := [some (.ref 0), some (.int p0)]) (S2 := []) (σ2 := σ) 1 (fun n h => h) (fun hc3 => ?_) (fun hc3 => ?_)
      · rw [if_pos hc3] at h
        exact go_ret 2 (fun _ => And.intro (Or.inl rfl) h)
      · rw [if_neg hc3] at h
        exact go_ret 3 (fun _ => And.intro (Or.inr rfl) h)
def f_PointList_m_11 (p0 : Int32) (σ : aSt) : Int32 :=
  (if p0 < 0 then (0 : Int32) else (if (121 : Int32) ≤ p0 then (0 : Int32) else (σ.1 12 p0.toNatClampNeg)))
set_option maxRecDepth 20000 in
set_option maxHeartbeats 4000000 in
theorem c_PointList_m_11 (d : Nat) (p0 : Int32) (σ : aSt) {P : Option Value → aSt → Prop} (h : P (some (.int ((f_PointList_m_11 p0 σ)))) σ) : aCall MT (d + 1) 74 [.ref 11, .int p0] σ P := by
  unfold f_PointList_m_11 at h
  refine call_of (code := mc_PointList_m) (L := [some (.ref 11), some (.int p0)]) rfl rfl rfl rfl ?_
  refine go_if (c := p0 < 0) (k1 := 12) (L1 := [some (.ref 11), some (.int p0)]) (S1 := []) (σ1 := σ) (k2 := 2) (L2 := [some (.ref 11), some (.int p0)]) (S2 := []) (σ2 := σ) 2 (fun n h => h) (fun hc1 => ?_) (fun hc1 => ?_)
  · rw [if_pos hc1] at h
    exact go_ret 2 (fun _ => h)
  · rw [if_neg hc1] at h
    refine go_if (c := (121 : Int32) ≤ p0) (k1 := 12) (L1 := [some (.ref 11), some (.int p0)]) (S1 := []) (σ1 := σ) (k2 := 7) (L2 := [some (.ref 11), some (.int p0)]) (S2 := []) (σ2 := σ) 5 (fun n h => h) (fun hc2 => ?_) (fun hc2 => ?_)
    · rw [if_pos hc2] at h
      exact go_ret 2 (fun _ => h)
    · rw [if_neg hc2] at h
      refine go_q (Q := inb 0 σ 12 p0) (k' := 11) (L' := [some (.ref 11), some (.int p0)]) (S' := [.int (σ.1 12 p0.toNatClampNeg)]) (σ' := σ) 4 (inb_mk rfl (Int32.not_lt.mp hc1) (Int32.not_le.mp hc2)) (fun n h => h) ?_
      exact go_ret 2 (fun _ => h)
def f_PointList_n_11 (p0 : Int32) (σ : aSt) : Int32 :=
  (if p0 < 0 then (0 : Int32) else (if (121 : Int32) ≤ p0 then (0 : Int32) else (σ.1 13 p0.toNatClampNeg)))
set_option maxRecDepth 20000 in
set_option maxHeartbeats 4000000 in
theorem c_PointList_n_11 (d : Nat) (p0 : Int32) (σ : aSt) {P : Option Value → aSt → Prop} (h : P (some (.int ((f_PointList_n_11 p0 σ)))) σ) : aCall MT (d + 1) 75 [.ref 11, .int p0] σ P := by
  unfold f_PointList_n_11 at h
  refine call_of (code := mc_PointList_n) (L := [some (.ref 11), some (.int p0)]) rfl rfl rfl rfl ?_
  refine go_if (c := p0 < 0) (k1 := 12) (L1 := [some (.ref 11), some (.int p0)]) (S1 := []) (σ1 := σ) (k2 := 2) (L2 := [some (.ref 11), some (.int p0)]) (S2 := []) (σ2 := σ) 2 (fun n h => h) (fun hc1 => ?_) (fun hc1 => ?_)
  · rw [if_pos hc1] at h
    exact go_ret 2 (fun _ => h)
  · rw [if_neg hc1] at h
    refine go_if (c := (121 : Int32) ≤ p0) (k1 := 12) (L1 := [some (.ref 11), some (.int p0)]) (S1 := []) (σ1 := σ) (k2 := 7) (L2 := [some (.ref 11), some (.int p0)]) (S2 := []) (σ2 := σ) 5 (fun n h => h) (fun hc2 => ?_) (fun hc2 => ?_)
    · rw [if_pos hc2] at h
      exact go_ret 2 (fun _ => h)
    · rw [if_neg hc2] at h
      refine go_q (Q := inb 0 σ 13 p0) (k' := 11) (L' := [some (.ref 11), some (.int p0)]) (S' := [.int (σ.1 13 p0.toNatClampNeg)]) (σ' := σ) 4 (inb_mk rfl (Int32.not_lt.mp hc1) (Int32.not_le.mp hc2)) (fun n h => h) ?_
      exact go_ret 2 (fun _ => h)
def f_PointList_e_11 (p0 : Int32) (σ : aSt) : Int32 :=
  (if p0 < 0 then (0 : Int32) else (if (121 : Int32) ≤ p0 then (0 : Int32) else (σ.1 14 p0.toNatClampNeg)))
set_option maxRecDepth 20000 in
set_option maxHeartbeats 4000000 in
theorem c_PointList_e_11 (d : Nat) (p0 : Int32) (σ : aSt) {P : Option Value → aSt → Prop} (h : P (some (.int ((f_PointList_e_11 p0 σ)))) σ) : aCall MT (d + 1) 76 [.ref 11, .int p0] σ P := by
  unfold f_PointList_e_11 at h
  refine call_of (code := mc_PointList_e) (L := [some (.ref 11), some (.int p0)]) rfl rfl rfl rfl ?_
  refine go_if (c := p0 < 0) (k1 := 12) (L1 := [some (.ref 11), some (.int p0)]) (S1 := []) (σ1 := σ) (k2 := 2) (L2 := [some (.ref 11), some (.int p0)]) (S2 := []) (σ2 := σ) 2 (fun n h => h) (fun hc1 => ?_) (fun hc1 => ?_)
  · rw [if_pos hc1] at h
    exact go_ret 2 (fun _ => h)
  · rw [if_neg hc1] at h
    refine go_if (c := (121 : Int32) ≤ p0) (k1 := 12) (L1 := [some (.ref 11), some (.int p0)]) (S1 := []) (σ1 := σ) (k2 := 7) (L2 := [some (.ref 11), some (.int p0)]) (S2 := []) (σ2 := σ) 5 (fun n h => h) (fun hc2 => ?_) (fun hc2 => ?_)
    · rw [if_pos hc2] at h
      exact go_ret 2 (fun _ => h)
    · rw [if_neg hc2] at h
      refine go_q (Q := inb 0 σ 14 p0) (k' := 11) (L' := [some (.ref 11), some (.int p0)]) (S' := [.int (σ.1 14 p0.toNatClampNeg)]) (σ' := σ) 4 (inb_mk rfl (Int32.not_lt.mp hc1) (Int32.not_le.mp hc2)) (fun n h => h) ?_
      exact go_ret 2 (fun _ => h)
def f_PointList_coordinate_11 (p0 : Int32) (p1 : Int32) (σ : aSt) : Int64 :=
  (if p1 = (0 : Int32) then (f_PointList_m_11 p0 σ).toInt64 else (if p1 = (1 : Int32) then (f_PointList_n_11 p0 σ).toInt64 else (if p1 = (2 : Int32) then (f_PointList_e_11 p0 σ).toInt64 else (-9223372036854775808 : Int64))))
set_option maxRecDepth 20000 in
set_option maxHeartbeats 4000000 in
theorem c_PointList_coordinate_11 (d : Nat) (p0 : Int32) (p1 : Int32) (σ : aSt) {P : Option Value → aSt → Prop} (h : P (some (.long ((f_PointList_coordinate_11 p0 p1 σ)))) σ) : aCall MT (d + 2) 77 [.ref 11, .int p0, .int p1] σ P := by
  unfold f_PointList_coordinate_11 at h
  refine call_of (code := mc_PointList_coordinate) (L := [some (.ref 11), some (.int p0), some (.int p1)]) rfl rfl rfl rfl ?_
  refine go_sw (L' := [some (.ref 11), some (.int p0), some (.int p1)]) (S' := []) (σ' := σ) 2 (fun n h => h) ?_
  refine tsw_cons (fun hc1 => ?_) (fun hc1 => ?_)
  · rw [if_pos (show p1 = (0 : Int32) from hc1)] at h
    refine go_call (r := some (.int (f_PointList_m_11 p0 σ))) (σc := σ) (σ1 := σ) (mi := 74) (vs := [.ref 11, .int p0]) (k' := 5) (L' := [some (.ref 11), some (.int p0), some (.int p1)]) (S' := []) 3 (fun P9 h9 => c_PointList_m_11 (d + 0) p0 σ h9) (fun n h => h) ?_
    exact go_ret 2 (fun _ => h)
  · rw [if_neg (show ¬ p1 = (0 : Int32) from hc1)] at h
    refine tsw_cons (fun hc2 => ?_) (fun hc2 => ?_)
    · rw [if_pos (show p1 = (1 : Int32) from hc2)] at h
      refine go_call (r := some (.int (f_PointList_n_11 p0 σ))) (σc := σ) (σ1 := σ) (mi := 75) (vs := [.ref 11, .int p0]) (k' := 10) (L' := [some (.ref 11), some (.int p0), some (.int p1)]) (S' := []) 3 (fun P9 h9 => c_PointList_n_11 (d + 0) p0 σ h9) (fun n h => h) ?_
      exact go_ret 2 (fun _ => h)
    · rw [if_neg (show ¬ p1 = (1 : Int32) from hc2)] at h
      refine tsw_cons (fun hc3 => ?_) (fun hc3 => ?_)
      · rw [if_pos (show p1 = (2 : Int32) from hc3)] at h
        refine go_call (r := some (.int (f_PointList_e_11 p0 σ))) (σc := σ) (σ1 := σ) (mi := 76) (vs := [.ref 11, .int p0]) (k' := 15) (L' := [some (.ref 11), some (.int p0), some (.int p1)]) (S' := []) 3 (fun P9 h9 => c_PointList_e_11 (d + 0) p0 σ h9) (fun n h => h) ?_
        exact go_ret 2 (fun _ => h)
      · rw [if_neg (show ¬ p1 = (2 : Int32) from hc3)] at h
        refine tsw_nil ?_
        exact go_ret 2 (fun _ => h)
def f_X_point (p0 : Int32) (p1 : Int32) (σ : aSt) : Int64 :=
  (if (f_X_isListed p0 σ) = true then (f_PointList_coordinate_11 p0 p1 σ) else (-9223372036854775808 : Int64))
set_option maxRecDepth 20000 in
set_option maxHeartbeats 4000000 in
theorem c_X_point (d : Nat) (p0 : Int32) (p1 : Int32) (σ : aSt) {P : Option Value → aSt → Prop} (h : P (some (.long ((f_X_point p0 p1 σ)))) σ) : aCall MT (d + 3) 78 [.ref 0, .int p0, .int p1] σ P := by
  unfold f_X_point at h
  refine call_of (code := mc_X_point) (L := [some (.ref 0), some (.int p0), some (.int p1)]) rfl rfl rfl rfl ?_
  refine go_call (r := some (.int (b2i (f_X_isListed p0 σ)))) (σc := σ) (σ1 := σ) (mi := 73) (vs := [.ref 0, .int p0]) (k' := 3) (L' := [some (.ref 0), some (.int p0), some (.int p1)]) (S' := []) 3 (fun P9 h9 => c_X_isListed (d + 0) p0 σ h9) (fun n h => h) ?_
  refine go_ifz (b := (f_X_isListed p0 σ)) (k1 := 10) (L1 := [some (.ref 0), some (.int p0), some (.int p1)]) (S1 := []) (σ1 := σ) (k2 := 4) (L2 := [some (.ref 0), some (.int p0), some (.int p1)]) (S2 := []) (σ2 := σ) 1 (fun n h => h) (fun hc1 => ?_) (fun hc1 => ?_)
  · rw [if_neg hc1] at h
    exact go_ret 2 (fun _ => h)
  · rw [if_pos hc1] at h
    refine go_call (r := some (.long (f_PointList_coordinate_11 p0 p1 σ))) (σc := σ) (σ1 := σ) (mi := 77) (vs := [.ref 11, .int p0, .int p1]) (k' := 9) (L' := [some (.ref 0), some (.int p0), some (.int p1)]) (S' := []) 5 (fun P9 h9 => c_PointList_coordinate_11 (d + 0) p0 p1 σ h9) (fun n h => h) ?_
    exact go_ret 2 (fun _ => h)
def f_Integer_signum (p0 : Int32) : Int32 :=
  ((p0 >>> ((31 : Int32) &&& 31)) ||| (iushr (-p0) (31 : Int32)))
set_option maxRecDepth 20000 in
set_option maxHeartbeats 4000000 in
theorem c_Integer_signum (d : Nat) (p0 : Int32) (σ : aSt) {P : Option Value → aSt → Prop} (h : P (some (.int ((f_Integer_signum p0)))) σ) : aCall MT (d + 1) 81 [.int p0] σ P := by
  unfold f_Integer_signum at h
  refine call_of (code := mc_Integer_signum) (L := [some (.int p0)]) rfl rfl rfl rfl ?_
  exact go_ret 9 (fun _ => h)
def f_X_at_l13 (N : Nat) (σ : aSt) : Nat → Int32 → Int32 → Int32 → Int32 → Option Int32
  | 0, _, _, _, _ => none
  | n + 1, v1, v2, v3, v4 => (if (f_PointList_shown_11 σ) ≤ v4 then some (-1 : Int32) else (if (f_PointList_m_11 v4 σ) ≠ v1 then f_X_at_l13 N σ n v1 v2 v3 (v4 + (1 : Int32)) else (if (f_PointList_e_11 v4 σ) ≠ v2 then f_X_at_l13 N σ n v1 v2 v3 (v4 + (1 : Int32)) else (if (f_Integer_signum (f_PointList_n_11 v4 σ)) ≠ v3 then f_X_at_l13 N σ n v1 v2 v3 (v4 + (1 : Int32)) else some v4))))
set_option maxRecDepth 20000 in
set_option maxHeartbeats 4000000 in
theorem t_X_at_l13 (d : Nat) {N : Nat} (σ : aSt) {x : Int32} {P : Option Value → aSt → Prop} (hp : P (some (.int x)) σ) : ∀ (n : Nat) (v1 : Int32) (v2 : Int32) (v3 : Int32) (v4 : Int32), f_X_at_l13 N σ n v1 v2 v3 v4 = some x → aGo (aCall MT (d + 1)) P mc_X_at 13 [some (.ref 0), some (.int v1), some (.int v2), some (.int v3), some (.int v4)] [] σ := by
  intro n
  induction n with
  | zero => intro v1 v2 v3 v4 h; cases h
  | succ n ih =>
    intro v1 v2 v3 v4 h
    rw [f_X_at_l13] at h
    refine go_call (r := some (.int (f_PointList_shown_11 σ))) (σc := σ) (σ1 := σ) (mi := 44) (vs := [.ref 11]) (k' := 17) (L' := [some (.ref 0), some (.int v1), some (.int v2), some (.int v3), some (.int v4)]) (S' := [.int v4]) 4 (fun P9 h9 => c_PointList_shown_11 (d + 0) σ h9) (fun n h => h) ?_
    refine go_if (c := (f_PointList_shown_11 σ) ≤ v4) (k1 := 41) (L1 := [some (.ref 0), some (.int v1), some (.int v2), some (.int v3), some (.int v4)]) (S1 := []) (σ1 := σ) (k2 := 18) (L2 := [some (.ref 0), some (.int v1), some (.int v2), some (.int v3), some (.int v4)]) (S2 := []) (σ2 := σ) 1 (fun n h => h) (fun hc4 => ?_) (fun hc4 => ?_)
    · rw [if_pos hc4] at h
      cases h
      exact go_ret 2 (fun _ => hp)
    · rw [if_neg hc4] at h
      refine go_call (r := some (.int (f_PointList_m_11 v4 σ))) (σc := σ) (σ1 := σ) (mi := 74) (vs := [.ref 11, .int v4]) (k' := 22) (L' := [some (.ref 0), some (.int v1), some (.int v2), some (.int v3), some (.int v4)]) (S' := []) 4 (fun P9 h9 => c_PointList_m_11 (d + 0) v4 σ h9) (fun n h => h) ?_
      refine go_if (c := (f_PointList_m_11 v4 σ) ≠ v1) (k1 := 39) (L1 := [some (.ref 0), some (.int v1), some (.int v2), some (.int v3), some (.int v4)]) (S1 := []) (σ1 := σ) (k2 := 24) (L2 := [some (.ref 0), some (.int v1), some (.int v2), some (.int v3), some (.int v4)]) (S2 := []) (σ2 := σ) 2 (fun n h => h) (fun hc5 => ?_) (fun hc5 => ?_)
      · rw [if_pos hc5] at h
        refine go_st (k' := 13) (L' := [some (.ref 0), some (.int v1), some (.int v2), some (.int v3), some (.int (v4 + (1 : Int32)))]) (S' := []) (σ' := σ) 2 (fun n h => h) ?_
        exact ih v1 v2 v3 (v4 + (1 : Int32)) h
      · rw [if_neg hc5] at h
        refine go_call (r := some (.int (f_PointList_e_11 v4 σ))) (σc := σ) (σ1 := σ) (mi := 76) (vs := [.ref 11, .int v4]) (k' := 28) (L' := [some (.ref 0), some (.int v1), some (.int v2), some (.int v3), some (.int v4)]) (S' := []) 4 (fun P9 h9 => c_PointList_e_11 (d + 0) v4 σ h9) (fun n h => h) ?_
        refine go_if (c := (f_PointList_e_11 v4 σ) ≠ v2) (k1 := 39) (L1 := [some (.ref 0), some (.int v1), some (.int v2), some (.int v3), some (.int v4)]) (S1 := []) (σ1 := σ) (k2 := 30) (L2 := [some (.ref 0), some (.int v1), some (.int v2), some (.int v3), some (.int v4)]) (S2 := []) (σ2 := σ) 2 (fun n h => h) (fun hc6 => ?_) (fun hc6 => ?_)
        · rw [if_pos hc6] at h
          refine go_st (k' := 13) (L' := [some (.ref 0), some (.int v1), some (.int v2), some (.int v3), some (.int (v4 + (1 : Int32)))]) (S' := []) (σ' := σ) 2 (fun n h => h) ?_
          exact ih v1 v2 v3 (v4 + (1 : Int32)) h
        · rw [if_neg hc6] at h
          refine go_call (r := some (.int (f_PointList_n_11 v4 σ))) (σc := σ) (σ1 := σ) (mi := 75) (vs := [.ref 11, .int v4]) (k' := 34) (L' := [some (.ref 0), some (.int v1), some (.int v2), some (.int v3), some (.int v4)]) (S' := []) 4 (fun P9 h9 => c_PointList_n_11 (d + 0) v4 σ h9) (fun n h => h) ?_
          refine go_call (r := some (.int (f_Integer_signum (f_PointList_n_11 v4 σ)))) (σc := σ) (σ1 := σ) (mi := 81) (vs := [.int (f_PointList_n_11 v4 σ)]) (k' := 35) (L' := [some (.ref 0), some (.int v1), some (.int v2), some (.int v3), some (.int v4)]) (S' := []) 1 (fun P9 h9 => c_Integer_signum (d + 0) (f_PointList_n_11 v4 σ) σ h9) (fun n h => h) ?_
          refine go_if (c := (f_Integer_signum (f_PointList_n_11 v4 σ)) ≠ v3) (k1 := 39) (L1 := [some (.ref 0), some (.int v1), some (.int v2), some (.int v3), some (.int v4)]) (S1 := []) (σ1 := σ) (k2 := 37) (L2 := [some (.ref 0), some (.int v1), some (.int v2), some (.int v3), some (.int v4)]) (S2 := []) (σ2 := σ) 2 (fun n h => h) (fun hc7 => ?_) (fun hc7 => ?_)
          · rw [if_pos hc7] at h
            refine go_st (k' := 13) (L' := [some (.ref 0), some (.int v1), some (.int v2), some (.int v3), some (.int (v4 + (1 : Int32)))]) (S' := []) (σ' := σ) 2 (fun n h => h) ?_
            exact ih v1 v2 v3 (v4 + (1 : Int32)) h
          · rw [if_neg hc7] at h
            cases h
            exact go_ret 2 (fun _ => hp)
def f_X_at (N : Nat) (p0 : Int32) (p1 : Int32) (p2 : Int32) (σ : aSt) : Option Int32 :=
  (if (σ.2.2 0 13) = true then (if p2 < (-1 : Int32) then some (-2 : Int32) else (if p2 ≤ (1 : Int32) then f_X_at_l13 N σ N p0 p1 p2 (0 : Int32) else some (-2 : Int32))) else some (-2 : Int32))
set_option maxRecDepth 20000 in
set_option maxHeartbeats 4000000 in
theorem c_X_at (d : Nat) {N : Nat} (p0 : Int32) (p1 : Int32) (p2 : Int32) (σ : aSt) {P : Option Value → aSt → Prop} {x : Int32} (h : f_X_at N p0 p1 p2 σ = some x) (hp : P (some (.int x)) σ) : aCall MT (d + 2) 82 [.ref 0, .int p0, .int p1, .int p2] σ P := by
  unfold f_X_at at h
  refine call_of (code := mc_X_at) (L := [some (.ref 0), some (.int p0), some (.int p1), some (.int p2), none]) rfl rfl rfl rfl ?_
  refine go_ifz (b := (σ.2.2 0 13)) (k1 := 9) (L1 := [some (.ref 0), some (.int p0), some (.int p1), some (.int p2), none]) (S1 := []) (σ1 := σ) (k2 := 3) (L2 := [some (.ref 0), some (.int p0), some (.int p1), some (.int p2), none]) (S2 := []) (σ2 := σ) 3 (fun n h => h) (fun hc1 => ?_) (fun hc1 => ?_)
  · rw [if_neg hc1] at h
    cases h
    exact go_ret 2 (fun _ => hp)
  · rw [if_pos hc1] at h
    refine go_if (c := p2 < (-1 : Int32)) (k1 := 9) (L1 := [some (.ref 0), some (.int p0), some (.int p1), some (.int p2), none]) (S1 := []) (σ1 := σ) (k2 := 6) (L2 := [some (.ref 0), some (.int p0), some (.int p1), some (.int p2), none]) (S2 := []) (σ2 := σ) 3 (fun n h => h) (fun hc2 => ?_) (fun hc2 => ?_)
    · rw [if_pos hc2] at h
      cases h
      exact go_ret 2 (fun _ => hp)
    · rw [if_neg hc2] at h
      refine go_if (c := p2 ≤ (1 : Int32)) (k1 := 11) (L1 := [some (.ref 0), some (.int p0), some (.int p1), some (.int p2), none]) (S1 := []) (σ1 := σ) (k2 := 9) (L2 := [some (.ref 0), some (.int p0), some (.int p1), some (.int p2), none]) (S2 := []) (σ2 := σ) 3 (fun n h => h) (fun hc3 => ?_) (fun hc3 => ?_)
      · rw [if_pos hc3] at h
        refine go_st (k' := 13) (L' := [some (.ref 0), some (.int p0), some (.int p1), some (.int p2), some (.int (0 : Int32))]) (S' := []) (σ' := σ) 2 (fun n h => h) ?_
        exact t_X_at_l13 d σ hp N p0 p1 p2 (0 : Int32) h
      · rw [if_neg hc3] at h
        cases h
        exact go_ret 2 (fun _ => hp)
def f_X_isPoint (p0 : Int32) (σ : aSt) : Bool :=
  (if (σ.2.2 0 13) = true then (if p0 = (1000 : Int32) then true else (if (f_X_isListed p0 σ) = true then true else false)) else false)
set_option maxRecDepth 20000 in
set_option maxHeartbeats 4000000 in
theorem c_X_isPoint (d : Nat) (p0 : Int32) (σ : aSt) {P : Option Value → aSt → Prop} (h : P (some (.int (b2i ((f_X_isPoint p0 σ))))) σ) : aCall MT (d + 3) 85 [.ref 0, .int p0] σ P := by
  unfold f_X_isPoint at h
  refine call_of (code := mc_X_isPoint) (L := [some (.ref 0), some (.int p0)]) rfl rfl rfl rfl ?_
  refine go_ifz (b := (σ.2.2 0 13)) (k1 := 12) (L1 := [some (.ref 0), some (.int p0)]) (S1 := []) (σ1 := σ) (k2 := 3) (L2 := [some (.ref 0), some (.int p0)]) (S2 := []) (σ2 := σ) 3 (fun n h => h) (fun hc1 => ?_) (fun hc1 => ?_)
  · rw [if_neg hc1] at h
    exact go_ret 2 (fun _ => And.intro (Or.inl rfl) h)
  · rw [if_pos hc1] at h
    refine go_if (c := p0 = (1000 : Int32)) (k1 := 10) (L1 := [some (.ref 0), some (.int p0)]) (S1 := []) (σ1 := σ) (k2 := 6) (L2 := [some (.ref 0), some (.int p0)]) (S2 := []) (σ2 := σ) 3 (fun n h => h) (fun hc2 => ?_) (fun hc2 => ?_)
    · rw [if_pos hc2] at h
      exact go_ret 3 (fun _ => And.intro (Or.inr rfl) h)
    · rw [if_neg hc2] at h
      refine go_call (r := some (.int (b2i (f_X_isListed p0 σ)))) (σc := σ) (σ1 := σ) (mi := 73) (vs := [.ref 0, .int p0]) (k' := 9) (L' := [some (.ref 0), some (.int p0)]) (S' := []) 3 (fun P9 h9 => c_X_isListed (d + 0) p0 σ h9) (fun n h => h) ?_
      refine go_ifz (b := (f_X_isListed p0 σ)) (k1 := 12) (L1 := [some (.ref 0), some (.int p0)]) (S1 := []) (σ1 := σ) (k2 := 10) (L2 := [some (.ref 0), some (.int p0)]) (S2 := []) (σ2 := σ) 1 (fun n h => h) (fun hc3 => ?_) (fun hc3 => ?_)
      · rw [if_neg hc3] at h
        exact go_ret 2 (fun _ => And.intro (Or.inl rfl) h)
      · rw [if_pos hc3] at h
        exact go_ret 3 (fun _ => And.intro (Or.inr rfl) h)
def f_PointList_partner_11 (p0 : Int32) (σ : aSt) : Int32 :=
  (if (f_PointList_n_11 p0 σ) ≠ 0 then (if 0 ≤ (f_PointList_n_11 p0 σ) then (p0 - (1 : Int32)) else (p0 + (1 : Int32))) else p0)
set_option maxRecDepth 20000 in
set_option maxHeartbeats 4000000 in
theorem c_PointList_partner_11 (d : Nat) (p0 : Int32) (σ : aSt) {P : Option Value → aSt → Prop} (h : P (some (.int ((f_PointList_partner_11 p0 σ)))) σ) : aCall MT (d + 2) 86 [.ref 11, .int p0] σ P := by
  unfold f_PointList_partner_11 at h
  refine call_of (code := mc_PointList_partner) (L := [some (.ref 11), some (.int p0), none]) rfl rfl rfl rfl ?_
  refine go_call (r := some (.int (f_PointList_n_11 p0 σ))) (σc := σ) (σ1 := σ) (mi := 75) (vs := [.ref 11, .int p0]) (k' := 3) (L' := [some (.ref 11), some (.int p0), none]) (S' := []) 3 (fun P9 h9 => c_PointList_n_11 (d + 0) p0 σ h9) (fun n h => h) ?_
  refine go_if (c := (f_PointList_n_11 p0 σ) ≠ 0) (k1 := 8) (L1 := [some (.ref 11), some (.int p0), some (.int (f_PointList_n_11 p0 σ))]) (S1 := []) (σ1 := σ) (k2 := 6) (L2 := [some (.ref 11), some (.int p0), some (.int (f_PointList_n_11 p0 σ))]) (S2 := []) (σ2 := σ) 3 (fun n h => h) (fun hc1 => ?_) (fun hc1 => ?_)
  · rw [if_pos hc1] at h
    refine go_if (c := 0 ≤ (f_PointList_n_11 p0 σ)) (k1 := 14) (L1 := [some (.ref 11), some (.int p0), some (.int (f_PointList_n_11 p0 σ))]) (S1 := []) (σ1 := σ) (k2 := 10) (L2 := [some (.ref 11), some (.int p0), some (.int (f_PointList_n_11 p0 σ))]) (S2 := []) (σ2 := σ) 2 (fun n h => h) (fun hc2 => ?_) (fun hc2 => ?_)
    · rw [if_pos hc2] at h
      exact go_ret 4 (fun _ => h)
    · rw [if_neg hc2] at h
      exact go_ret 5 (fun _ => h)
  · rw [if_neg hc1] at h
    exact go_ret 2 (fun _ => h)
def f_Sums_negative (p0 : Int32) (σ : aSt) : Int32 :=
  (if p0 = (1000 : Int32) then p0 else (if p0 ≠ (-6 : Int32) then (f_PointList_partner_11 p0 σ) else p0))
set_option maxRecDepth 20000 in
set_option maxHeartbeats 4000000 in
theorem c_Sums_negative (d : Nat) (p0 : Int32) (σ : aSt) {P : Option Value → aSt → Prop} (h : P (some (.int ((f_Sums_negative p0 σ)))) σ) : aCall MT (d + 3) 87 [.ref 21, .int p0] σ P := by
  unfold f_Sums_negative at h
  refine call_of (code := mc_Sums_negative) (L := [some (.ref 21), some (.int p0)]) rfl rfl rfl rfl ?_
  refine go_if (c := p0 = (1000 : Int32)) (k1 := 6) (L1 := [some (.ref 21), some (.int p0)]) (S1 := []) (σ1 := σ) (k2 := 3) (L2 := [some (.ref 21), some (.int p0)]) (S2 := []) (σ2 := σ) 3 (fun n h => h) (fun hc1 => ?_) (fun hc1 => ?_)
  · rw [if_pos hc1] at h
    exact go_ret 3 (fun _ => h)
  · rw [if_neg hc1] at h
    refine go_if (c := p0 ≠ (-6 : Int32)) (k1 := 8) (L1 := [some (.ref 21), some (.int p0)]) (S1 := []) (σ1 := σ) (k2 := 6) (L2 := [some (.ref 21), some (.int p0)]) (S2 := []) (σ2 := σ) 3 (fun n h => h) (fun hc2 => ?_) (fun hc2 => ?_)
    · rw [if_pos hc2] at h
      refine go_call (r := some (.int (f_PointList_partner_11 p0 σ))) (σc := σ) (σ1 := σ) (mi := 86) (vs := [.ref 11, .int p0]) (k' := 12) (L' := [some (.ref 21), some (.int p0)]) (S' := []) 4 (fun P9 h9 => c_PointList_partner_11 (d + 0) p0 σ h9) (fun n h => h) ?_
      exact go_ret 1 (fun _ => h)
    · rw [if_neg hc2] at h
      exact go_ret 3 (fun _ => h)
def f_Sums_shownOnly (p0 : Int32) (σ : aSt) : Int32 :=
  (if p0 = (1000 : Int32) then p0 else (if (f_PointList_shown_11 σ) ≤ p0 then (-6 : Int32) else p0))
set_option maxRecDepth 20000 in
set_option maxHeartbeats 4000000 in
theorem c_Sums_shownOnly (d : Nat) (p0 : Int32) (σ : aSt) {P : Option Value → aSt → Prop} (h : P (some (.int ((f_Sums_shownOnly p0 σ)))) σ) : aCall MT (d + 2) 88 [.ref 21, .int p0] σ P := by
  unfold f_Sums_shownOnly at h
  refine call_of (code := mc_Sums_shownOnly) (L := [some (.ref 21), some (.int p0)]) rfl rfl rfl rfl ?_
  refine go_if (c := p0 = (1000 : Int32)) (k1 := 8) (L1 := [some (.ref 21), some (.int p0)]) (S1 := []) (σ1 := σ) (k2 := 3) (L2 := [some (.ref 21), some (.int p0)]) (S2 := []) (σ2 := σ) 3 (fun n h => h) (fun hc1 => ?_) (fun hc1 => ?_)
  · rw [if_pos hc1] at h
    exact go_ret 3 (fun _ => h)
  · rw [if_neg hc1] at h
    refine go_call (r := some (.int (f_PointList_shown_11 σ))) (σc := σ) (σ1 := σ) (mi := 44) (vs := [.ref 11]) (k' := 7) (L' := [some (.ref 21), some (.int p0)]) (S' := [.int p0]) 4 (fun P9 h9 => c_PointList_shown_11 (d + 0) σ h9) (fun n h => h) ?_
    refine go_if (c := (f_PointList_shown_11 σ) ≤ p0) (k1 := 10) (L1 := [some (.ref 21), some (.int p0)]) (S1 := []) (σ1 := σ) (k2 := 8) (L2 := [some (.ref 21), some (.int p0)]) (S2 := []) (σ2 := σ) 1 (fun n h => h) (fun hc2 => ?_) (fun hc2 => ?_)
    · rw [if_pos hc2] at h
      exact go_ret 2 (fun _ => h)
    · rw [if_neg hc2] at h
      exact go_ret 3 (fun _ => h)
def f_X_turned (p0 : Int32) (σ : aSt) : Int32 :=
  (if (f_X_isPoint p0 σ) = true then (f_Sums_shownOnly (f_Sums_negative p0 σ) σ) else (-2 : Int32))
set_option maxRecDepth 20000 in
set_option maxHeartbeats 4000000 in
theorem c_X_turned (d : Nat) (p0 : Int32) (σ : aSt) {P : Option Value → aSt → Prop} (h : P (some (.int ((f_X_turned p0 σ)))) σ) : aCall MT (d + 4) 89 [.ref 0, .int p0] σ P := by
  unfold f_X_turned at h
  refine call_of (code := mc_X_turned) (L := [some (.ref 0), some (.int p0)]) rfl rfl rfl rfl ?_
  refine go_call (r := some (.int (b2i (f_X_isPoint p0 σ)))) (σc := σ) (σ1 := σ) (mi := 85) (vs := [.ref 0, .int p0]) (k' := 3) (L' := [some (.ref 0), some (.int p0)]) (S' := []) 3 (fun P9 h9 => c_X_isPoint (d + 0) p0 σ h9) (fun n h => h) ?_
  refine go_ifz (b := (f_X_isPoint p0 σ)) (k1 := 12) (L1 := [some (.ref 0), some (.int p0)]) (S1 := []) (σ1 := σ) (k2 := 4) (L2 := [some (.ref 0), some (.int p0)]) (S2 := []) (σ2 := σ) 1 (fun n h => h) (fun hc1 => ?_) (fun hc1 => ?_)
  · rw [if_neg hc1] at h
    exact go_ret 2 (fun _ => h)
  · rw [if_pos hc1] at h
    refine go_call (r := some (.int (f_Sums_negative p0 σ))) (σc := σ) (σ1 := σ) (mi := 87) (vs := [.ref 21, .int p0]) (k' := 10) (L' := [some (.ref 0), some (.int p0)]) (S' := [.ref 21]) 6 (fun P9 h9 => c_Sums_negative (d + 0) p0 σ h9) (fun n h => h) ?_
    refine go_call (r := some (.int (f_Sums_shownOnly (f_Sums_negative p0 σ) σ))) (σc := σ) (σ1 := σ) (mi := 88) (vs := [.ref 21, .int (f_Sums_negative p0 σ)]) (k' := 11) (L' := [some (.ref 0), some (.int p0)]) (S' := []) 1 (fun P9 h9 => c_Sums_shownOnly (d + 1) (f_Sums_negative p0 σ) σ h9) (fun n h => h) ?_
    exact go_ret 2 (fun _ => h)
def f_Adder_followChord (p0 : Int64) (p1 : Int64) (p2 : Int64) (p3 : Int64) (σ : aSt) : aSt :=
  (s_l (s_l (s_l (s_l σ 22 3 ((((σ.2.1 22 6) * (p3 * p3)) * p3) - ((p2 * ((σ.2.1 22 7) * (σ.2.1 22 7))) * (σ.2.1 22 7)))) 22 4 (((σ.2.1 22 7) * p3) * (((σ.2.1 22 5) * (p3 * p3)) - (p1 * ((σ.2.1 22 7) * (σ.2.1 22 7)))))) 22 1 ((((((σ.2.1 22 6) * (p3 * p3)) * p3) - ((p2 * ((σ.2.1 22 7) * (σ.2.1 22 7))) * (σ.2.1 22 7))) * ((((σ.2.1 22 6) * (p3 * p3)) * p3) - ((p2 * ((σ.2.1 22 7) * (σ.2.1 22 7))) * (σ.2.1 22 7)))) - (((((σ.2.1 22 5) * (p3 * p3)) - (p1 * ((σ.2.1 22 7) * (σ.2.1 22 7)))) * (((σ.2.1 22 5) * (p3 * p3)) - (p1 * ((σ.2.1 22 7) * (σ.2.1 22 7))))) * ((((p0 * ((σ.2.1 22 7) * (σ.2.1 22 7))) * (p3 * p3)) + ((σ.2.1 22 5) * (p3 * p3))) + (p1 * ((σ.2.1 22 7) * (σ.2.1 22 7))))))) 22 2 ((((σ.2.1 22 7) * p3) * (((σ.2.1 22 5) * (p3 * p3)) - (p1 * ((σ.2.1 22 7) * (σ.2.1 22 7))))) * (((σ.2.1 22 7) * p3) * (((σ.2.1 22 5) * (p3 * p3)) - (p1 * ((σ.2.1 22 7) * (σ.2.1 22 7)))))))
set_option maxRecDepth 20000 in
set_option maxHeartbeats 4000000 in
theorem c_Adder_followChord (d : Nat) (p0 : Int64) (p1 : Int64) (p2 : Int64) (p3 : Int64) (σ : aSt) {P : Option Value → aSt → Prop} (h : P none (f_Adder_followChord p0 p1 p2 p3 σ)) : aCall MT (d + 1) 95 [.ref 22, .long p0, .long p1, .long p2, .long p3] σ P := by
  unfold f_Adder_followChord at h
  refine call_of (code := mc_Adder_followChord) (L := [some (.ref 22), some (.long p0), none, some (.long p1), none, some (.long p2), none, some (.long p3), none, none, none, none, none, none, none]) rfl rfl rfl rfl ?_
  exact go_ret 76 (fun _ => h)
def f_Adder_followTangent (p0 : Int64) (p1 : Int64) (σ : aSt) : aSt :=
  (s_l (s_l (s_l (s_l σ 22 3 (((((3 : Int64) * (σ.2.1 22 5)) * (σ.2.1 22 5)) + (((((2 : Int64) * p0) * (σ.2.1 22 5)) * (σ.2.1 22 7)) * (σ.2.1 22 7))) + ((((p1 * (σ.2.1 22 7)) * (σ.2.1 22 7)) * (σ.2.1 22 7)) * (σ.2.1 22 7)))) 22 4 (((2 : Int64) * (σ.2.1 22 6)) * (σ.2.1 22 7))) 22 1 (((((((3 : Int64) * (σ.2.1 22 5)) * (σ.2.1 22 5)) + (((((2 : Int64) * p0) * (σ.2.1 22 5)) * (σ.2.1 22 7)) * (σ.2.1 22 7))) + ((((p1 * (σ.2.1 22 7)) * (σ.2.1 22 7)) * (σ.2.1 22 7)) * (σ.2.1 22 7))) * (((((3 : Int64) * (σ.2.1 22 5)) * (σ.2.1 22 5)) + (((((2 : Int64) * p0) * (σ.2.1 22 5)) * (σ.2.1 22 7)) * (σ.2.1 22 7))) + ((((p1 * (σ.2.1 22 7)) * (σ.2.1 22 7)) * (σ.2.1 22 7)) * (σ.2.1 22 7)))) - ((((4 : Int64) * (σ.2.1 22 6)) * (σ.2.1 22 6)) * (((p0 * (σ.2.1 22 7)) * (σ.2.1 22 7)) + ((2 : Int64) * (σ.2.1 22 5)))))) 22 2 ((((2 : Int64) * (σ.2.1 22 6)) * (σ.2.1 22 7)) * (((2 : Int64) * (σ.2.1 22 6)) * (σ.2.1 22 7))))
set_option maxRecDepth 20000 in
set_option maxHeartbeats 4000000 in
theorem c_Adder_followTangent (d : Nat) (p0 : Int64) (p1 : Int64) (σ : aSt) {P : Option Value → aSt → Prop} (h : P none (f_Adder_followTangent p0 p1 σ)) : aCall MT (d + 1) 94 [.ref 22, .long p0, .long p1] σ P := by
  unfold f_Adder_followTangent at h
  refine call_of (code := mc_Adder_followTangent) (L := [some (.ref 22), some (.long p0), none, some (.long p1), none]) rfl rfl rfl rfl ?_
  exact go_ret 81 (fun _ => h)
def f_Adder_join_11_b59 (v4 : Int64) (v6 : Int64) (v8 : Int64) (v10 : Int32) (s1 : Bool) (σ : aSt) : aSt :=
  (if s1 = true then (s_b σ 22 0 s1) else (if v10 = 0 then (lt (f_Adder_followChord (f_PointList_a_11 (s_b σ 22 0 s1)).toInt64 v4 v6 v8 (s_b σ 22 0 s1)) fun x5 => x5) else (lt (f_Adder_followTangent (f_PointList_a_11 (s_b σ 22 0 s1)).toInt64 (f_PointList_b_11 (s_b σ 22 0 s1)).toInt64 (s_b σ 22 0 s1)) fun x6 => x6)))
set_option maxRecDepth 20000 in
set_option maxHeartbeats 4000000 in
theorem t_Adder_join_11_b59 (d : Nat) (d2 d3 : Option Value) (v4 : Int64) (v6 : Int64) (v8 : Int64) (v10 : Int32) (s1 : Bool) (σ : aSt) {P : Option Value → aSt → Prop} (h : P none (f_Adder_join_11_b59 v4 v6 v8 v10 s1 σ)) : aGo (aCall MT (d + 1)) P mc_Adder_join 59 [some (.ref 22), some (.ref 11), d2, d3, some (.long v4), none, some (.long v6), none, some (.long v8), none, some (.int v10)] [.int (b2i s1), .ref 22] σ := by
  unfold f_Adder_join_11_b59 at h
  refine go_q (Q := b2i s1 = 0 ∨ b2i s1 = 1) (k' := 60) (L' := [some (.ref 22), some (.ref 11), d2, d3, some (.long v4), none, some (.long v6), none, some (.long v8), none, some (.int v10)]) (S' := []) (σ' := s_b σ 22 0 (b2i s1 != 0)) 1 (b2i_01 _) (fun n h => h) ?_
  rw [b2i_nz]
  refine go_ifz (b := s1) (k1 := 64) (L1 := [some (.ref 22), some (.ref 11), d2, d3, some (.long v4), none, some (.long v6), none, some (.long v8), none, some (.int v10)]) (S1 := []) (σ1 := (s_b σ 22 0 s1)) (k2 := 63) (L2 := [some (.ref 22), some (.ref 11), d2, d3, some (.long v4), none, some (.long v6), none, some (.long v8), none, some (.int v10)]) (S2 := []) (σ2 := (s_b σ 22 0 s1)) 3 (fun n h => h) (fun hc3 => ?_) (fun hc3 => ?_)
  · rw [if_neg hc3] at h
    refine go_if (c := v10 = 0) (k1 := 75) (L1 := [some (.ref 22), some (.ref 11), d2, d3, some (.long v4), none, some (.long v6), none, some (.long v8), none, some (.int v10)]) (S1 := []) (σ1 := (s_b σ 22 0 s1)) (k2 := 66) (L2 := [some (.ref 22), some (.ref 11), d2, d3, some (.long v4), none, some (.long v6), none, some (.long v8), none, some (.int v10)]) (S2 := []) (σ2 := (s_b σ 22 0 s1)) 2 (fun n h => h) (fun hc4 => ?_) (fun hc4 => ?_)
    · rw [if_pos hc4] at h
      refine go_call (r := some (.int (f_PointList_a_11 (s_b σ 22 0 s1)))) (σc := (s_b σ 22 0 s1)) (σ1 := (s_b σ 22 0 s1)) (mi := 26) (vs := [.ref 11]) (k' := 78) (L' := [some (.ref 22), some (.ref 11), d2, d3, some (.long v4), none, some (.long v6), none, some (.long v8), none, some (.int v10)]) (S' := [.ref 22]) 3 (fun P9 h9 => c_PointList_a_11 (d + 0) (s_b σ 22 0 s1) h9) (fun n h => h) ?_
      obtain ⟨x5, hx5⟩ : ∃ x5, x5 = f_Adder_followChord (f_PointList_a_11 (s_b σ 22 0 s1)).toInt64 v4 v6 v8 (s_b σ 22 0 s1) := ⟨_, rfl⟩
      rw [lt_eq, ← hx5] at h
      refine go_call (r := none) (σc := (s_b σ 22 0 s1)) (σ1 := x5) (mi := 95) (vs := [.ref 22, .long (f_PointList_a_11 (s_b σ 22 0 s1)).toInt64, .long v4, .long v6, .long v8]) (k' := 83) (L' := [some (.ref 22), some (.ref 11), d2, d3, some (.long v4), none, some (.long v6), none, some (.long v8), none, some (.int v10)]) (S' := []) 5 (fun P9 h9 => c_Adder_followChord (d + 0) (f_PointList_a_11 (s_b σ 22 0 s1)).toInt64 v4 v6 v8 (s_b σ 22 0 s1) (by rw [← hx5]; exact h9)) (fun n h => h) ?_
      exact go_ret 1 (fun _ => h)
    · rw [if_neg hc4] at h
      refine go_call (r := some (.int (f_PointList_a_11 (s_b σ 22 0 s1)))) (σc := (s_b σ 22 0 s1)) (σ1 := (s_b σ 22 0 s1)) (mi := 26) (vs := [.ref 11]) (k' := 69) (L' := [some (.ref 22), some (.ref 11), d2, d3, some (.long v4), none, some (.long v6), none, some (.long v8), none, some (.int v10)]) (S' := [.ref 22]) 3 (fun P9 h9 => c_PointList_a_11 (d + 0) (s_b σ 22 0 s1) h9) (fun n h => h) ?_
      refine go_call (r := some (.int (f_PointList_b_11 (s_b σ 22 0 s1)))) (σc := (s_b σ 22 0 s1)) (σ1 := (s_b σ 22 0 s1)) (mi := 27) (vs := [.ref 11]) (k' := 72) (L' := [some (.ref 22), some (.ref 11), d2, d3, some (.long v4), none, some (.long v6), none, some (.long v8), none, some (.int v10)]) (S' := [.long (f_PointList_a_11 (s_b σ 22 0 s1)).toInt64, .ref 22]) 3 (fun P9 h9 => c_PointList_b_11 (d + 0) (s_b σ 22 0 s1) h9) (fun n h => h) ?_
      obtain ⟨x6, hx6⟩ : ∃ x6, x6 = f_Adder_followTangent (f_PointList_a_11 (s_b σ 22 0 s1)).toInt64 (f_PointList_b_11 (s_b σ 22 0 s1)).toInt64 (s_b σ 22 0 s1) := ⟨_, rfl⟩
      rw [lt_eq, ← hx6] at h
      refine go_call (r := none) (σc := (s_b σ 22 0 s1)) (σ1 := x6) (mi := 94) (vs := [.ref 22, .long (f_PointList_a_11 (s_b σ 22 0 s1)).toInt64, .long (f_PointList_b_11 (s_b σ 22 0 s1)).toInt64]) (k' := 74) (L' := [some (.ref 22), some (.ref 11), d2, d3, some (.long v4), none, some (.long v6), none, some (.long v8), none, some (.int v10)]) (S' := []) 2 (fun P9 h9 => c_Adder_followTangent (d + 0) (f_PointList_a_11 (s_b σ 22 0 s1)).toInt64 (f_PointList_b_11 (s_b σ 22 0 s1)).toInt64 (s_b σ 22 0 s1) (by rw [← hx6]; exact h9)) (fun n h => h) ?_
      exact go_ret 2 (fun _ => h)
  · rw [if_pos hc3] at h
    exact go_ret 1 (fun _ => h)
def f_Adder_join_11_b58 (v4 : Int64) (v6 : Int64) (v8 : Int64) (v10 : Int32) (σ : aSt) : aSt :=
  f_Adder_join_11_b59 v4 v6 v8 v10 false σ
set_option maxRecDepth 20000 in
set_option maxHeartbeats 4000000 in
theorem t_Adder_join_11_b58 (d : Nat) (d2 d3 : Option Value) (v4 : Int64) (v6 : Int64) (v8 : Int64) (v10 : Int32) (σ : aSt) {P : Option Value → aSt → Prop} (h : P none (f_Adder_join_11_b58 v4 v6 v8 v10 σ)) : aGo (aCall MT (d + 1)) P mc_Adder_join 58 [some (.ref 22), some (.ref 11), d2, d3, some (.long v4), none, some (.long v6), none, some (.long v8), none, some (.int v10)] [.ref 22] σ := by
  unfold f_Adder_join_11_b58 at h
  refine go_st (k' := 59) (L' := [some (.ref 22), some (.ref 11), d2, d3, some (.long v4), none, some (.long v6), none, some (.long v8), none, some (.int v10)]) (S' := [.int (0 : Int32), .ref 22]) (σ' := σ) 1 (fun n h => h) ?_
  exact t_Adder_join_11_b59 d _ _ v4 v6 v8 v10 false σ h
def f_Adder_join_11_b46 (v4 : Int64) (v6 : Int64) (v8 : Int64) (s0 : Int32) (σ : aSt) : aSt :=
  (if s0 = 0 then f_Adder_join_11_b58 v4 v6 v8 s0 σ else (if (σ.2.1 22 6) ≠ (-v6) then f_Adder_join_11_b58 v4 v6 v8 s0 σ else f_Adder_join_11_b59 v4 v6 v8 s0 true σ))
set_option maxRecDepth 20000 in
set_option maxHeartbeats 4000000 in
theorem t_Adder_join_11_b46 (d : Nat) (d2 d3 d10 : Option Value) (v4 : Int64) (v6 : Int64) (v8 : Int64) (s0 : Int32) (σ : aSt) {P : Option Value → aSt → Prop} (h : P none (f_Adder_join_11_b46 v4 v6 v8 s0 σ)) : aGo (aCall MT (d + 1)) P mc_Adder_join 46 [some (.ref 22), some (.ref 11), d2, d3, some (.long v4), none, some (.long v6), none, some (.long v8), none, d10] [.int s0] σ := by
  unfold f_Adder_join_11_b46 at h
  refine go_if (c := s0 = 0) (k1 := 58) (L1 := [some (.ref 22), some (.ref 11), d2, d3, some (.long v4), none, some (.long v6), none, some (.long v8), none, some (.int s0)]) (S1 := [.ref 22]) (σ1 := σ) (k2 := 50) (L2 := [some (.ref 22), some (.ref 11), d2, d3, some (.long v4), none, some (.long v6), none, some (.long v8), none, some (.int s0)]) (S2 := [.ref 22]) (σ2 := σ) 4 (fun n h => h) (fun hc2 => ?_) (fun hc2 => ?_)
  · rw [if_pos hc2] at h
    exact t_Adder_join_11_b58 d _ _ v4 v6 v8 s0 σ h
  · rw [if_neg hc2] at h
    refine go_iff (lcmp_ne (σ.2.1 22 6) (-v6)) (k1 := 58) (L1 := [some (.ref 22), some (.ref 11), d2, d3, some (.long v4), none, some (.long v6), none, some (.long v8), none, some (.int s0)]) (S1 := [.ref 22]) (σ1 := σ) (k2 := 56) (L2 := [some (.ref 22), some (.ref 11), d2, d3, some (.long v4), none, some (.long v6), none, some (.long v8), none, some (.int s0)]) (S2 := [.ref 22]) (σ2 := σ) 6 (fun n h => h) (fun hc7 => ?_) (fun hc7 => ?_)
    · rw [if_pos hc7] at h
      exact t_Adder_join_11_b58 d _ _ v4 v6 v8 s0 σ h
    · rw [if_neg hc7] at h
      refine go_st (k' := 59) (L' := [some (.ref 22), some (.ref 11), d2, d3, some (.long v4), none, some (.long v6), none, some (.long v8), none, some (.int s0)]) (S' := [.int (1 : Int32), .ref 22]) (σ' := σ) 2 (fun n h => h) ?_
      exact t_Adder_join_11_b59 d _ _ v4 v6 v8 s0 true σ h
def f_Adder_join_11_b45 (v4 : Int64) (v6 : Int64) (v8 : Int64) (σ : aSt) : aSt :=
  f_Adder_join_11_b46 v4 v6 v8 (0 : Int32) σ
set_option maxRecDepth 20000 in
set_option maxHeartbeats 4000000 in
theorem t_Adder_join_11_b45 (d : Nat) (d2 d3 d10 : Option Value) (v4 : Int64) (v6 : Int64) (v8 : Int64) (σ : aSt) {P : Option Value → aSt → Prop} (h : P none (f_Adder_join_11_b45 v4 v6 v8 σ)) : aGo (aCall MT (d + 1)) P mc_Adder_join 45 [some (.ref 22), some (.ref 11), d2, d3, some (.long v4), none, some (.long v6), none, some (.long v8), none, d10] [] σ := by
  unfold f_Adder_join_11_b45 at h
  refine go_st (k' := 46) (L' := [some (.ref 22), some (.ref 11), d2, d3, some (.long v4), none, some (.long v6), none, some (.long v8), none, d10]) (S' := [.int (0 : Int32)]) (σ' := σ) 1 (fun n h => h) ?_
  exact t_Adder_join_11_b46 d _ _ _ v4 v6 v8 (0 : Int32) σ h
def f_Adder_join_11 (p1 : Int32) (p2 : Int32) (σ : aSt) : aSt :=
  (if (f_PointList_m_11 p1 σ).toInt64 ≠ (f_PointList_m_11 p2 (s_l (s_l (s_l σ 22 5 (f_PointList_m_11 p1 σ).toInt64) 22 6 (f_PointList_n_11 p1 (s_l σ 22 5 (f_PointList_m_11 p1 σ).toInt64)).toInt64) 22 7 (f_PointList_e_11 p1 (s_l (s_l σ 22 5 (f_PointList_m_11 p1 σ).toInt64) 22 6 (f_PointList_n_11 p1 (s_l σ 22 5 (f_PointList_m_11 p1 σ).toInt64)).toInt64)).toInt64)).toInt64 then f_Adder_join_11_b45 (f_PointList_m_11 p2 (s_l (s_l (s_l σ 22 5 (f_PointList_m_11 p1 σ).toInt64) 22 6 (f_PointList_n_11 p1 (s_l σ 22 5 (f_PointList_m_11 p1 σ).toInt64)).toInt64) 22 7 (f_PointList_e_11 p1 (s_l (s_l σ 22 5 (f_PointList_m_11 p1 σ).toInt64) 22 6 (f_PointList_n_11 p1 (s_l σ 22 5 (f_PointList_m_11 p1 σ).toInt64)).toInt64)).toInt64)).toInt64 (f_PointList_n_11 p2 (s_l (s_l (s_l σ 22 5 (f_PointList_m_11 p1 σ).toInt64) 22 6 (f_PointList_n_11 p1 (s_l σ 22 5 (f_PointList_m_11 p1 σ).toInt64)).toInt64) 22 7 (f_PointList_e_11 p1 (s_l (s_l σ 22 5 (f_PointList_m_11 p1 σ).toInt64) 22 6 (f_PointList_n_11 p1 (s_l σ 22 5 (f_PointList_m_11 p1 σ).toInt64)).toInt64)).toInt64)).toInt64 (f_PointList_e_11 p2 (s_l (s_l (s_l σ 22 5 (f_PointList_m_11 p1 σ).toInt64) 22 6 (f_PointList_n_11 p1 (s_l σ 22 5 (f_PointList_m_11 p1 σ).toInt64)).toInt64) 22 7 (f_PointList_e_11 p1 (s_l (s_l σ 22 5 (f_PointList_m_11 p1 σ).toInt64) 22 6 (f_PointList_n_11 p1 (s_l σ 22 5 (f_PointList_m_11 p1 σ).toInt64)).toInt64)).toInt64)).toInt64 (s_l (s_l (s_l σ 22 5 (f_PointList_m_11 p1 σ).toInt64) 22 6 (f_PointList_n_11 p1 (s_l σ 22 5 (f_PointList_m_11 p1 σ).toInt64)).toInt64) 22 7 (f_PointList_e_11 p1 (s_l (s_l σ 22 5 (f_PointList_m_11 p1 σ).toInt64) 22 6 (f_PointList_n_11 p1 (s_l σ 22 5 (f_PointList_m_11 p1 σ).toInt64)).toInt64)).toInt64) else (if (f_PointList_e_11 p1 (s_l (s_l σ 22 5 (f_PointList_m_11 p1 σ).toInt64) 22 6 (f_PointList_n_11 p1 (s_l σ 22 5 (f_PointList_m_11 p1 σ).toInt64)).toInt64)).toInt64 ≠ (f_PointList_e_11 p2 (s_l (s_l (s_l σ 22 5 (f_PointList_m_11 p1 σ).toInt64) 22 6 (f_PointList_n_11 p1 (s_l σ 22 5 (f_PointList_m_11 p1 σ).toInt64)).toInt64) 22 7 (f_PointList_e_11 p1 (s_l (s_l σ 22 5 (f_PointList_m_11 p1 σ).toInt64) 22 6 (f_PointList_n_11 p1 (s_l σ 22 5 (f_PointList_m_11 p1 σ).toInt64)).toInt64)).toInt64)).toInt64 then f_Adder_join_11_b45 (f_PointList_m_11 p2 (s_l (s_l (s_l σ 22 5 (f_PointList_m_11 p1 σ).toInt64) 22 6 (f_PointList_n_11 p1 (s_l σ 22 5 (f_PointList_m_11 p1 σ).toInt64)).toInt64) 22 7 (f_PointList_e_11 p1 (s_l (s_l σ 22 5 (f_PointList_m_11 p1 σ).toInt64) 22 6 (f_PointList_n_11 p1 (s_l σ 22 5 (f_PointList_m_11 p1 σ).toInt64)).toInt64)).toInt64)).toInt64 (f_PointList_n_11 p2 (s_l (s_l (s_l σ 22 5 (f_PointList_m_11 p1 σ).toInt64) 22 6 (f_PointList_n_11 p1 (s_l σ 22 5 (f_PointList_m_11 p1 σ).toInt64)).toInt64) 22 7 (f_PointList_e_11 p1 (s_l (s_l σ 22 5 (f_PointList_m_11 p1 σ).toInt64) 22 6 (f_PointList_n_11 p1 (s_l σ 22 5 (f_PointList_m_11 p1 σ).toInt64)).toInt64)).toInt64)).toInt64 (f_PointList_e_11 p2 (s_l (s_l (s_l σ 22 5 (f_PointList_m_11 p1 σ).toInt64) 22 6 (f_PointList_n_11 p1 (s_l σ 22 5 (f_PointList_m_11 p1 σ).toInt64)).toInt64) 22 7 (f_PointList_e_11 p1 (s_l (s_l σ 22 5 (f_PointList_m_11 p1 σ).toInt64) 22 6 (f_PointList_n_11 p1 (s_l σ 22 5 (f_PointList_m_11 p1 σ).toInt64)).toInt64)).toInt64)).toInt64 (s_l (s_l (s_l σ 22 5 (f_PointList_m_11 p1 σ).toInt64) 22 6 (f_PointList_n_11 p1 (s_l σ 22 5 (f_PointList_m_11 p1 σ).toInt64)).toInt64) 22 7 (f_PointList_e_11 p1 (s_l (s_l σ 22 5 (f_PointList_m_11 p1 σ).toInt64) 22 6 (f_PointList_n_11 p1 (s_l σ 22 5 (f_PointList_m_11 p1 σ).toInt64)).toInt64)).toInt64) else f_Adder_join_11_b46 (f_PointList_m_11 p2 (s_l (s_l (s_l σ 22 5 (f_PointList_m_11 p1 σ).toInt64) 22 6 (f_PointList_n_11 p1 (s_l σ 22 5 (f_PointList_m_11 p1 σ).toInt64)).toInt64) 22 7 (f_PointList_e_11 p1 (s_l (s_l σ 22 5 (f_PointList_m_11 p1 σ).toInt64) 22 6 (f_PointList_n_11 p1 (s_l σ 22 5 (f_PointList_m_11 p1 σ).toInt64)).toInt64)).toInt64)).toInt64 (f_PointList_n_11 p2 (s_l (s_l (s_l σ 22 5 (f_PointList_m_11 p1 σ).toInt64) 22 6 (f_PointList_n_11 p1 (s_l σ 22 5 (f_PointList_m_11 p1 σ).toInt64)).toInt64) 22 7 (f_PointList_e_11 p1 (s_l (s_l σ 22 5 (f_PointList_m_11 p1 σ).toInt64) 22 6 (f_PointList_n_11 p1 (s_l σ 22 5 (f_PointList_m_11 p1 σ).toInt64)).toInt64)).toInt64)).toInt64 (f_PointList_e_11 p2 (s_l (s_l (s_l σ 22 5 (f_PointList_m_11 p1 σ).toInt64) 22 6 (f_PointList_n_11 p1 (s_l σ 22 5 (f_PointList_m_11 p1 σ).toInt64)).toInt64) 22 7 (f_PointList_e_11 p1 (s_l (s_l σ 22 5 (f_PointList_m_11 p1 σ).toInt64) 22 6 (f_PointList_n_11 p1 (s_l σ 22 5 (f_PointList_m_11 p1 σ).toInt64)).toInt64)).toInt64)).toInt64 (1 : Int32) (s_l (s_l (s_l σ 22 5 (f_PointList_m_11 p1 σ).toInt64) 22 6 (f_PointList_n_11 p1 (s_l σ 22 5 (f_PointList_m_11 p1 σ).toInt64)).toInt64) 22 7 (f_PointList_e_11 p1 (s_l (s_l σ 22 5 (f_PointList_m_11 p1 σ).toInt64) 22 6 (f_PointList_n_11 p1 (s_l σ 22 5 (f_PointList_m_11 p1 σ).toInt64)).toInt64)).toInt64)))
set_option maxRecDepth 20000 in
set_option maxHeartbeats 4000000 in
theorem c_Adder_join_11 (d : Nat) (p1 : Int32) (p2 : Int32) (σ : aSt) {P : Option Value → aSt → Prop} (h : P none (f_Adder_join_11 p1 p2 σ)) : aCall MT (d + 2) 96 [.ref 22, .ref 11, .int p1, .int p2] σ P := by
  unfold f_Adder_join_11 at h
  refine call_of (code := mc_Adder_join) (L := [some (.ref 22), some (.ref 11), some (.int p1), some (.int p2), none, none, none, none, none, none, none]) rfl rfl rfl rfl ?_
  refine go_call (r := some (.int (f_PointList_m_11 p1 σ))) (σc := σ) (σ1 := σ) (mi := 74) (vs := [.ref 11, .int p1]) (k' := 4) (L' := [some (.ref 22), some (.ref 11), some (.int p1), some (.int p2), none, none, none, none, none, none, none]) (S' := [.ref 22]) 4 (fun P9 h9 => c_PointList_m_11 (d + 0) p1 σ h9) (fun n h => h) ?_
  refine go_call (r := some (.int (f_PointList_n_11 p1 (s_l σ 22 5 (f_PointList_m_11 p1 σ).toInt64)))) (σc := (s_l σ 22 5 (f_PointList_m_11 p1 σ).toInt64)) (σ1 := (s_l σ 22 5 (f_PointList_m_11 p1 σ).toInt64)) (mi := 75) (vs := [.ref 11, .int p1]) (k' := 10) (L' := [some (.ref 22), some (.ref 11), some (.int p1), some (.int p2), none, none, none, none, none, none, none]) (S' := [.ref 22]) 6 (fun P9 h9 => c_PointList_n_11 (d + 0) p1 (s_l σ 22 5 (f_PointList_m_11 p1 σ).toInt64) h9) (fun n h => h) ?_
  refine go_call (r := some (.int (f_PointList_e_11 p1 (s_l (s_l σ 22 5 (f_PointList_m_11 p1 σ).toInt64) 22 6 (f_PointList_n_11 p1 (s_l σ 22 5 (f_PointList_m_11 p1 σ).toInt64)).toInt64)))) (σc := (s_l (s_l σ 22 5 (f_PointList_m_11 p1 σ).toInt64) 22 6 (f_PointList_n_11 p1 (s_l σ 22 5 (f_PointList_m_11 p1 σ).toInt64)).toInt64)) (σ1 := (s_l (s_l σ 22 5 (f_PointList_m_11 p1 σ).toInt64) 22 6 (f_PointList_n_11 p1 (s_l σ 22 5 (f_PointList_m_11 p1 σ).toInt64)).toInt64)) (mi := 76) (vs := [.ref 11, .int p1]) (k' := 16) (L' := [some (.ref 22), some (.ref 11), some (.int p1), some (.int p2), none, none, none, none, none, none, none]) (S' := [.ref 22]) 6 (fun P9 h9 => c_PointList_e_11 (d + 0) p1 (s_l (s_l σ 22 5 (f_PointList_m_11 p1 σ).toInt64) 22 6 (f_PointList_n_11 p1 (s_l σ 22 5 (f_PointList_m_11 p1 σ).toInt64)).toInt64) h9) (fun n h => h) ?_
  refine go_call (r := some (.int (f_PointList_m_11 p2 (s_l (s_l (s_l σ 22 5 (f_PointList_m_11 p1 σ).toInt64) 22 6 (f_PointList_n_11 p1 (s_l σ 22 5 (f_PointList_m_11 p1 σ).toInt64)).toInt64) 22 7 (f_PointList_e_11 p1 (s_l (s_l σ 22 5 (f_PointList_m_11 p1 σ).toInt64) 22 6 (f_PointList_n_11 p1 (s_l σ 22 5 (f_PointList_m_11 p1 σ).toInt64)).toInt64)).toInt64)))) (σc := (s_l (s_l (s_l σ 22 5 (f_PointList_m_11 p1 σ).toInt64) 22 6 (f_PointList_n_11 p1 (s_l σ 22 5 (f_PointList_m_11 p1 σ).toInt64)).toInt64) 22 7 (f_PointList_e_11 p1 (s_l (s_l σ 22 5 (f_PointList_m_11 p1 σ).toInt64) 22 6 (f_PointList_n_11 p1 (s_l σ 22 5 (f_PointList_m_11 p1 σ).toInt64)).toInt64)).toInt64)) (σ1 := (s_l (s_l (s_l σ 22 5 (f_PointList_m_11 p1 σ).toInt64) 22 6 (f_PointList_n_11 p1 (s_l σ 22 5 (f_PointList_m_11 p1 σ).toInt64)).toInt64) 22 7 (f_PointList_e_11 p1 (s_l (s_l σ 22 5 (f_PointList_m_11 p1 σ).toInt64) 22 6 (f_PointList_n_11 p1 (s_l σ 22 5 (f_PointList_m_11 p1 σ).toInt64)).toInt64)).toInt64)) (mi := 74) (vs := [.ref 11, .int p2]) (k' := 21) (L' := [some (.ref 22), some (.ref 11), some (.int p1), some (.int p2), none, none, none, none, none, none, none]) (S' := []) 5 (fun P9 h9 => c_PointList_m_11 (d + 0) p2 (s_l (s_l (s_l σ 22 5 (f_PointList_m_11 p1 σ).toInt64) 22 6 (f_PointList_n_11 p1 (s_l σ 22 5 (f_PointList_m_11 p1 σ).toInt64)).toInt64) 22 7 (f_PointList_e_11 p1 (s_l (s_l σ 22 5 (f_PointList_m_11 p1 σ).toInt64) 22 6 (f_PointList_n_11 p1 (s_l σ 22 5 (f_PointList_m_11 p1 σ).toInt64)).toInt64)).toInt64) h9) (fun n h => h) ?_
  refine go_call (r := some (.int (f_PointList_n_11 p2 (s_l (s_l (s_l σ 22 5 (f_PointList_m_11 p1 σ).toInt64) 22 6 (f_PointList_n_11 p1 (s_l σ 22 5 (f_PointList_m_11 p1 σ).toInt64)).toInt64) 22 7 (f_PointList_e_11 p1 (s_l (s_l σ 22 5 (f_PointList_m_11 p1 σ).toInt64) 22 6 (f_PointList_n_11 p1 (s_l σ 22 5 (f_PointList_m_11 p1 σ).toInt64)).toInt64)).toInt64)))) (σc := (s_l (s_l (s_l σ 22 5 (f_PointList_m_11 p1 σ).toInt64) 22 6 (f_PointList_n_11 p1 (s_l σ 22 5 (f_PointList_m_11 p1 σ).toInt64)).toInt64) 22 7 (f_PointList_e_11 p1 (s_l (s_l σ 22 5 (f_PointList_m_11 p1 σ).toInt64) 22 6 (f_PointList_n_11 p1 (s_l σ 22 5 (f_PointList_m_11 p1 σ).toInt64)).toInt64)).toInt64)) (σ1 := (s_l (s_l (s_l σ 22 5 (f_PointList_m_11 p1 σ).toInt64) 22 6 (f_PointList_n_11 p1 (s_l σ 22 5 (f_PointList_m_11 p1 σ).toInt64)).toInt64) 22 7 (f_PointList_e_11 p1 (s_l (s_l σ 22 5 (f_PointList_m_11 p1 σ).toInt64) 22 6 (f_PointList_n_11 p1 (s_l σ 22 5 (f_PointList_m_11 p1 σ).toInt64)).toInt64)).toInt64)) (mi := 75) (vs := [.ref 11, .int p2]) (k' := 26) (L' := [some (.ref 22), some (.ref 11), some (.int p1), some (.int p2), some (.long (f_PointList_m_11 p2 (s_l (s_l (s_l σ 22 5 (f_PointList_m_11 p1 σ).toInt64) 22 6 (f_PointList_n_11 p1 (s_l σ 22 5 (f_PointList_m_11 p1 σ).toInt64)).toInt64) 22 7 (f_PointList_e_11 p1 (s_l (s_l σ 22 5 (f_PointList_m_11 p1 σ).toInt64) 22 6 (f_PointList_n_11 p1 (s_l σ 22 5 (f_PointList_m_11 p1 σ).toInt64)).toInt64)).toInt64)).toInt64), none, none, none, none, none, none]) (S' := []) 5 (fun P9 h9 => c_PointList_n_11 (d + 0) p2 (s_l (s_l (s_l σ 22 5 (f_PointList_m_11 p1 σ).toInt64) 22 6 (f_PointList_n_11 p1 (s_l σ 22 5 (f_PointList_m_11 p1 σ).toInt64)).toInt64) 22 7 (f_PointList_e_11 p1 (s_l (s_l σ 22 5 (f_PointList_m_11 p1 σ).toInt64) 22 6 (f_PointList_n_11 p1 (s_l σ 22 5 (f_PointList_m_11 p1 σ).toInt64)).toInt64)).toInt64) h9) (fun n h => h) ?_
  refine go_call (r := some (.int (f_PointList_e_11 p2 (s_l (s_l (s_l σ 22 5 (f_PointList_m_11 p1 σ).toInt64) 22 6 (f_PointList_n_11 p1 (s_l σ 22 5 (f_PointList_m_11 p1 σ).toInt64)).toInt64) 22 7 (f_PointList_e_11 p1 (s_l (s_l σ 22 5 (f_PointList_m_11 p1 σ).toInt64) 22 6 (f_PointList_n_11 p1 (s_l σ 22 5 (f_PointList_m_11 p1 σ).toInt64)).toInt64)).toInt64)))) (σc := (s_l (s_l (s_l σ 22 5 (f_PointList_m_11 p1 σ).toInt64) 22 6 (f_PointList_n_11 p1 (s_l σ 22 5 (f_PointList_m_11 p1 σ).toInt64)).toInt64) 22 7 (f_PointList_e_11 p1 (s_l (s_l σ 22 5 (f_PointList_m_11 p1 σ).toInt64) 22 6 (f_PointList_n_11 p1 (s_l σ 22 5 (f_PointList_m_11 p1 σ).toInt64)).toInt64)).toInt64)) (σ1 := (s_l (s_l (s_l σ 22 5 (f_PointList_m_11 p1 σ).toInt64) 22 6 (f_PointList_n_11 p1 (s_l σ 22 5 (f_PointList_m_11 p1 σ).toInt64)).toInt64) 22 7 (f_PointList_e_11 p1 (s_l (s_l σ 22 5 (f_PointList_m_11 p1 σ).toInt64) 22 6 (f_PointList_n_11 p1 (s_l σ 22 5 (f_PointList_m_11 p1 σ).toInt64)).toInt64)).toInt64)) (mi := 76) (vs := [.ref 11, .int p2]) (k' := 31) (L' := [some (.ref 22), some (.ref 11), some (.int p1), some (.int p2), some (.long (f_PointList_m_11 p2 (s_l (s_l (s_l σ 22 5 (f_PointList_m_11 p1 σ).toInt64) 22 6 (f_PointList_n_11 p1 (s_l σ 22 5 (f_PointList_m_11 p1 σ).toInt64)).toInt64) 22 7 (f_PointList_e_11 p1 (s_l (s_l σ 22 5 (f_PointList_m_11 p1 σ).toInt64) 22 6 (f_PointList_n_11 p1 (s_l σ 22 5 (f_PointList_m_11 p1 σ).toInt64)).toInt64)).toInt64)).toInt64), none, some (.long (f_PointList_n_11 p2 (s_l (s_l (s_l σ 22 5 (f_PointList_m_11 p1 σ).toInt64) 22 6 (f_PointList_n_11 p1 (s_l σ 22 5 (f_PointList_m_11 p1 σ).toInt64)).toInt64) 22 7 (f_PointList_e_11 p1 (s_l (s_l σ 22 5 (f_PointList_m_11 p1 σ).toInt64) 22 6 (f_PointList_n_11 p1 (s_l σ 22 5 (f_PointList_m_11 p1 σ).toInt64)).toInt64)).toInt64)).toInt64), none, none, none, none]) (S' := []) 5 (fun P9 h9 => c_PointList_e_11 (d + 0) p2 (s_l (s_l (s_l σ 22 5 (f_PointList_m_11 p1 σ).toInt64) 22 6 (f_PointList_n_11 p1 (s_l σ 22 5 (f_PointList_m_11 p1 σ).toInt64)).toInt64) 22 7 (f_PointList_e_11 p1 (s_l (s_l σ 22 5 (f_PointList_m_11 p1 σ).toInt64) 22 6 (f_PointList_n_11 p1 (s_l σ 22 5 (f_PointList_m_11 p1 σ).toInt64)).toInt64)).toInt64) h9) (fun n h => h) ?_
  refine go_iff (lcmp_ne (f_PointList_m_11 p1 σ).toInt64 (f_PointList_m_11 p2 (s_l (s_l (s_l σ 22 5 (f_PointList_m_11 p1 σ).toInt64) 22 6 (f_PointList_n_11 p1 (s_l σ 22 5 (f_PointList_m_11 p1 σ).toInt64)).toInt64) 22 7 (f_PointList_e_11 p1 (s_l (s_l σ 22 5 (f_PointList_m_11 p1 σ).toInt64) 22 6 (f_PointList_n_11 p1 (s_l σ 22 5 (f_PointList_m_11 p1 σ).toInt64)).toInt64)).toInt64)).toInt64) (k1 := 45) (L1 := [some (.ref 22), some (.ref 11), some (.int p1), some (.int p2), some (.long (f_PointList_m_11 p2 (s_l (s_l (s_l σ 22 5 (f_PointList_m_11 p1 σ).toInt64) 22 6 (f_PointList_n_11 p1 (s_l σ 22 5 (f_PointList_m_11 p1 σ).toInt64)).toInt64) 22 7 (f_PointList_e_11 p1 (s_l (s_l σ 22 5 (f_PointList_m_11 p1 σ).toInt64) 22 6 (f_PointList_n_11 p1 (s_l σ 22 5 (f_PointList_m_11 p1 σ).toInt64)).toInt64)).toInt64)).toInt64), none, some (.long (f_PointList_n_11 p2 (s_l (s_l (s_l σ 22 5 (f_PointList_m_11 p1 σ).toInt64) 22 6 (f_PointList_n_11 p1 (s_l σ 22 5 (f_PointList_m_11 p1 σ).toInt64)).toInt64) 22 7 (f_PointList_e_11 p1 (s_l (s_l σ 22 5 (f_PointList_m_11 p1 σ).toInt64) 22 6 (f_PointList_n_11 p1 (s_l σ 22 5 (f_PointList_m_11 p1 σ).toInt64)).toInt64)).toInt64)).toInt64), none, some (.long (f_PointList_e_11 p2 (s_l (s_l (s_l σ 22 5 (f_PointList_m_11 p1 σ).toInt64) 22 6 (f_PointList_n_11 p1 (s_l σ 22 5 (f_PointList_m_11 p1 σ).toInt64)).toInt64) 22 7 (f_PointList_e_11 p1 (s_l (s_l σ 22 5 (f_PointList_m_11 p1 σ).toInt64) 22 6 (f_PointList_n_11 p1 (s_l σ 22 5 (f_PointList_m_11 p1 σ).toInt64)).toInt64)).toInt64)).toInt64), none, none]) (S1 := []) (σ1 := (s_l (s_l (s_l σ 22 5 (f_PointList_m_11 p1 σ).toInt64) 22 6 (f_PointList_n_11 p1 (s_l σ 22 5 (f_PointList_m_11 p1 σ).toInt64)).toInt64) 22 7 (f_PointList_e_11 p1 (s_l (s_l σ 22 5 (f_PointList_m_11 p1 σ).toInt64) 22 6 (f_PointList_n_11 p1 (s_l σ 22 5 (f_PointList_m_11 p1 σ).toInt64)).toInt64)).toInt64)) (k2 := 38) (L2 := [some (.ref 22), some (.ref 11), some (.int p1), some (.int p2), some (.long (f_PointList_m_11 p2 (s_l (s_l (s_l σ 22 5 (f_PointList_m_11 p1 σ).toInt64) 22 6 (f_PointList_n_11 p1 (s_l σ 22 5 (f_PointList_m_11 p1 σ).toInt64)).toInt64) 22 7 (f_PointList_e_11 p1 (s_l (s_l σ 22 5 (f_PointList_m_11 p1 σ).toInt64) 22 6 (f_PointList_n_11 p1 (s_l σ 22 5 (f_PointList_m_11 p1 σ).toInt64)).toInt64)).toInt64)).toInt64), none, some (.long (f_PointList_n_11 p2 (s_l (s_l (s_l σ 22 5 (f_PointList_m_11 p1 σ).toInt64) 22 6 (f_PointList_n_11 p1 (s_l σ 22 5 (f_PointList_m_11 p1 σ).toInt64)).toInt64) 22 7 (f_PointList_e_11 p1 (s_l (s_l σ 22 5 (f_PointList_m_11 p1 σ).toInt64) 22 6 (f_PointList_n_11 p1 (s_l σ 22 5 (f_PointList_m_11 p1 σ).toInt64)).toInt64)).toInt64)).toInt64), none, some (.long (f_PointList_e_11 p2 (s_l (s_l (s_l σ 22 5 (f_PointList_m_11 p1 σ).toInt64) 22 6 (f_PointList_n_11 p1 (s_l σ 22 5 (f_PointList_m_11 p1 σ).toInt64)).toInt64) 22 7 (f_PointList_e_11 p1 (s_l (s_l σ 22 5 (f_PointList_m_11 p1 σ).toInt64) 22 6 (f_PointList_n_11 p1 (s_l σ 22 5 (f_PointList_m_11 p1 σ).toInt64)).toInt64)).toInt64)).toInt64), none, none]) (S2 := []) (σ2 := (s_l (s_l (s_l σ 22 5 (f_PointList_m_11 p1 σ).toInt64) 22 6 (f_PointList_n_11 p1 (s_l σ 22 5 (f_PointList_m_11 p1 σ).toInt64)).toInt64) 22 7 (f_PointList_e_11 p1 (s_l (s_l σ 22 5 (f_PointList_m_11 p1 σ).toInt64) 22 6 (f_PointList_n_11 p1 (s_l σ 22 5 (f_PointList_m_11 p1 σ).toInt64)).toInt64)).toInt64)) 7 (fun n h => h) (fun hc1 => ?_) (fun hc1 => ?_)
  · rw [if_pos hc1] at h
    exact t_Adder_join_11_b45 d _ _ _ (f_PointList_m_11 p2 (s_l (s_l (s_l σ 22 5 (f_PointList_m_11 p1 σ).toInt64) 22 6 (f_PointList_n_11 p1 (s_l σ 22 5 (f_PointList_m_11 p1 σ).toInt64)).toInt64) 22 7 (f_PointList_e_11 p1 (s_l (s_l σ 22 5 (f_PointList_m_11 p1 σ).toInt64) 22 6 (f_PointList_n_11 p1 (s_l σ 22 5 (f_PointList_m_11 p1 σ).toInt64)).toInt64)).toInt64)).toInt64 (f_PointList_n_11 p2 (s_l (s_l (s_l σ 22 5 (f_PointList_m_11 p1 σ).toInt64) 22 6 (f_PointList_n_11 p1 (s_l σ 22 5 (f_PointList_m_11 p1 σ).toInt64)).toInt64) 22 7 (f_PointList_e_11 p1 (s_l (s_l σ 22 5 (f_PointList_m_11 p1 σ).toInt64) 22 6 (f_PointList_n_11 p1 (s_l σ 22 5 (f_PointList_m_11 p1 σ).toInt64)).toInt64)).toInt64)).toInt64 (f_PointList_e_11 p2 (s_l (s_l (s_l σ 22 5 (f_PointList_m_11 p1 σ).toInt64) 22 6 (f_PointList_n_11 p1 (s_l σ 22 5 (f_PointList_m_11 p1 σ).toInt64)).toInt64) 22 7 (f_PointList_e_11 p1 (s_l (s_l σ 22 5 (f_PointList_m_11 p1 σ).toInt64) 22 6 (f_PointList_n_11 p1 (s_l σ 22 5 (f_PointList_m_11 p1 σ).toInt64)).toInt64)).toInt64)).toInt64 (s_l (s_l (s_l σ 22 5 (f_PointList_m_11 p1 σ).toInt64) 22 6 (f_PointList_n_11 p1 (s_l σ 22 5 (f_PointList_m_11 p1 σ).toInt64)).toInt64) 22 7 (f_PointList_e_11 p1 (s_l (s_l σ 22 5 (f_PointList_m_11 p1 σ).toInt64) 22 6 (f_PointList_n_11 p1 (s_l σ 22 5 (f_PointList_m_11 p1 σ).toInt64)).toInt64)).toInt64) h
  · rw [if_neg hc1] at h
    refine go_iff (lcmp_ne (f_PointList_e_11 p1 (s_l (s_l σ 22 5 (f_PointList_m_11 p1 σ).toInt64) 22 6 (f_PointList_n_11 p1 (s_l σ 22 5 (f_PointList_m_11 p1 σ).toInt64)).toInt64)).toInt64 (f_PointList_e_11 p2 (s_l (s_l (s_l σ 22 5 (f_PointList_m_11 p1 σ).toInt64) 22 6 (f_PointList_n_11 p1 (s_l σ 22 5 (f_PointList_m_11 p1 σ).toInt64)).toInt64) 22 7 (f_PointList_e_11 p1 (s_l (s_l σ 22 5 (f_PointList_m_11 p1 σ).toInt64) 22 6 (f_PointList_n_11 p1 (s_l σ 22 5 (f_PointList_m_11 p1 σ).toInt64)).toInt64)).toInt64)).toInt64) (k1 := 45) (L1 := [some (.ref 22), some (.ref 11), some (.int p1), some (.int p2), some (.long (f_PointList_m_11 p2 (s_l (s_l (s_l σ 22 5 (f_PointList_m_11 p1 σ).toInt64) 22 6 (f_PointList_n_11 p1 (s_l σ 22 5 (f_PointList_m_11 p1 σ).toInt64)).toInt64) 22 7 (f_PointList_e_11 p1 (s_l (s_l σ 22 5 (f_PointList_m_11 p1 σ).toInt64) 22 6 (f_PointList_n_11 p1 (s_l σ 22 5 (f_PointList_m_11 p1 σ).toInt64)).toInt64)).toInt64)).toInt64), none, some (.long (f_PointList_n_11 p2 (s_l (s_l (s_l σ 22 5 (f_PointList_m_11 p1 σ).toInt64) 22 6 (f_PointList_n_11 p1 (s_l σ 22 5 (f_PointList_m_11 p1 σ).toInt64)).toInt64) 22 7 (f_PointList_e_11 p1 (s_l (s_l σ 22 5 (f_PointList_m_11 p1 σ).toInt64) 22 6 (f_PointList_n_11 p1 (s_l σ 22 5 (f_PointList_m_11 p1 σ).toInt64)).toInt64)).toInt64)).toInt64), none, some (.long (f_PointList_e_11 p2 (s_l (s_l (s_l σ 22 5 (f_PointList_m_11 p1 σ).toInt64) 22 6 (f_PointList_n_11 p1 (s_l σ 22 5 (f_PointList_m_11 p1 σ).toInt64)).toInt64) 22 7 (f_PointList_e_11 p1 (s_l (s_l σ 22 5 (f_PointList_m_11 p1 σ).toInt64) 22 6 (f_PointList_n_11 p1 (s_l σ 22 5 (f_PointList_m_11 p1 σ).toInt64)).toInt64)).toInt64)).toInt64), none, none]) (S1 := []) (σ1 := (s_l (s_l (s_l σ 22 5 (f_PointList_m_11 p1 σ).toInt64) 22 6 (f_PointList_n_11 p1 (s_l σ 22 5 (f_PointList_m_11 p1 σ).toInt64)).toInt64) 22 7 (f_PointList_e_11 p1 (s_l (s_l σ 22 5 (f_PointList_m_11 p1 σ).toInt64) 22 6 (f_PointList_n_11 p1 (s_l σ 22 5 (f_PointList_m_11 p1 σ).toInt64)).toInt64)).toInt64)) (k2 := 43) (L2 := [some (.ref 22), some (.ref 11), some (.int p1), some (.int p2), some (.long (f_PointList_m_11 p2 (s_l (s_l (s_l σ 22 5 (f_PointList_m_11 p1 σ).toInt64) 22 6 (f_PointList_n_11 p1 (s_l σ 22 5 (f_PointList_m_11 p1 σ).toInt64)).toInt64) 22 7 (f_PointList_e_11 p1 (s_l (s_l σ 22 5 (f_PointList_m_11 p1 σ).toInt64) 22 6 (f_PointList_n_11 p1 (s_l σ 22 5 (f_PointList_m_11 p1 σ).toInt64)).toInt64)).toInt64)).toInt64), none, some (.long (f_PointList_n_11 p2 (s_l (s_l (s_l σ 22 5 (f_PointList_m_11 p1 σ).toInt64) 22 6 (f_PointList_n_11 p1 (s_l σ 22 5 (f_PointList_m_11 p1 σ).toInt64)).toInt64) 22 7 (f_PointList_e_11 p1 (s_l (s_l σ 22 5 (f_PointList_m_11 p1 σ).toInt64) 22 6 (f_PointList_n_11 p1 (s_l σ 22 5 (f_PointList_m_11 p1 σ).toInt64)).toInt64)).toInt64)).toInt64), none, some (.long (f_PointList_e_11 p2 (s_l (s_l (s_l σ 22 5 (f_PointList_m_11 p1 σ).toInt64) 22 6 (f_PointList_n_11 p1 (s_l σ 22 5 (f_PointList_m_11 p1 σ).toInt64)).toInt64) 22 7 (f_PointList_e_11 p1 (s_l (s_l σ 22 5 (f_PointList_m_11 p1 σ).toInt64) 22 6 (f_PointList_n_11 p1 (s_l σ 22 5 (f_PointList_m_11 p1 σ).toInt64)).toInt64)).toInt64)).toInt64), none, none]) (S2 := []) (σ2 := (s_l (s_l (s_l σ 22 5 (f_PointList_m_11 p1 σ).toInt64) 22 6 (f_PointList_n_11 p1 (s_l σ 22 5 (f_PointList_m_11 p1 σ).toInt64)).toInt64) 22 7 (f_PointList_e_11 p1 (s_l (s_l σ 22 5 (f_PointList_m_11 p1 σ).toInt64) 22 6 (f_PointList_n_11 p1 (s_l σ 22 5 (f_PointList_m_11 p1 σ).toInt64)).toInt64)).toInt64)) 5 (fun n h => h) (fun hc8 => ?_) (fun hc8 => ?_)
    · rw [if_pos hc8] at h
      exact t_Adder_join_11_b45 d _ _ _ (f_PointList_m_11 p2 (s_l (s_l (s_l σ 22 5 (f_PointList_m_11 p1 σ).toInt64) 22 6 (f_PointList_n_11 p1 (s_l σ 22 5 (f_PointList_m_11 p1 σ).toInt64)).toInt64) 22 7 (f_PointList_e_11 p1 (s_l (s_l σ 22 5 (f_PointList_m_11 p1 σ).toInt64) 22 6 (f_PointList_n_11 p1 (s_l σ 22 5 (f_PointList_m_11 p1 σ).toInt64)).toInt64)).toInt64)).toInt64 (f_PointList_n_11 p2 (s_l (s_l (s_l σ 22 5 (f_PointList_m_11 p1 σ).toInt64) 22 6 (f_PointList_n_11 p1 (s_l σ 22 5 (f_PointList_m_11 p1 σ).toInt64)).toInt64) 22 7 (f_PointList_e_11 p1 (s_l (s_l σ 22 5 (f_PointList_m_11 p1 σ).toInt64) 22 6 (f_PointList_n_11 p1 (s_l σ 22 5 (f_PointList_m_11 p1 σ).toInt64)).toInt64)).toInt64)).toInt64 (f_PointList_e_11 p2 (s_l (s_l (s_l σ 22 5 (f_PointList_m_11 p1 σ).toInt64) 22 6 (f_PointList_n_11 p1 (s_l σ 22 5 (f_PointList_m_11 p1 σ).toInt64)).toInt64) 22 7 (f_PointList_e_11 p1 (s_l (s_l σ 22 5 (f_PointList_m_11 p1 σ).toInt64) 22 6 (f_PointList_n_11 p1 (s_l σ 22 5 (f_PointList_m_11 p1 σ).toInt64)).toInt64)).toInt64)).toInt64 (s_l (s_l (s_l σ 22 5 (f_PointList_m_11 p1 σ).toInt64) 22 6 (f_PointList_n_11 p1 (s_l σ 22 5 (f_PointList_m_11 p1 σ).toInt64)).toInt64) 22 7 (f_PointList_e_11 p1 (s_l (s_l σ 22 5 (f_PointList_m_11 p1 σ).toInt64) 22 6 (f_PointList_n_11 p1 (s_l σ 22 5 (f_PointList_m_11 p1 σ).toInt64)).toInt64)).toInt64) h
    · rw [if_neg hc8] at h
      refine go_st (k' := 46) (L' := [some (.ref 22), some (.ref 11), some (.int p1), some (.int p2), some (.long (f_PointList_m_11 p2 (s_l (s_l (s_l σ 22 5 (f_PointList_m_11 p1 σ).toInt64) 22 6 (f_PointList_n_11 p1 (s_l σ 22 5 (f_PointList_m_11 p1 σ).toInt64)).toInt64) 22 7 (f_PointList_e_11 p1 (s_l (s_l σ 22 5 (f_PointList_m_11 p1 σ).toInt64) 22 6 (f_PointList_n_11 p1 (s_l σ 22 5 (f_PointList_m_11 p1 σ).toInt64)).toInt64)).toInt64)).toInt64), none, some (.long (f_PointList_n_11 p2 (s_l (s_l (s_l σ 22 5 (f_PointList_m_11 p1 σ).toInt64) 22 6 (f_PointList_n_11 p1 (s_l σ 22 5 (f_PointList_m_11 p1 σ).toInt64)).toInt64) 22 7 (f_PointList_e_11 p1 (s_l (s_l σ 22 5 (f_PointList_m_11 p1 σ).toInt64) 22 6 (f_PointList_n_11 p1 (s_l σ 22 5 (f_PointList_m_11 p1 σ).toInt64)).toInt64)).toInt64)).toInt64), none, some (.long (f_PointList_e_11 p2 (s_l (s_l (s_l σ 22 5 (f_PointList_m_11 p1 σ).toInt64) 22 6 (f_PointList_n_11 p1 (s_l σ 22 5 (f_PointList_m_11 p1 σ).toInt64)).toInt64) 22 7 (f_PointList_e_11 p1 (s_l (s_l σ 22 5 (f_PointList_m_11 p1 σ).toInt64) 22 6 (f_PointList_n_11 p1 (s_l σ 22 5 (f_PointList_m_11 p1 σ).toInt64)).toInt64)).toInt64)).toInt64), none, none]) (S' := [.int (1 : Int32)]) (σ' := (s_l (s_l (s_l σ 22 5 (f_PointList_m_11 p1 σ).toInt64) 22 6 (f_PointList_n_11 p1 (s_l σ 22 5 (f_PointList_m_11 p1 σ).toInt64)).toInt64) 22 7 (f_PointList_e_11 p1 (s_l (s_l σ 22 5 (f_PointList_m_11 p1 σ).toInt64) 22 6 (f_PointList_n_11 p1 (s_l σ 22 5 (f_PointList_m_11 p1 σ).toInt64)).toInt64)).toInt64)) 2 (fun n h => h) ?_
      exact t_Adder_join_11_b46 d _ _ _ (f_PointList_m_11 p2 (s_l (s_l (s_l σ 22 5 (f_PointList_m_11 p1 σ).toInt64) 22 6 (f_PointList_n_11 p1 (s_l σ 22 5 (f_PointList_m_11 p1 σ).toInt64)).toInt64) 22 7 (f_PointList_e_11 p1 (s_l (s_l σ 22 5 (f_PointList_m_11 p1 σ).toInt64) 22 6 (f_PointList_n_11 p1 (s_l σ 22 5 (f_PointList_m_11 p1 σ).toInt64)).toInt64)).toInt64)).toInt64 (f_PointList_n_11 p2 (s_l (s_l (s_l σ 22 5 (f_PointList_m_11 p1 σ).toInt64) 22 6 (f_PointList_n_11 p1 (s_l σ 22 5 (f_PointList_m_11 p1 σ).toInt64)).toInt64) 22 7 (f_PointList_e_11 p1 (s_l (s_l σ 22 5 (f_PointList_m_11 p1 σ).toInt64) 22 6 (f_PointList_n_11 p1 (s_l σ 22 5 (f_PointList_m_11 p1 σ).toInt64)).toInt64)).toInt64)).toInt64 (f_PointList_e_11 p2 (s_l (s_l (s_l σ 22 5 (f_PointList_m_11 p1 σ).toInt64) 22 6 (f_PointList_n_11 p1 (s_l σ 22 5 (f_PointList_m_11 p1 σ).toInt64)).toInt64) 22 7 (f_PointList_e_11 p1 (s_l (s_l σ 22 5 (f_PointList_m_11 p1 σ).toInt64) 22 6 (f_PointList_n_11 p1 (s_l σ 22 5 (f_PointList_m_11 p1 σ).toInt64)).toInt64)).toInt64)).toInt64 (1 : Int32) (s_l (s_l (s_l σ 22 5 (f_PointList_m_11 p1 σ).toInt64) 22 6 (f_PointList_n_11 p1 (s_l σ 22 5 (f_PointList_m_11 p1 σ).toInt64)).toInt64) 22 7 (f_PointList_e_11 p1 (s_l (s_l σ 22 5 (f_PointList_m_11 p1 σ).toInt64) 22 6 (f_PointList_n_11 p1 (s_l σ 22 5 (f_PointList_m_11 p1 σ).toInt64)).toInt64)).toInt64) h
def f_Whole_quotient (p0 : Int64) (p1 : Int64) : Int64 :=
  (if p1 ≠ (0 : Int64) then (p0 / p1) else (0 : Int64))
set_option maxRecDepth 20000 in
set_option maxHeartbeats 4000000 in
theorem c_Whole_quotient (d : Nat) (p0 : Int64) (p1 : Int64) (σ : aSt) {P : Option Value → aSt → Prop} (h : P (some (.long ((f_Whole_quotient p0 p1)))) σ) : aCall MT (d + 1) 97 [.long p0, .long p1] σ P := by
  unfold f_Whole_quotient at h
  refine call_of (code := mc_Whole_quotient) (L := [some (.long p0), none, some (.long p1), none]) rfl rfl rfl rfl ?_
  refine go_iff (lcmp_ne p1 (0 : Int64)) (k1 := 6) (L1 := [some (.long p0), none, some (.long p1), none]) (S1 := []) (σ1 := σ) (k2 := 4) (L2 := [some (.long p0), none, some (.long p1), none]) (S2 := []) (σ2 := σ) 4 (fun n h => h) (fun hc1 => ?_) (fun hc1 => ?_)
  · rw [if_pos hc1] at h
    refine go_q (Q := ¬ p1 = 0) (k' := 9) (L' := [some (.long p0), none, some (.long p1), none]) (S' := [.long (p0 / p1)]) (σ' := σ) 3 (hc1) (fun n h => h) ?_
    exact go_ret 1 (fun _ => h)
  · rw [if_neg hc1] at h
    exact go_ret 3 (fun _ => h)
def f_PointList_find_11_l52 (N : Nat) (σ : aSt) : Nat → Int64 → Int32 → Int32 → Int32 → Option Int32
  | 0, _, _, _, _ => none
  | n + 1, v7, v9, v10, v11 => (if (10 : Int32) ≤ v11 then some (-6 : Int32) else (if v10 < v9 then some (-6 : Int32) else (if ((v9 + v10) / (2 : Int32)) < 0 then some (-6 : Int32) else (if ((v9 + v10) / (2 : Int32)) < (121 : Int32) then (if (σ.2.1 15 ((v9 + v10) / (2 : Int32)).toNatClampNeg) ≠ v7 then (if v7 ≤ (σ.2.1 15 ((v9 + v10) / (2 : Int32)).toNatClampNeg) then f_PointList_find_11_l52 N σ n v7 v9 (((v9 + v10) / (2 : Int32)) - (1 : Int32)) (v11 + (1 : Int32)) else f_PointList_find_11_l52 N σ n v7 (((v9 + v10) / (2 : Int32)) + (1 : Int32)) v10 (v11 + (1 : Int32))) else some ((v9 + v10) / (2 : Int32))) else some (-6 : Int32)))))
set_option maxRecDepth 20000 in
set_option maxHeartbeats 4000000 in
theorem t_PointList_find_11_l52 (d : Nat) {N : Nat} (σ : aSt) {x : Int32} {P : Option Value → aSt → Prop} (hp : P (some (.int x)) σ) : ∀ (n : Nat) (d1 d2 d3 d4 d5 d6 d12 : Option Value) (v7 : Int64) (v9 : Int32) (v10 : Int32) (v11 : Int32), f_PointList_find_11_l52 N σ n v7 v9 v10 v11 = some x → aGo (aCall MT (d + 0)) P mc_PointList_find 52 [some (.ref 11), d1, d2, d3, d4, d5, d6, some (.long v7), none, some (.int v9), some (.int v10), some (.int v11), d12] [] σ := by
  intro n
  induction n with
  | zero => intro d1 d2 d3 d4 d5 d6 d12 v7 v9 v10 v11 h; cases h
  | succ n ih =>
    intro d1 d2 d3 d4 d5 d6 d12 v7 v9 v10 v11 h
    rw [f_PointList_find_11_l52] at h
    refine go_if (c := (10 : Int32) ≤ v11) (k1 := 100) (L1 := [some (.ref 11), d1, d2, d3, d4, d5, d6, some (.long v7), none, some (.int v9), some (.int v10), some (.int v11), d12]) (S1 := []) (σ1 := σ) (k2 := 55) (L2 := [some (.ref 11), d1, d2, d3, d4, d5, d6, some (.long v7), none, some (.int v9), some (.int v10), some (.int v11), d12]) (S2 := []) (σ2 := σ) 3 (fun n h => h) (fun hc7 => ?_) (fun hc7 => ?_)
    · rw [if_pos hc7] at h
      cases h
      exact go_ret 2 (fun _ => hp)
    · rw [if_neg hc7] at h
      refine go_if (c := v10 < v9) (k1 := 100) (L1 := [some (.ref 11), d1, d2, d3, d4, d5, d6, some (.long v7), none, some (.int v9), some (.int v10), some (.int v11), d12]) (S1 := []) (σ1 := σ) (k2 := 58) (L2 := [some (.ref 11), d1, d2, d3, d4, d5, d6, some (.long v7), none, some (.int v9), some (.int v10), some (.int v11), d12]) (S2 := []) (σ2 := σ) 3 (fun n h => h) (fun hc8 => ?_) (fun hc8 => ?_)
      · rw [if_pos hc8] at h
        cases h
        exact go_ret 2 (fun _ => hp)
      · rw [if_neg hc8] at h
        refine go_q (Q := ¬ (2 : Int32) = 0) (k' := 63) (L' := [some (.ref 11), d1, d2, d3, d4, d5, d6, some (.long v7), none, some (.int v9), some (.int v10), some (.int v11), d12]) (S' := [.int ((v9 + v10) / (2 : Int32))]) (σ' := σ) 5 (by decide) (fun n h => h) ?_
        refine go_if (c := ((v9 + v10) / (2 : Int32)) < 0) (k1 := 71) (L1 := [some (.ref 11), d1, d2, d3, d4, d5, d6, some (.long v7), none, some (.int v9), some (.int v10), some (.int v11), some (.int ((v9 + v10) / (2 : Int32)))]) (S1 := []) (σ1 := σ) (k2 := 66) (L2 := [some (.ref 11), d1, d2, d3, d4, d5, d6, some (.long v7), none, some (.int v9), some (.int v10), some (.int v11), some (.int ((v9 + v10) / (2 : Int32)))]) (S2 := []) (σ2 := σ) 3 (fun n h => h) (fun hc9 => ?_) (fun hc9 => ?_)
        · rw [if_pos hc9] at h
          cases h
          exact go_ret 2 (fun _ => hp)
        · rw [if_neg hc9] at h
          refine go_if (c := ((v9 + v10) / (2 : Int32)) < (121 : Int32)) (k1 := 73) (L1 := [some (.ref 11), d1, d2, d3, d4, d5, d6, some (.long v7), none, some (.int v9), some (.int v10), some (.int v11), some (.int ((v9 + v10) / (2 : Int32)))]) (S1 := []) (σ1 := σ) (k2 := 71) (L2 := [some (.ref 11), d1, d2, d3, d4, d5, d6, some (.long v7), none, some (.int v9), some (.int v10), some (.int v11), some (.int ((v9 + v10) / (2 : Int32)))]) (S2 := []) (σ2 := σ) 5 (fun n h => h) (fun hc10 => ?_) (fun hc10 => ?_)
          · rw [if_pos hc10] at h
            refine go_q (Q := inb 1 σ 15 ((v9 + v10) / (2 : Int32))) (k' := 77) (L' := [some (.ref 11), d1, d2, d3, d4, d5, d6, some (.long v7), none, some (.int v9), some (.int v10), some (.int v11), some (.int ((v9 + v10) / (2 : Int32)))]) (S' := [.long (σ.2.1 15 ((v9 + v10) / (2 : Int32)).toNatClampNeg)]) (σ' := σ) 4 (inb_mk rfl (Int32.not_lt.mp hc9) (hc10)) (fun n h => h) ?_
            refine go_iff (lcmp_ne (σ.2.1 15 ((v9 + v10) / (2 : Int32)).toNatClampNeg) v7) (k1 := 82) (L1 := [some (.ref 11), d1, d2, d3, d4, d5, d6, some (.long v7), none, some (.int v9), some (.int v10), some (.int v11), some (.int ((v9 + v10) / (2 : Int32)))]) (S1 := []) (σ1 := σ) (k2 := 80) (L2 := [some (.ref 11), d1, d2, d3, d4, d5, d6, some (.long v7), none, some (.int v9), some (.int v10), some (.int v11), some (.int ((v9 + v10) / (2 : Int32)))]) (S2 := []) (σ2 := σ) 3 (fun n h => h) (fun hc11 => ?_) (fun hc11 => ?_)
            · rw [if_pos hc11] at h
              refine go_q (Q := inb 1 σ 15 ((v9 + v10) / (2 : Int32))) (k' := 86) (L' := [some (.ref 11), d1, d2, d3, d4, d5, d6, some (.long v7), none, some (.int v9), some (.int v10), some (.int v11), some (.int ((v9 + v10) / (2 : Int32)))]) (S' := [.long (σ.2.1 15 ((v9 + v10) / (2 : Int32)).toNatClampNeg)]) (σ' := σ) 4 (inb_mk rfl (Int32.not_lt.mp hc9) (hc10)) (fun n h => h) ?_
              refine go_iff (lcmp_ge (σ.2.1 15 ((v9 + v10) / (2 : Int32)).toNatClampNeg) v7) (k1 := 94) (L1 := [some (.ref 11), d1, d2, d3, d4, d5, d6, some (.long v7), none, some (.int v9), some (.int v10), some (.int v11), some (.int ((v9 + v10) / (2 : Int32)))]) (S1 := []) (σ1 := σ) (k2 := 89) (L2 := [some (.ref 11), d1, d2, d3, d4, d5, d6, some (.long v7), none, some (.int v9), some (.int v10), some (.int v11), some (.int ((v9 + v10) / (2 : Int32)))]) (S2 := []) (σ2 := σ) 3 (fun n h => h) (fun hc12 => ?_) (fun hc12 => ?_)
              · rw [if_pos hc12] at h
                refine go_st (k' := 52) (L' := [some (.ref 11), d1, d2, d3, d4, d5, d6, some (.long v7), none, some (.int v9), some (.int (((v9 + v10) / (2 : Int32)) - (1 : Int32))), some (.int (v11 + (1 : Int32))), some (.int ((v9 + v10) / (2 : Int32)))]) (S' := []) (σ' := σ) 6 (fun n h => h) ?_
                exact ih _ _ _ _ _ _ _ v7 v9 (((v9 + v10) / (2 : Int32)) - (1 : Int32)) (v11 + (1 : Int32)) h
              · rw [if_neg hc12] at h
                refine go_st (k' := 52) (L' := [some (.ref 11), d1, d2, d3, d4, d5, d6, some (.long v7), none, some (.int (((v9 + v10) / (2 : Int32)) + (1 : Int32))), some (.int v10), some (.int (v11 + (1 : Int32))), some (.int ((v9 + v10) / (2 : Int32)))]) (S' := []) (σ' := σ) 7 (fun n h => h) ?_
                exact ih _ _ _ _ _ _ _ v7 (((v9 + v10) / (2 : Int32)) + (1 : Int32)) v10 (v11 + (1 : Int32)) h
            · rw [if_neg hc11] at h
              cases h
              exact go_ret 2 (fun _ => hp)
          · rw [if_neg hc10] at h
            cases h
            exact go_ret 2 (fun _ => hp)
def f_PointList_find_11 (N : Nat) (p0 : Int64) (p1 : Int64) (p2 : Int64) (σ : aSt) : Option Int32 :=
  (if p0 < (-(σ.1 11 8)).toInt64 then some (-6 : Int32) else (if (σ.1 11 8).toInt64 < p0 then some (-6 : Int32) else (if p2 < (1 : Int64) then some (-6 : Int32) else (if (σ.1 11 9).toInt64 < p2 then some (-6 : Int32) else (if p1 < (-1048576 : Int64) then some (-6 : Int32) else (if p1 ≤ (1048576 : Int64) then f_PointList_find_11_l52 N σ N ((((p2 * (2097153 : Int64)) + p0) * (2097153 : Int64)) + p1) (0 : Int32) ((σ.1 11 5) - (1 : Int32)) (0 : Int32) else some (-6 : Int32)))))))
set_option maxRecDepth 20000 in
set_option maxHeartbeats 4000000 in
theorem c_PointList_find_11 (d : Nat) {N : Nat} (p0 : Int64) (p1 : Int64) (p2 : Int64) (σ : aSt) {P : Option Value → aSt → Prop} {x : Int32} (h : f_PointList_find_11 N p0 p1 p2 σ = some x) (hp : P (some (.int x)) σ) : aCall MT (d + 1) 98 [.ref 11, .long p0, .long p1, .long p2] σ P := by
  unfold f_PointList_find_11 at h
  refine call_of (code := mc_PointList_find) (L := [some (.ref 11), some (.long p0), none, some (.long p1), none, some (.long p2), none, none, none, none, none, none, none]) rfl rfl rfl rfl ?_
  refine go_iff (lcmp_lt p0 (-(σ.1 11 8)).toInt64) (k1 := 31) (L1 := [some (.ref 11), some (.long p0), none, some (.long p1), none, some (.long p2), none, none, none, none, none, none, none]) (S1 := []) (σ1 := σ) (k2 := 7) (L2 := [some (.ref 11), some (.long p0), none, some (.long p1), none, some (.long p2), none, none, none, none, none, none, none]) (S2 := []) (σ2 := σ) 7 (fun n h => h) (fun hc1 => ?_) (fun hc1 => ?_)
  · rw [if_pos hc1] at h
    cases h
    exact go_ret 2 (fun _ => hp)
  · rw [if_neg hc1] at h
    refine go_iff (lcmp_gt p0 (σ.1 11 8).toInt64) (k1 := 31) (L1 := [some (.ref 11), some (.long p0), none, some (.long p1), none, some (.long p2), none, none, none, none, none, none, none]) (S1 := []) (σ1 := σ) (k2 := 13) (L2 := [some (.ref 11), some (.long p0), none, some (.long p1), none, some (.long p2), none, none, none, none, none, none, none]) (S2 := []) (σ2 := σ) 6 (fun n h => h) (fun hc2 => ?_) (fun hc2 => ?_)
    · rw [if_pos hc2] at h
      cases h
      exact go_ret 2 (fun _ => hp)
    · rw [if_neg hc2] at h
      refine go_iff (lcmp_lt p2 (1 : Int64)) (k1 := 31) (L1 := [some (.ref 11), some (.long p0), none, some (.long p1), none, some (.long p2), none, none, none, none, none, none, none]) (S1 := []) (σ1 := σ) (k2 := 17) (L2 := [some (.ref 11), some (.long p0), none, some (.long p1), none, some (.long p2), none, none, none, none, none, none, none]) (S2 := []) (σ2 := σ) 4 (fun n h => h) (fun hc3 => ?_) (fun hc3 => ?_)
      · rw [if_pos hc3] at h
        cases h
        exact go_ret 2 (fun _ => hp)
      · rw [if_neg hc3] at h
        refine go_iff (lcmp_gt p2 (σ.1 11 9).toInt64) (k1 := 31) (L1 := [some (.ref 11), some (.long p0), none, some (.long p1), none, some (.long p2), none, none, none, none, none, none, none]) (S1 := []) (σ1 := σ) (k2 := 23) (L2 := [some (.ref 11), some (.long p0), none, some (.long p1), none, some (.long p2), none, none, none, none, none, none, none]) (S2 := []) (σ2 := σ) 6 (fun n h => h) (fun hc4 => ?_) (fun hc4 => ?_)
        · rw [if_pos hc4] at h
          cases h
          exact go_ret 2 (fun _ => hp)
        · rw [if_neg hc4] at h
          refine go_iff (lcmp_lt p1 (-1048576 : Int64)) (k1 := 31) (L1 := [some (.ref 11), some (.long p0), none, some (.long p1), none, some (.long p2), none, none, none, none, none, none, none]) (S1 := []) (σ1 := σ) (k2 := 27) (L2 := [some (.ref 11), some (.long p0), none, some (.long p1), none, some (.long p2), none, none, none, none, none, none, none]) (S2 := []) (σ2 := σ) 4 (fun n h => h) (fun hc5 => ?_) (fun hc5 => ?_)
          · rw [if_pos hc5] at h
            cases h
            exact go_ret 2 (fun _ => hp)
          · rw [if_neg hc5] at h
            refine go_iff (lcmp_le p1 (1048576 : Int64)) (k1 := 33) (L1 := [some (.ref 11), some (.long p0), none, some (.long p1), none, some (.long p2), none, none, none, none, none, none, none]) (S1 := []) (σ1 := σ) (k2 := 31) (L2 := [some (.ref 11), some (.long p0), none, some (.long p1), none, some (.long p2), none, none, none, none, none, none, none]) (S2 := []) (σ2 := σ) 4 (fun n h => h) (fun hc6 => ?_) (fun hc6 => ?_)
            · rw [if_pos hc6] at h
              refine go_st (k' := 52) (L' := [some (.ref 11), some (.long p0), none, some (.long p1), none, some (.long p2), none, some (.long ((((p2 * (2097153 : Int64)) + p0) * (2097153 : Int64)) + p1)), none, some (.int (0 : Int32)), some (.int ((σ.1 11 5) - (1 : Int32))), some (.int (0 : Int32)), none]) (S' := []) (σ' := σ) 19 (fun n h => h) ?_
              exact t_PointList_find_11_l52 d σ hp N _ _ _ _ _ _ _ ((((p2 * (2097153 : Int64)) + p0) * (2097153 : Int64)) + p1) (0 : Int32) ((σ.1 11 5) - (1 : Int32)) (0 : Int32) h
            · rw [if_neg hc6] at h
              cases h
              exact go_ret 2 (fun _ => hp)
def f_Adder_placeIn_11_l25 (N : Nat) (σ : aSt) : Nat → Int32 → Option Int32
  | 0, _ => none
  | n + 1, v2 => (if (f_PointList_deepest_11 σ) < v2 then some (-6 : Int32) else (if ¬ (σ.2.1 22 2) = 0 then (if (lrem ((σ.2.1 22 1) * (v2.toInt64 * v2.toInt64)) (σ.2.1 22 2)) = (0 : Int64) then ((f_PointList_find_11 N (((σ.2.1 22 1) * (v2.toInt64 * v2.toInt64)) / (σ.2.1 22 2)) (f_Whole_quotient (v2.toInt64 * ((((σ.2.1 22 3) * (((σ.2.1 22 5) * (v2.toInt64 * v2.toInt64)) - (((((σ.2.1 22 1) * (v2.toInt64 * v2.toInt64)) / (σ.2.1 22 2)) * (σ.2.1 22 7)) * (σ.2.1 22 7)))) * (σ.2.1 22 7)) - (((σ.2.1 22 6) * (σ.2.1 22 4)) * (v2.toInt64 * v2.toInt64)))) ((((σ.2.1 22 4) * (σ.2.1 22 7)) * (σ.2.1 22 7)) * (σ.2.1 22 7))) v2.toInt64 σ).bind fun x7 => some x7) else f_Adder_placeIn_11_l25 N σ n (v2 + (1 : Int32))) else none))
set_option maxRecDepth 20000 in
set_option maxHeartbeats 4000000 in
theorem t_Adder_placeIn_11_l25 (d : Nat) {N : Nat} (σ : aSt) {x : Int32} {P : Option Value → aSt → Prop} (hp : P (some (.int x)) σ) : ∀ (n : Nat) (d3 d4 d5 d6 d7 d8 : Option Value) (v2 : Int32), f_Adder_placeIn_11_l25 N σ n v2 = some x → aGo (aCall MT (d + 1)) P mc_Adder_placeIn 25 [some (.ref 22), some (.ref 11), some (.int v2), d3, d4, d5, d6, d7, d8] [] σ := by
  intro n
  induction n with
  | zero => intro d3 d4 d5 d6 d7 d8 v2 h; cases h
  | succ n ih =>
    intro d3 d4 d5 d6 d7 d8 v2 h
    rw [f_Adder_placeIn_11_l25] at h
    refine go_call (r := some (.int (f_PointList_deepest_11 σ))) (σc := σ) (σ1 := σ) (mi := 70) (vs := [.ref 11]) (k' := 28) (L' := [some (.ref 22), some (.ref 11), some (.int v2), d3, d4, d5, d6, d7, d8]) (S' := [.int v2]) 3 (fun P9 h9 => c_PointList_deepest_11 (d + 0) σ h9) (fun n h => h) ?_
    refine go_if (c := (f_PointList_deepest_11 σ) < v2) (k1 := 105) (L1 := [some (.ref 22), some (.ref 11), some (.int v2), d3, d4, d5, d6, d7, d8]) (S1 := []) (σ1 := σ) (k2 := 29) (L2 := [some (.ref 22), some (.ref 11), some (.int v2), d3, d4, d5, d6, d7, d8]) (S2 := []) (σ2 := σ) 1 (fun n h => h) (fun hc4 => ?_) (fun hc4 => ?_)
    · rw [if_pos hc4] at h
      cases h
      exact go_ret 2 (fun _ => hp)
    · rw [if_neg hc4] at h
      obtain ⟨hc5, h⟩ := ite_of h
      refine go_q (Q := ¬ (σ.2.1 22 2) = 0) (k' := 42) (L' := [some (.ref 22), some (.ref 11), some (.int v2), some (.long (v2.toInt64 * v2.toInt64)), none, d5, d6, d7, d8]) (S' := [.long (lrem ((σ.2.1 22 1) * (v2.toInt64 * v2.toInt64)) (σ.2.1 22 2))]) (σ' := σ) 13 hc5 (fun n h => h) ?_
      refine go_iff (lcmp_eq (lrem ((σ.2.1 22 1) * (v2.toInt64 * v2.toInt64)) (σ.2.1 22 2)) (0 : Int64)) (k1 := 46) (L1 := [some (.ref 22), some (.ref 11), some (.int v2), some (.long (v2.toInt64 * v2.toInt64)), none, d5, d6, d7, d8]) (S1 := []) (σ1 := σ) (k2 := 45) (L2 := [some (.ref 22), some (.ref 11), some (.int v2), some (.long (v2.toInt64 * v2.toInt64)), none, d5, d6, d7, d8]) (S2 := []) (σ2 := σ) 3 (fun n h => h) (fun hc6 => ?_) (fun hc6 => ?_)
      · rw [if_pos hc6] at h
        refine go_q (Q := ¬ (σ.2.1 22 2) = 0) (k' := 53) (L' := [some (.ref 22), some (.ref 11), some (.int v2), some (.long (v2.toInt64 * v2.toInt64)), none, d5, d6, d7, d8]) (S' := [.long (((σ.2.1 22 1) * (v2.toInt64 * v2.toInt64)) / (σ.2.1 22 2))]) (σ' := σ) 7 (hc5) (fun n h => h) ?_
        refine go_call (r := some (.long (f_Whole_quotient (v2.toInt64 * ((((σ.2.1 22 3) * (((σ.2.1 22 5) * (v2.toInt64 * v2.toInt64)) - (((((σ.2.1 22 1) * (v2.toInt64 * v2.toInt64)) / (σ.2.1 22 2)) * (σ.2.1 22 7)) * (σ.2.1 22 7)))) * (σ.2.1 22 7)) - (((σ.2.1 22 6) * (σ.2.1 22 4)) * (v2.toInt64 * v2.toInt64)))) ((((σ.2.1 22 4) * (σ.2.1 22 7)) * (σ.2.1 22 7)) * (σ.2.1 22 7))))) (σc := σ) (σ1 := σ) (mi := 97) (vs := [.long (v2.toInt64 * ((((σ.2.1 22 3) * (((σ.2.1 22 5) * (v2.toInt64 * v2.toInt64)) - (((((σ.2.1 22 1) * (v2.toInt64 * v2.toInt64)) / (σ.2.1 22 2)) * (σ.2.1 22 7)) * (σ.2.1 22 7)))) * (σ.2.1 22 7)) - (((σ.2.1 22 6) * (σ.2.1 22 4)) * (v2.toInt64 * v2.toInt64)))), .long ((((σ.2.1 22 4) * (σ.2.1 22 7)) * (σ.2.1 22 7)) * (σ.2.1 22 7))]) (k' := 99) (L' := [some (.ref 22), some (.ref 11), some (.int v2), some (.long (v2.toInt64 * v2.toInt64)), none, some (.long (((σ.2.1 22 1) * (v2.toInt64 * v2.toInt64)) / (σ.2.1 22 2))), none, some (.long ((((σ.2.1 22 3) * (((σ.2.1 22 5) * (v2.toInt64 * v2.toInt64)) - (((((σ.2.1 22 1) * (v2.toInt64 * v2.toInt64)) / (σ.2.1 22 2)) * (σ.2.1 22 7)) * (σ.2.1 22 7)))) * (σ.2.1 22 7)) - (((σ.2.1 22 6) * (σ.2.1 22 4)) * (v2.toInt64 * v2.toInt64)))), none]) (S' := [.long (((σ.2.1 22 1) * (v2.toInt64 * v2.toInt64)) / (σ.2.1 22 2)), .ref 11]) 46 (fun P9 h9 => c_Whole_quotient (d + 0) (v2.toInt64 * ((((σ.2.1 22 3) * (((σ.2.1 22 5) * (v2.toInt64 * v2.toInt64)) - (((((σ.2.1 22 1) * (v2.toInt64 * v2.toInt64)) / (σ.2.1 22 2)) * (σ.2.1 22 7)) * (σ.2.1 22 7)))) * (σ.2.1 22 7)) - (((σ.2.1 22 6) * (σ.2.1 22 4)) * (v2.toInt64 * v2.toInt64)))) ((((σ.2.1 22 4) * (σ.2.1 22 7)) * (σ.2.1 22 7)) * (σ.2.1 22 7)) σ h9) (fun n h => h) ?_
        obtain ⟨x7, hx7, h⟩ := bind_of h
        refine go_call (r := some (.int x7)) (σc := σ) (σ1 := σ) (mi := 98) (vs := [.ref 11, .long (((σ.2.1 22 1) * (v2.toInt64 * v2.toInt64)) / (σ.2.1 22 2)), .long (f_Whole_quotient (v2.toInt64 * ((((σ.2.1 22 3) * (((σ.2.1 22 5) * (v2.toInt64 * v2.toInt64)) - (((((σ.2.1 22 1) * (v2.toInt64 * v2.toInt64)) / (σ.2.1 22 2)) * (σ.2.1 22 7)) * (σ.2.1 22 7)))) * (σ.2.1 22 7)) - (((σ.2.1 22 6) * (σ.2.1 22 4)) * (v2.toInt64 * v2.toInt64)))) ((((σ.2.1 22 4) * (σ.2.1 22 7)) * (σ.2.1 22 7)) * (σ.2.1 22 7))), .long v2.toInt64]) (k' := 102) (L' := [some (.ref 22), some (.ref 11), some (.int v2), some (.long (v2.toInt64 * v2.toInt64)), none, some (.long (((σ.2.1 22 1) * (v2.toInt64 * v2.toInt64)) / (σ.2.1 22 2))), none, some (.long ((((σ.2.1 22 3) * (((σ.2.1 22 5) * (v2.toInt64 * v2.toInt64)) - (((((σ.2.1 22 1) * (v2.toInt64 * v2.toInt64)) / (σ.2.1 22 2)) * (σ.2.1 22 7)) * (σ.2.1 22 7)))) * (σ.2.1 22 7)) - (((σ.2.1 22 6) * (σ.2.1 22 4)) * (v2.toInt64 * v2.toInt64)))), none]) (S' := []) 3 (fun P9 h9 => c_PointList_find_11 (d + 0) (((σ.2.1 22 1) * (v2.toInt64 * v2.toInt64)) / (σ.2.1 22 2)) (f_Whole_quotient (v2.toInt64 * ((((σ.2.1 22 3) * (((σ.2.1 22 5) * (v2.toInt64 * v2.toInt64)) - (((((σ.2.1 22 1) * (v2.toInt64 * v2.toInt64)) / (σ.2.1 22 2)) * (σ.2.1 22 7)) * (σ.2.1 22 7)))) * (σ.2.1 22 7)) - (((σ.2.1 22 6) * (σ.2.1 22 4)) * (v2.toInt64 * v2.toInt64)))) ((((σ.2.1 22 4) * (σ.2.1 22 7)) * (σ.2.1 22 7)) * (σ.2.1 22 7))) v2.toInt64 σ hx7 h9) (fun n h => h) ?_
        cases h
        exact go_ret 1 (fun _ => hp)
      · rw [if_neg hc6] at h
        refine go_st (k' := 25) (L' := [some (.ref 22), some (.ref 11), some (.int (v2 + (1 : Int32))), some (.long (v2.toInt64 * v2.toInt64)), none, d5, d6, d7, d8]) (S' := []) (σ' := σ) 3 (fun n h => h) ?_
        exact ih _ _ _ _ _ _ (v2 + (1 : Int32)) h
def f_Adder_placeIn_11 (N : Nat) (σ : aSt) : Option Int32 :=
  (if (σ.2.2 22 0) = true then some (1000 : Int32) else (if (σ.2.1 22 2) ≤ (0 : Int64) then some (-6 : Int32) else (if (labs (σ.2.1 22 1)) ≤ ((f_PointList_most_11 σ).toInt64 * (σ.2.1 22 2)) then f_Adder_placeIn_11_l25 N σ N (1 : Int32) else some (-6 : Int32))))
set_option maxRecDepth 20000 in
set_option maxHeartbeats 4000000 in
theorem c_Adder_placeIn_11 (d : Nat) {N : Nat} (σ : aSt) {P : Option Value → aSt → Prop} {x : Int32} (h : f_Adder_placeIn_11 N σ = some x) (hp : P (some (.int x)) σ) : aCall MT (d + 2) 99 [.ref 22, .ref 11] σ P := by
  unfold f_Adder_placeIn_11 at h
  refine call_of (code := mc_Adder_placeIn) (L := [some (.ref 22), some (.ref 11), none, none, none, none, none, none, none]) rfl rfl rfl rfl ?_
  refine go_ifz (b := (σ.2.2 22 0)) (k1 := 5) (L1 := [some (.ref 22), some (.ref 11), none, none, none, none, none, none, none]) (S1 := []) (σ1 := σ) (k2 := 3) (L2 := [some (.ref 22), some (.ref 11), none, none, none, none, none, none, none]) (S2 := []) (σ2 := σ) 3 (fun n h => h) (fun hc1 => ?_) (fun hc1 => ?_)
  · rw [if_neg hc1] at h
    refine go_iff (lcmp_le (σ.2.1 22 2) (0 : Int64)) (k1 := 21) (L1 := [some (.ref 22), some (.ref 11), none, none, none, none, none, none, none]) (S1 := []) (σ1 := σ) (k2 := 10) (L2 := [some (.ref 22), some (.ref 11), none, none, none, none, none, none, none]) (S2 := []) (σ2 := σ) 5 (fun n h => h) (fun hc2 => ?_) (fun hc2 => ?_)
    · rw [if_pos hc2] at h
      cases h
      exact go_ret 2 (fun _ => hp)
    · rw [if_neg hc2] at h
      refine go_call (r := some (.int (f_PointList_most_11 σ))) (σc := σ) (σ1 := σ) (mi := 69) (vs := [.ref 11]) (k' := 15) (L' := [some (.ref 22), some (.ref 11), none, none, none, none, none, none, none]) (S' := [.long (labs (σ.2.1 22 1))]) 5 (fun P9 h9 => c_PointList_most_11 (d + 0) σ h9) (fun n h => h) ?_
      refine go_iff (lcmp_le (labs (σ.2.1 22 1)) ((f_PointList_most_11 σ).toInt64 * (σ.2.1 22 2))) (k1 := 23) (L1 := [some (.ref 22), some (.ref 11), none, none, none, none, none, none, none]) (S1 := []) (σ1 := σ) (k2 := 21) (L2 := [some (.ref 22), some (.ref 11), none, none, none, none, none, none, none]) (S2 := []) (σ2 := σ) 6 (fun n h => h) (fun hc3 => ?_) (fun hc3 => ?_)
      · rw [if_pos hc3] at h
        refine go_st (k' := 25) (L' := [some (.ref 22), some (.ref 11), some (.int (1 : Int32)), none, none, none, none, none, none]) (S' := []) (σ' := σ) 2 (fun n h => h) ?_
        exact t_Adder_placeIn_11_l25 d σ hp N _ _ _ _ _ _ (1 : Int32) h
      · rw [if_neg hc3] at h
        cases h
        exact go_ret 2 (fun _ => hp)
  · rw [if_pos hc1] at h
    cases h
    exact go_ret 2 (fun _ => hp)
def f_Sums_heldTotal (N : Nat) (p0 : Int32) (p1 : Int32) (σ : aSt) : Option (Int32 × aSt) :=
  (if p0 = (-6 : Int32) then some ((-6 : Int32), σ) else (if p1 ≠ (-6 : Int32) then (if p0 ≠ (1000 : Int32) then (if p1 ≠ (1000 : Int32) then (lt (f_Adder_join_11 p0 p1 σ) fun x5 => ((f_Adder_placeIn_11 N x5).bind fun x6 => some (x6, x5))) else some (p0, σ)) else some (p1, σ)) else some ((-6 : Int32), σ)))
set_option maxRecDepth 20000 in
set_option maxHeartbeats 4000000 in
theorem c_Sums_heldTotal (d : Nat) {N : Nat} (p0 : Int32) (p1 : Int32) (σ : aSt) {P : Option Value → aSt → Prop} {x : (Int32 × aSt)} (h : f_Sums_heldTotal N p0 p1 σ = some x) (hp : P (some (.int x.1)) x.2) : aCall MT (d + 3) 100 [.ref 21, .int p0, .int p1] σ P := by
  unfold f_Sums_heldTotal at h
  refine call_of (code := mc_Sums_heldTotal) (L := [some (.ref 21), some (.int p0), some (.int p1)]) rfl rfl rfl rfl ?_
  refine go_if (c := p0 = (-6 : Int32)) (k1 := 6) (L1 := [some (.ref 21), some (.int p0), some (.int p1)]) (S1 := []) (σ1 := σ) (k2 := 3) (L2 := [some (.ref 21), some (.int p0), some (.int p1)]) (S2 := []) (σ2 := σ) 3 (fun n h => h) (fun hc1 => ?_) (fun hc1 => ?_)
  · rw [if_pos hc1] at h
    cases h
    exact go_ret 2 (fun _ => hp)
  · rw [if_neg hc1] at h
    refine go_if (c := p1 ≠ (-6 : Int32)) (k1 := 8) (L1 := [some (.ref 21), some (.int p0), some (.int p1)]) (S1 := []) (σ1 := σ) (k2 := 6) (L2 := [some (.ref 21), some (.int p0), some (.int p1)]) (S2 := []) (σ2 := σ) 3 (fun n h => h) (fun hc2 => ?_) (fun hc2 => ?_)
    · rw [if_pos hc2] at h
      refine go_if (c := p0 ≠ (1000 : Int32)) (k1 := 13) (L1 := [some (.ref 21), some (.int p0), some (.int p1)]) (S1 := []) (σ1 := σ) (k2 := 11) (L2 := [some (.ref 21), some (.int p0), some (.int p1)]) (S2 := []) (σ2 := σ) 3 (fun n h => h) (fun hc3 => ?_) (fun hc3 => ?_)
      · rw [if_pos hc3] at h
        refine go_if (c := p1 ≠ (1000 : Int32)) (k1 := 18) (L1 := [some (.ref 21), some (.int p0), some (.int p1)]) (S1 := []) (σ1 := σ) (k2 := 16) (L2 := [some (.ref 21), some (.int p0), some (.int p1)]) (S2 := []) (σ2 := σ) 3 (fun n h => h) (fun hc4 => ?_) (fun hc4 => ?_)
        · rw [if_pos hc4] at h
          obtain ⟨x5, hx5, h⟩ := lt_of h
          refine go_call (r := none) (σc := σ) (σ1 := x5) (mi := 96) (vs := [.ref 22, .ref 11, .int p0, .int p1]) (k' := 25) (L' := [some (.ref 21), some (.int p0), some (.int p1)]) (S' := []) 7 (fun P9 h9 => c_Adder_join_11 (d + 0) p0 p1 σ (by rw [← hx5]; exact h9)) (fun n h => h) ?_
          obtain ⟨x6, hx6, h⟩ := bind_of h
          refine go_call (r := some (.int x6)) (σc := x5) (σ1 := x5) (mi := 99) (vs := [.ref 22, .ref 11]) (k' := 30) (L' := [some (.ref 21), some (.int p0), some (.int p1)]) (S' := []) 5 (fun P9 h9 => c_Adder_placeIn_11 (d + 0) x5 hx6 h9) (fun n h => h) ?_
          cases h
          exact go_ret 1 (fun _ => hp)
        · rw [if_neg hc4] at h
          cases h
          exact go_ret 2 (fun _ => hp)
      · rw [if_neg hc3] at h
        cases h
        exact go_ret 2 (fun _ => hp)
    · rw [if_neg hc2] at h
      cases h
      exact go_ret 2 (fun _ => hp)
def f_Sums_total (N : Nat) (p0 : Int32) (p1 : Int32) (σ : aSt) : Option (Int32 × aSt) :=
  ((f_Sums_heldTotal N p0 p1 σ).bind fun x1 => some ((f_Sums_shownOnly x1.1 x1.2), x1.2))
set_option maxRecDepth 20000 in
set_option maxHeartbeats 4000000 in
theorem c_Sums_total (d : Nat) {N : Nat} (p0 : Int32) (p1 : Int32) (σ : aSt) {P : Option Value → aSt → Prop} {x : (Int32 × aSt)} (h : f_Sums_total N p0 p1 σ = some x) (hp : P (some (.int x.1)) x.2) : aCall MT (d + 4) 101 [.ref 21, .int p0, .int p1] σ P := by
  unfold f_Sums_total at h
  refine call_of (code := mc_Sums_total) (L := [some (.ref 21), some (.int p0), some (.int p1)]) rfl rfl rfl rfl ?_
  obtain ⟨x1, hx1, h⟩ := bind_of h
  refine go_call (r := some (.int x1.1)) (σc := σ) (σ1 := x1.2) (mi := 100) (vs := [.ref 21, .int p0, .int p1]) (k' := 5) (L' := [some (.ref 21), some (.int p0), some (.int p1)]) (S' := [.ref 21]) 5 (fun P9 h9 => c_Sums_heldTotal (d + 0) p0 p1 σ hx1 h9) (fun n h => h) ?_
  refine go_call (r := some (.int (f_Sums_shownOnly x1.1 x1.2))) (σc := x1.2) (σ1 := x1.2) (mi := 88) (vs := [.ref 21, .int x1.1]) (k' := 6) (L' := [some (.ref 21), some (.int p0), some (.int p1)]) (S' := []) 1 (fun P9 h9 => c_Sums_shownOnly (d + 1) x1.1 x1.2 h9) (fun n h => h) ?_
  cases h
  exact go_ret 1 (fun _ => hp)
def f_X_sum (N : Nat) (p0 : Int32) (p1 : Int32) (σ : aSt) : Option (Int32 × aSt) :=
  (if (f_X_isPoint p0 σ) = true then (if (f_X_isPoint p1 σ) = true then ((f_Sums_total N p0 p1 σ).bind fun x3 => some (x3.1, x3.2)) else some ((-2 : Int32), σ)) else some ((-2 : Int32), σ))
set_option maxRecDepth 20000 in
set_option maxHeartbeats 4000000 in
theorem c_X_sum (d : Nat) {N : Nat} (p0 : Int32) (p1 : Int32) (σ : aSt) {P : Option Value → aSt → Prop} {x : (Int32 × aSt)} (h : f_X_sum N p0 p1 σ = some x) (hp : P (some (.int x.1)) x.2) : aCall MT (d + 5) 102 [.ref 0, .int p0, .int p1] σ P := by
  unfold f_X_sum at h
  refine call_of (code := mc_X_sum) (L := [some (.ref 0), some (.int p0), some (.int p1)]) rfl rfl rfl rfl ?_
  refine go_call (r := some (.int (b2i (f_X_isPoint p0 σ)))) (σc := σ) (σ1 := σ) (mi := 85) (vs := [.ref 0, .int p0]) (k' := 3) (L' := [some (.ref 0), some (.int p0), some (.int p1)]) (S' := []) 3 (fun P9 h9 => c_X_isPoint (d + 1) p0 σ h9) (fun n h => h) ?_
  refine go_ifz (b := (f_X_isPoint p0 σ)) (k1 := 14) (L1 := [some (.ref 0), some (.int p0), some (.int p1)]) (S1 := []) (σ1 := σ) (k2 := 4) (L2 := [some (.ref 0), some (.int p0), some (.int p1)]) (S2 := []) (σ2 := σ) 1 (fun n h => h) (fun hc1 => ?_) (fun hc1 => ?_)
  · rw [if_neg hc1] at h
    cases h
    exact go_ret 2 (fun _ => hp)
  · rw [if_pos hc1] at h
    refine go_call (r := some (.int (b2i (f_X_isPoint p1 σ)))) (σc := σ) (σ1 := σ) (mi := 85) (vs := [.ref 0, .int p1]) (k' := 7) (L' := [some (.ref 0), some (.int p0), some (.int p1)]) (S' := []) 3 (fun P9 h9 => c_X_isPoint (d + 1) p1 σ h9) (fun n h => h) ?_
    refine go_ifz (b := (f_X_isPoint p1 σ)) (k1 := 14) (L1 := [some (.ref 0), some (.int p0), some (.int p1)]) (S1 := []) (σ1 := σ) (k2 := 8) (L2 := [some (.ref 0), some (.int p0), some (.int p1)]) (S2 := []) (σ2 := σ) 1 (fun n h => h) (fun hc2 => ?_) (fun hc2 => ?_)
    · rw [if_neg hc2] at h
      cases h
      exact go_ret 2 (fun _ => hp)
    · rw [if_pos hc2] at h
      obtain ⟨x3, hx3, h⟩ := bind_of h
      refine go_call (r := some (.int x3.1)) (σc := σ) (σ1 := x3.2) (mi := 101) (vs := [.ref 21, .int p0, .int p1]) (k' := 13) (L' := [some (.ref 0), some (.int p0), some (.int p1)]) (S' := []) 5 (fun P9 h9 => c_Sums_total (d + 0) p0 p1 σ hx3 h9) (fun n h => h) ?_
      cases h
      exact go_ret 2 (fun _ => hp)
def f_Adder_reduce (N : Nat) (σ : aSt) : Option aSt :=
  (if (σ.2.2 22 0) = true then some σ else ((f_Whole_gcd N (σ.2.1 22 1) (σ.2.1 22 2)).bind fun x2 => some (s_l (s_l σ 22 1 (f_Whole_quotient (σ.2.1 22 1) x2)) 22 2 (f_Whole_quotient (σ.2.1 22 2) x2))))
set_option maxRecDepth 20000 in
set_option maxHeartbeats 4000000 in
theorem c_Adder_reduce (d : Nat) {N : Nat} (σ : aSt) {P : Option Value → aSt → Prop} {x : aSt} (h : f_Adder_reduce N σ = some x) (hp : P none x) : aCall MT (d + 2) 107 [.ref 22] σ P := by
  unfold f_Adder_reduce at h
  refine call_of (code := mc_Adder_reduce) (L := [some (.ref 22), none, none]) rfl rfl rfl rfl ?_
  refine go_ifz (b := (σ.2.2 22 0)) (k1 := 4) (L1 := [some (.ref 22), none, none]) (S1 := []) (σ1 := σ) (k2 := 3) (L2 := [some (.ref 22), none, none]) (S2 := []) (σ2 := σ) 3 (fun n h => h) (fun hc1 => ?_) (fun hc1 => ?_)
  · rw [if_neg hc1] at h
    obtain ⟨x2, hx2, h⟩ := bind_of h
    refine go_call (r := some (.long x2)) (σc := σ) (σ1 := σ) (mi := 38) (vs := [.long (σ.2.1 22 1), .long (σ.2.1 22 2)]) (k' := 9) (L' := [some (.ref 22), none, none]) (S' := []) 5 (fun P9 h9 => c_Whole_gcd (d + 0) (σ.2.1 22 1) (σ.2.1 22 2) σ hx2 h9) (fun n h => h) ?_
    refine go_call (r := some (.long (f_Whole_quotient (σ.2.1 22 1) x2))) (σc := σ) (σ1 := σ) (mi := 97) (vs := [.long (σ.2.1 22 1), .long x2]) (k' := 15) (L' := [some (.ref 22), some (.long x2), none]) (S' := [.ref 22]) 6 (fun P9 h9 => c_Whole_quotient (d + 0) (σ.2.1 22 1) x2 σ h9) (fun n h => h) ?_
    refine go_call (r := some (.long (f_Whole_quotient (σ.2.1 22 2) x2))) (σc := (s_l σ 22 1 (f_Whole_quotient (σ.2.1 22 1) x2))) (σ1 := (s_l σ 22 1 (f_Whole_quotient (σ.2.1 22 1) x2))) (mi := 97) (vs := [.long (σ.2.1 22 2), .long x2]) (k' := 21) (L' := [some (.ref 22), some (.long x2), none]) (S' := [.ref 22]) 6 (fun P9 h9 => c_Whole_quotient (d + 0) (σ.2.1 22 2) x2 (s_l σ 22 1 (f_Whole_quotient (σ.2.1 22 1) x2)) h9) (fun n h => h) ?_
    cases h
    exact go_ret 2 (fun _ => hp)
  · rw [if_pos hc1] at h
    cases h
    exact go_ret 1 (fun _ => hp)
def f_Sums_joined (N : Nat) (p0 : Int32) (p1 : Int32) (σ : aSt) : Option aSt :=
  (lt (f_Adder_join_11 p0 p1 σ) fun x1 => ((f_Adder_reduce N x1).bind fun x2 => some x2))
set_option maxRecDepth 20000 in
set_option maxHeartbeats 4000000 in
theorem c_Sums_joined (d : Nat) {N : Nat} (p0 : Int32) (p1 : Int32) (σ : aSt) {P : Option Value → aSt → Prop} {x : aSt} (h : f_Sums_joined N p0 p1 σ = some x) (hp : P (some (.ref 22)) x) : aCall MT (d + 3) 108 [.ref 21, .int p0, .int p1] σ P := by
  unfold f_Sums_joined at h
  refine call_of (code := mc_Sums_joined) (L := [some (.ref 21), some (.int p0), some (.int p1)]) rfl rfl rfl rfl ?_
  obtain ⟨x1, hx1, h⟩ := lt_of h
  refine go_call (r := none) (σc := σ) (σ1 := x1) (mi := 96) (vs := [.ref 22, .ref 11, .int p0, .int p1]) (k' := 7) (L' := [some (.ref 21), some (.int p0), some (.int p1)]) (S' := []) 7 (fun P9 h9 => c_Adder_join_11 (d + 0) p0 p1 σ (by rw [← hx1]; exact h9)) (fun n h => h) ?_
  obtain ⟨x2, hx2, h⟩ := bind_of h
  refine go_call (r := none) (σc := x1) (σ1 := x2) (mi := 107) (vs := [.ref 22]) (k' := 10) (L' := [some (.ref 21), some (.int p0), some (.int p1)]) (S' := []) 3 (fun P9 h9 => c_Adder_reduce (d + 0) x1 hx2 h9) (fun n h => h) ?_
  cases h
  exact go_ret 3 (fun _ => hp)
def f_Adder_isZero (σ : aSt) : Bool :=
  (σ.2.2 22 0)
set_option maxRecDepth 20000 in
set_option maxHeartbeats 4000000 in
theorem c_Adder_isZero (d : Nat) (σ : aSt) {P : Option Value → aSt → Prop} (h : P (some (.int (b2i ((f_Adder_isZero σ))))) σ) : aCall MT (d + 1) 109 [.ref 22] σ P := by
  unfold f_Adder_isZero at h
  refine call_of (code := mc_Adder_isZero) (L := [some (.ref 22)]) rfl rfl rfl rfl ?_
  exact go_ret 3 (fun _ => And.intro (b2i_01 _) h)
def f_Adder_height (σ : aSt) : Int64 :=
  (lmax (labs (σ.2.1 22 1)) (σ.2.1 22 2))
set_option maxRecDepth 20000 in
set_option maxHeartbeats 4000000 in
theorem c_Adder_height (d : Nat) (σ : aSt) {P : Option Value → aSt → Prop} (h : P (some (.long ((f_Adder_height σ)))) σ) : aCall MT (d + 1) 112 [.ref 22] σ P := by
  unfold f_Adder_height at h
  refine call_of (code := mc_Adder_height) (L := [some (.ref 22)]) rfl rfl rfl rfl ?_
  exact go_ret 7 (fun _ => h)
def f_Adder_under (σ : aSt) : Int64 :=
  (σ.2.1 22 2)
set_option maxRecDepth 20000 in
set_option maxHeartbeats 4000000 in
theorem c_Adder_under (d : Nat) (σ : aSt) {P : Option Value → aSt → Prop} (h : P (some (.long ((f_Adder_under σ)))) σ) : aCall MT (d + 1) 111 [.ref 22] σ P := by
  unfold f_Adder_under at h
  refine call_of (code := mc_Adder_under) (L := [some (.ref 22)]) rfl rfl rfl rfl ?_
  exact go_ret 3 (fun _ => h)
def f_Adder_top (σ : aSt) : Int64 :=
  (σ.2.1 22 1)
set_option maxRecDepth 20000 in
set_option maxHeartbeats 4000000 in
theorem c_Adder_top (d : Nat) (σ : aSt) {P : Option Value → aSt → Prop} (h : P (some (.long ((f_Adder_top σ)))) σ) : aCall MT (d + 1) 110 [.ref 22] σ P := by
  unfold f_Adder_top at h
  refine call_of (code := mc_Adder_top) (L := [some (.ref 22)]) rfl rfl rfl rfl ?_
  exact go_ret 3 (fun _ => h)
def f_X_of_b31 (N : Nat) (v4 : Int32) (s1 : Int32) (s2 : Int32) (σ : aSt) : Option (Int64 × aSt) :=
  ((f_Sums_joined N s1 s2 σ).bind fun x8 => (if (f_Adder_isZero x8) = true then some ((-9223372036854775808 : Int64), x8) else (if v4 ≠ 0 then (if v4 ≠ (1 : Int32) then some ((f_Adder_height x8), x8) else some ((f_Adder_under x8), x8)) else some ((f_Adder_top x8), x8))))
set_option maxRecDepth 20000 in
set_option maxHeartbeats 4000000 in
theorem t_X_of_b31 (d : Nat) {N : Nat} (d0 d1 d2 d3 d5 : Option Value) (v4 : Int32) (s1 : Int32) (s2 : Int32) (σ : aSt) {P : Option Value → aSt → Prop} {x : (Int64 × aSt)} (h : f_X_of_b31 N v4 s1 s2 σ = some x) (hp : P (some (.long x.1)) x.2) : aGo (aCall MT (d + 3)) P mc_X_of 31 [d0, d1, d2, d3, some (.int v4), d5] [.int s2, .int s1, .ref 21] σ := by
  unfold f_X_of_b31 at h
  obtain ⟨x8, hx8, h⟩ := bind_of h
  refine go_call (r := some (.ref 22)) (σc := σ) (σ1 := x8) (mi := 108) (vs := [.ref 21, .int s1, .int s2]) (k' := 32) (L' := [d0, d1, d2, d3, some (.int v4), d5]) (S' := []) 1 (fun P9 h9 => c_Sums_joined (d + 0) s1 s2 σ hx8 h9) (fun n h => h) ?_
  refine go_call (r := some (.int (b2i (f_Adder_isZero x8)))) (σc := x8) (σ1 := x8) (mi := 109) (vs := [.ref 22]) (k' := 35) (L' := [d0, d1, d2, d3, some (.int v4), some (.ref 22)]) (S' := []) 3 (fun P9 h9 => c_Adder_isZero (d + 2) x8 h9) (fun n h => h) ?_
  refine go_ifz (b := (f_Adder_isZero x8)) (k1 := 38) (L1 := [d0, d1, d2, d3, some (.int v4), some (.ref 22)]) (S1 := []) (σ1 := x8) (k2 := 36) (L2 := [d0, d1, d2, d3, some (.int v4), some (.ref 22)]) (S2 := []) (σ2 := x8) 1 (fun n h => h) (fun hc9 => ?_) (fun hc9 => ?_)
  · rw [if_neg hc9] at h
    refine go_if (c := v4 ≠ 0) (k1 := 43) (L1 := [d0, d1, d2, d3, some (.int v4), some (.ref 22)]) (S1 := []) (σ1 := x8) (k2 := 40) (L2 := [d0, d1, d2, d3, some (.int v4), some (.ref 22)]) (S2 := []) (σ2 := x8) 2 (fun n h => h) (fun hc10 => ?_) (fun hc10 => ?_)
    · rw [if_pos hc10] at h
      refine go_if (c := v4 ≠ (1 : Int32)) (k1 := 49) (L1 := [d0, d1, d2, d3, some (.int v4), some (.ref 22)]) (S1 := []) (σ1 := x8) (k2 := 46) (L2 := [d0, d1, d2, d3, some (.int v4), some (.ref 22)]) (S2 := []) (σ2 := x8) 3 (fun n h => h) (fun hc11 => ?_) (fun hc11 => ?_)
      · rw [if_pos hc11] at h
        refine go_call (r := some (.long (f_Adder_height x8))) (σc := x8) (σ1 := x8) (mi := 112) (vs := [.ref 22]) (k' := 51) (L' := [d0, d1, d2, d3, some (.int v4), some (.ref 22)]) (S' := []) 2 (fun P9 h9 => c_Adder_height (d + 2) x8 h9) (fun n h => h) ?_
        cases h
        exact go_ret 1 (fun _ => hp)
      · rw [if_neg hc11] at h
        refine go_call (r := some (.long (f_Adder_under x8))) (σc := x8) (σ1 := x8) (mi := 111) (vs := [.ref 22]) (k' := 48) (L' := [d0, d1, d2, d3, some (.int v4), some (.ref 22)]) (S' := []) 2 (fun P9 h9 => c_Adder_under (d + 2) x8 h9) (fun n h => h) ?_
        cases h
        exact go_ret 2 (fun _ => hp)
    · rw [if_neg hc10] at h
      refine go_call (r := some (.long (f_Adder_top x8))) (σc := x8) (σ1 := x8) (mi := 110) (vs := [.ref 22]) (k' := 42) (L' := [d0, d1, d2, d3, some (.int v4), some (.ref 22)]) (S' := []) 2 (fun P9 h9 => c_Adder_top (d + 2) x8 h9) (fun n h => h) ?_
      cases h
      exact go_ret 1 (fun _ => hp)
  · rw [if_pos hc9] at h
    cases h
    exact go_ret 2 (fun _ => hp)
def f_X_of (N : Nat) (p0 : Int32) (p1 : Int32) (p2 : Int32) (p3 : Int32) (σ : aSt) : Option (Int64 × aSt) :=
  (if (f_X_isListed p0 σ) = true then (if (f_X_isListed p1 σ) = true then (if p2 < 0 then some ((-9223372036854775808 : Int64), σ) else (if (1 : Int32) < p2 then some ((-9223372036854775808 : Int64), σ) else (if p3 < 0 then some ((-9223372036854775808 : Int64), σ) else (if p3 ≤ (2 : Int32) then (if p2 ≠ 0 then f_X_of_b31 N p3 p0 (f_Sums_negative p1 σ) σ else f_X_of_b31 N p3 p0 p1 σ) else some ((-9223372036854775808 : Int64), σ))))) else some ((-9223372036854775808 : Int64), σ)) else some ((-9223372036854775808 : Int64), σ))
set_option maxRecDepth 20000 in
set_option maxHeartbeats 4000000 in
theorem c_X_of (d : Nat) {N : Nat} (p0 : Int32) (p1 : Int32) (p2 : Int32) (p3 : Int32) (σ : aSt) {P : Option Value → aSt → Prop} {x : (Int64 × aSt)} (h : f_X_of N p0 p1 p2 p3 σ = some x) (hp : P (some (.long x.1)) x.2) : aCall MT (d + 4) 113 [.ref 0, .int p0, .int p1, .int p2, .int p3] σ P := by
  unfold f_X_of at h
  refine call_of (code := mc_X_of) (L := [some (.ref 0), some (.int p0), some (.int p1), some (.int p2), some (.int p3), none]) rfl rfl rfl rfl ?_
  refine go_call (r := some (.int (b2i (f_X_isListed p0 σ)))) (σc := σ) (σ1 := σ) (mi := 73) (vs := [.ref 0, .int p0]) (k' := 3) (L' := [some (.ref 0), some (.int p0), some (.int p1), some (.int p2), some (.int p3), none]) (S' := []) 3 (fun P9 h9 => c_X_isListed (d + 1) p0 σ h9) (fun n h => h) ?_
  refine go_ifz (b := (f_X_isListed p0 σ)) (k1 := 18) (L1 := [some (.ref 0), some (.int p0), some (.int p1), some (.int p2), some (.int p3), none]) (S1 := []) (σ1 := σ) (k2 := 4) (L2 := [some (.ref 0), some (.int p0), some (.int p1), some (.int p2), some (.int p3), none]) (S2 := []) (σ2 := σ) 1 (fun n h => h) (fun hc1 => ?_) (fun hc1 => ?_)
  · rw [if_neg hc1] at h
    cases h
    exact go_ret 2 (fun _ => hp)
  · rw [if_pos hc1] at h
    refine go_call (r := some (.int (b2i (f_X_isListed p1 σ)))) (σc := σ) (σ1 := σ) (mi := 73) (vs := [.ref 0, .int p1]) (k' := 7) (L' := [some (.ref 0), some (.int p0), some (.int p1), some (.int p2), some (.int p3), none]) (S' := []) 3 (fun P9 h9 => c_X_isListed (d + 1) p1 σ h9) (fun n h => h) ?_
    refine go_ifz (b := (f_X_isListed p1 σ)) (k1 := 18) (L1 := [some (.ref 0), some (.int p0), some (.int p1), some (.int p2), some (.int p3), none]) (S1 := []) (σ1 := σ) (k2 := 8) (L2 := [some (.ref 0), some (.int p0), some (.int p1), some (.int p2), some (.int p3), none]) (S2 := []) (σ2 := σ) 1 (fun n h => h) (fun hc2 => ?_) (fun hc2 => ?_)
    · rw [if_neg hc2] at h
      cases h
      exact go_ret 2 (fun _ => hp)
    · rw [if_pos hc2] at h
      refine go_if (c := p2 < 0) (k1 := 18) (L1 := [some (.ref 0), some (.int p0), some (.int p1), some (.int p2), some (.int p3), none]) (S1 := []) (σ1 := σ) (k2 := 10) (L2 := [some (.ref 0), some (.int p0), some (.int p1), some (.int p2), some (.int p3), none]) (S2 := []) (σ2 := σ) 2 (fun n h => h) (fun hc3 => ?_) (fun hc3 => ?_)
      · rw [if_pos hc3] at h
        cases h
        exact go_ret 2 (fun _ => hp)
      · rw [if_neg hc3] at h
        refine go_if (c := (1 : Int32) < p2) (k1 := 18) (L1 := [some (.ref 0), some (.int p0), some (.int p1), some (.int p2), some (.int p3), none]) (S1 := []) (σ1 := σ) (k2 := 13) (L2 := [some (.ref 0), some (.int p0), some (.int p1), some (.int p2), some (.int p3), none]) (S2 := []) (σ2 := σ) 3 (fun n h => h) (fun hc4 => ?_) (fun hc4 => ?_)
        · rw [if_pos hc4] at h
          cases h
          exact go_ret 2 (fun _ => hp)
        · rw [if_neg hc4] at h
          refine go_if (c := p3 < 0) (k1 := 18) (L1 := [some (.ref 0), some (.int p0), some (.int p1), some (.int p2), some (.int p3), none]) (S1 := []) (σ1 := σ) (k2 := 15) (L2 := [some (.ref 0), some (.int p0), some (.int p1), some (.int p2), some (.int p3), none]) (S2 := []) (σ2 := σ) 2 (fun n h => h) (fun hc5 => ?_) (fun hc5 => ?_)
          · rw [if_pos hc5] at h
            cases h
            exact go_ret 2 (fun _ => hp)
          · rw [if_neg hc5] at h
            refine go_if (c := p3 ≤ (2 : Int32)) (k1 := 20) (L1 := [some (.ref 0), some (.int p0), some (.int p1), some (.int p2), some (.int p3), none]) (S1 := []) (σ1 := σ) (k2 := 18) (L2 := [some (.ref 0), some (.int p0), some (.int p1), some (.int p2), some (.int p3), none]) (S2 := []) (σ2 := σ) 3 (fun n h => h) (fun hc6 => ?_) (fun hc6 => ?_)
            · rw [if_pos hc6] at h
              refine go_if (c := p2 ≠ 0) (k1 := 27) (L1 := [some (.ref 0), some (.int p0), some (.int p1), some (.int p2), some (.int p3), none]) (S1 := [.int p0, .ref 21]) (σ1 := σ) (k2 := 25) (L2 := [some (.ref 0), some (.int p0), some (.int p1), some (.int p2), some (.int p3), none]) (S2 := [.int p0, .ref 21]) (σ2 := σ) 5 (fun n h => h) (fun hc7 => ?_) (fun hc7 => ?_)
              · rw [if_pos hc7] at h
                refine go_call (r := some (.int (f_Sums_negative p1 σ))) (σc := σ) (σ1 := σ) (mi := 87) (vs := [.ref 21, .int p1]) (k' := 31) (L' := [some (.ref 0), some (.int p0), some (.int p1), some (.int p2), some (.int p3), none]) (S' := [.int p0, .ref 21]) 4 (fun P9 h9 => c_Sums_negative (d + 0) p1 σ h9) (fun n h => h) ?_
                exact t_X_of_b31 d _ _ _ _ _ p3 p0 (f_Sums_negative p1 σ) σ h hp
              · rw [if_neg hc7] at h
                refine go_st (k' := 31) (L' := [some (.ref 0), some (.int p0), some (.int p1), some (.int p2), some (.int p3), none]) (S' := [.int p1, .int p0, .ref 21]) (σ' := σ) 2 (fun n h => h) ?_
                exact t_X_of_b31 d _ _ _ _ _ p3 p0 p1 σ h hp
            · rw [if_neg hc6] at h
              cases h
              exact go_ret 2 (fun _ => hp)
def f_Sums_multiple_l4 (N : Nat) : Nat → Int32 → Int32 → Int32 → Int32 → aSt → Option (Int32 × aSt)
  | 0, _, _, _, _, _ => none
  | n + 1, v1, v2, v3, v4, σ => (if (iabs v2) ≤ v4 then (if 0 ≤ v2 then some (v3, σ) else some ((f_Sums_shownOnly (f_Sums_negative v3 σ) σ), σ)) else ((f_Sums_total N v3 v1 σ).bind fun x3 => (if x3.1 ≠ (-6 : Int32) then f_Sums_multiple_l4 N n v1 v2 x3.1 (v4 + (1 : Int32)) x3.2 else some ((-6 : Int32), x3.2))))
set_option maxRecDepth 20000 in
set_option maxHeartbeats 4000000 in
theorem t_Sums_multiple_l4 (d : Nat) {N : Nat} {x : (Int32 × aSt)} {P : Option Value → aSt → Prop} (hp : P (some (.int x.1)) x.2) : ∀ (n : Nat) (v1 : Int32) (v2 : Int32) (v3 : Int32) (v4 : Int32) (σ : aSt), f_Sums_multiple_l4 N n v1 v2 v3 v4 σ = some x → aGo (aCall MT (d + 4)) P mc_Sums_multiple 4 [some (.ref 21), some (.int v1), some (.int v2), some (.int v3), some (.int v4)] [] σ := by
  intro n
  induction n with
  | zero => intro v1 v2 v3 v4 σ h; cases h
  | succ n ih =>
    intro v1 v2 v3 v4 σ h
    rw [f_Sums_multiple_l4] at h
    refine go_if (c := (iabs v2) ≤ v4) (k1 := 20) (L1 := [some (.ref 21), some (.int v1), some (.int v2), some (.int v3), some (.int v4)]) (S1 := []) (σ1 := σ) (k2 := 8) (L2 := [some (.ref 21), some (.int v1), some (.int v2), some (.int v3), some (.int v4)]) (S2 := []) (σ2 := σ) 4 (fun n h => h) (fun hc1 => ?_) (fun hc1 => ?_)
    · rw [if_pos hc1] at h
      refine go_if (c := 0 ≤ v2) (k1 := 28) (L1 := [some (.ref 21), some (.int v1), some (.int v2), some (.int v3), some (.int v4)]) (S1 := []) (σ1 := σ) (k2 := 22) (L2 := [some (.ref 21), some (.int v1), some (.int v2), some (.int v3), some (.int v4)]) (S2 := []) (σ2 := σ) 2 (fun n h => h) (fun hc2 => ?_) (fun hc2 => ?_)
      · rw [if_pos hc2] at h
        cases h
        exact go_ret 2 (fun _ => hp)
      · rw [if_neg hc2] at h
        refine go_call (r := some (.int (f_Sums_negative v3 σ))) (σc := σ) (σ1 := σ) (mi := 87) (vs := [.ref 21, .int v3]) (k' := 26) (L' := [some (.ref 21), some (.int v1), some (.int v2), some (.int v3), some (.int v4)]) (S' := [.ref 21]) 4 (fun P9 h9 => c_Sums_negative (d + 1) v3 σ h9) (fun n h => h) ?_
        refine go_call (r := some (.int (f_Sums_shownOnly (f_Sums_negative v3 σ) σ))) (σc := σ) (σ1 := σ) (mi := 88) (vs := [.ref 21, .int (f_Sums_negative v3 σ)]) (k' := 27) (L' := [some (.ref 21), some (.int v1), some (.int v2), some (.int v3), some (.int v4)]) (S' := []) 1 (fun P9 h9 => c_Sums_shownOnly (d + 2) (f_Sums_negative v3 σ) σ h9) (fun n h => h) ?_
        cases h
        exact go_ret 2 (fun _ => hp)
    · rw [if_neg hc1] at h
      obtain ⟨x3, hx3, h⟩ := bind_of h
      refine go_call (r := some (.int x3.1)) (σc := σ) (σ1 := x3.2) (mi := 101) (vs := [.ref 21, .int v3, .int v1]) (k' := 12) (L' := [some (.ref 21), some (.int v1), some (.int v2), some (.int v3), some (.int v4)]) (S' := []) 4 (fun P9 h9 => c_Sums_total (d + 0) v3 v1 σ hx3 h9) (fun n h => h) ?_
      refine go_if (c := x3.1 ≠ (-6 : Int32)) (k1 := 18) (L1 := [some (.ref 21), some (.int v1), some (.int v2), some (.int x3.1), some (.int v4)]) (S1 := []) (σ1 := x3.2) (k2 := 16) (L2 := [some (.ref 21), some (.int v1), some (.int v2), some (.int x3.1), some (.int v4)]) (S2 := []) (σ2 := x3.2) 4 (fun n h => h) (fun hc4 => ?_) (fun hc4 => ?_)
      · rw [if_pos hc4] at h
        refine go_st (k' := 4) (L' := [some (.ref 21), some (.int v1), some (.int v2), some (.int x3.1), some (.int (v4 + (1 : Int32)))]) (S' := []) (σ' := x3.2) 2 (fun n h => h) ?_
        exact ih v1 v2 x3.1 (v4 + (1 : Int32)) x3.2 h
      · rw [if_neg hc4] at h
        cases h
        exact go_ret 2 (fun _ => hp)
def f_Sums_multiple (N : Nat) (p0 : Int32) (p1 : Int32) (σ : aSt) : Option (Int32 × aSt) :=
  f_Sums_multiple_l4 N N p0 p1 (1000 : Int32) (0 : Int32) σ
set_option maxRecDepth 20000 in
set_option maxHeartbeats 4000000 in
theorem c_Sums_multiple (d : Nat) {N : Nat} (p0 : Int32) (p1 : Int32) (σ : aSt) {P : Option Value → aSt → Prop} {x : (Int32 × aSt)} (h : f_Sums_multiple N p0 p1 σ = some x) (hp : P (some (.int x.1)) x.2) : aCall MT (d + 5) 116 [.ref 21, .int p0, .int p1] σ P := by
  unfold f_Sums_multiple at h
  refine call_of (code := mc_Sums_multiple) (L := [some (.ref 21), some (.int p0), some (.int p1), none, none]) rfl rfl rfl rfl ?_
  refine go_st (k' := 4) (L' := [some (.ref 21), some (.int p0), some (.int p1), some (.int (1000 : Int32)), some (.int (0 : Int32))]) (S' := []) (σ' := σ) 4 (fun n h => h) ?_
  exact t_Sums_multiple_l4 d hp N p0 p1 (1000 : Int32) (0 : Int32) σ h
def f_X_times (N : Nat) (p0 : Int32) (p1 : Int32) (σ : aSt) : Option (Int32 × aSt) :=
  (if (f_X_isPoint p0 σ) = true then (if p1 < (-20 : Int32) then some ((-2 : Int32), σ) else (if p1 ≤ (20 : Int32) then ((f_Sums_multiple N p0 p1 σ).bind fun x4 => some (x4.1, x4.2)) else some ((-2 : Int32), σ))) else some ((-2 : Int32), σ))
set_option maxRecDepth 20000 in
set_option maxHeartbeats 4000000 in
theorem c_X_times (d : Nat) {N : Nat} (p0 : Int32) (p1 : Int32) (σ : aSt) {P : Option Value → aSt → Prop} {x : (Int32 × aSt)} (h : f_X_times N p0 p1 σ = some x) (hp : P (some (.int x.1)) x.2) : aCall MT (d + 6) 117 [.ref 0, .int p0, .int p1] σ P := by
  unfold f_X_times at h
  refine call_of (code := mc_X_times) (L := [some (.ref 0), some (.int p0), some (.int p1)]) rfl rfl rfl rfl ?_
  refine go_call (r := some (.int (b2i (f_X_isPoint p0 σ)))) (σc := σ) (σ1 := σ) (mi := 85) (vs := [.ref 0, .int p0]) (k' := 3) (L' := [some (.ref 0), some (.int p0), some (.int p1)]) (S' := []) 3 (fun P9 h9 => c_X_isPoint (d + 2) p0 σ h9) (fun n h => h) ?_
  refine go_ifz (b := (f_X_isPoint p0 σ)) (k1 := 10) (L1 := [some (.ref 0), some (.int p0), some (.int p1)]) (S1 := []) (σ1 := σ) (k2 := 4) (L2 := [some (.ref 0), some (.int p0), some (.int p1)]) (S2 := []) (σ2 := σ) 1 (fun n h => h) (fun hc1 => ?_) (fun hc1 => ?_)
  · rw [if_neg hc1] at h
    cases h
    exact go_ret 2 (fun _ => hp)
  · rw [if_pos hc1] at h
    refine go_if (c := p1 < (-20 : Int32)) (k1 := 10) (L1 := [some (.ref 0), some (.int p0), some (.int p1)]) (S1 := []) (σ1 := σ) (k2 := 7) (L2 := [some (.ref 0), some (.int p0), some (.int p1)]) (S2 := []) (σ2 := σ) 3 (fun n h => h) (fun hc2 => ?_) (fun hc2 => ?_)
    · rw [if_pos hc2] at h
      cases h
      exact go_ret 2 (fun _ => hp)
    · rw [if_neg hc2] at h
      refine go_if (c := p1 ≤ (20 : Int32)) (k1 := 12) (L1 := [some (.ref 0), some (.int p0), some (.int p1)]) (S1 := []) (σ1 := σ) (k2 := 10) (L2 := [some (.ref 0), some (.int p0), some (.int p1)]) (S2 := []) (σ2 := σ) 3 (fun n h => h) (fun hc3 => ?_) (fun hc3 => ?_)
      · rw [if_pos hc3] at h
        obtain ⟨x4, hx4, h⟩ := bind_of h
        refine go_call (r := some (.int x4.1)) (σc := σ) (σ1 := x4.2) (mi := 116) (vs := [.ref 21, .int p0, .int p1]) (k' := 17) (L' := [some (.ref 0), some (.int p0), some (.int p1)]) (S' := []) 5 (fun P9 h9 => c_Sums_multiple (d + 0) p0 p1 σ hx4 h9) (fun n h => h) ?_
        cases h
        exact go_ret 1 (fun _ => hp)
      · rw [if_neg hc3] at h
        cases h
        exact go_ret 2 (fun _ => hp)
