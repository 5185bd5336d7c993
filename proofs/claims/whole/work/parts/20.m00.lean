def f_Reader_length (σ : aSt) : Int32 :=
  (σ.1 1 2)
set_option maxRecDepth 20000 in
set_option maxHeartbeats 4000000 in
theorem c_Reader_length (d : Nat) (σ : aSt) {P : Option Value → aSt → Prop} (h : P (some (.int ((f_Reader_length σ)))) σ) : aCall MT (d + 1) 0 [.ref 1] σ P := by
  unfold f_Reader_length at h
  refine call_of (code := mc_Reader_length) (L := [some (.ref 1)]) rfl rfl rfl rfl ?_
  exact go_ret 3 (fun _ => h)
def f_Reader_push_l2 (N : Nat) : Nat → Int32 → Int32 → aSt → Option aSt
  | 0, _, _, _ => none
  | n + 1, v1, v2, σ => (if v2 < 0 then some σ else (lt (f_store σ 2 (σ.1 1 2) ((iushr v1 v2) &&& (255 : Int32))) fun x2 => f_Reader_push_l2 N n v1 (v2 + (-8 : Int32)) (s_i x2 1 2 ((x2.1 1 2) + (1 : Int32)))))
set_option maxRecDepth 20000 in
set_option maxHeartbeats 4000000 in
theorem t_Reader_push_l2 (d : Nat) {N : Nat} {x : aSt} {P : Option Value → aSt → Prop} (hp : P none x) : ∀ (n : Nat) (v1 : Int32) (v2 : Int32) (σ : aSt), f_Reader_push_l2 N n v1 v2 σ = some x → aGo (aCall MT (d + 1)) P mc_Reader_push 2 [some (.ref 1), some (.int v1), some (.int v2)] [] σ := by
  intro n
  induction n with
  | zero => intro v1 v2 σ h; cases h
  | succ n ih =>
    intro v1 v2 σ h
    rw [f_Reader_push_l2] at h
    refine go_if (c := v2 < 0) (k1 := 22) (L1 := [some (.ref 1), some (.int v1), some (.int v2)]) (S1 := []) (σ1 := σ) (k2 := 4) (L2 := [some (.ref 1), some (.int v1), some (.int v2)]) (S2 := []) (σ2 := σ) 2 (fun n h => h) (fun hc1 => ?_) (fun hc1 => ?_)
    · rw [if_pos hc1] at h
      cases h
      exact go_ret 1 (fun _ => hp)
    · rw [if_neg hc1] at h
      obtain ⟨x2, hx2, h⟩ := lt_of h
      refine go_call (r := none) (σc := σ) (σ1 := x2) (mi := 1) (vs := [.ref 2, .int (σ.1 1 2), .int ((iushr v1 v2) &&& (255 : Int32))]) (k' := 14) (L' := [some (.ref 1), some (.int v1), some (.int v2)]) (S' := []) 10 (fun P9 h9 => c_store (d + 0) σ 2 rfl rfl (σ.1 1 2) ((iushr v1 v2) &&& (255 : Int32)) (by rw [← hx2]; exact h9)) (fun n h => h) ?_
      refine go_st (k' := 2) (L' := [some (.ref 1), some (.int v1), some (.int (v2 + (-8 : Int32)))]) (S' := []) (σ' := (s_i x2 1 2 ((x2.1 1 2) + (1 : Int32)))) 8 (fun n h => h) ?_
      exact ih v1 (v2 + (-8 : Int32)) (s_i x2 1 2 ((x2.1 1 2) + (1 : Int32))) h
def f_Reader_push (N : Nat) (p0 : Int32) (σ : aSt) : Option aSt :=
  f_Reader_push_l2 N N p0 (24 : Int32) σ
set_option maxRecDepth 20000 in
set_option maxHeartbeats 4000000 in
theorem c_Reader_push (d : Nat) {N : Nat} (p0 : Int32) (σ : aSt) {P : Option Value → aSt → Prop} {x : aSt} (h : f_Reader_push N p0 σ = some x) (hp : P none x) : aCall MT (d + 2) 2 [.ref 1, .int p0] σ P := by
  unfold f_Reader_push at h
  refine call_of (code := mc_Reader_push) (L := [some (.ref 1), some (.int p0), none]) rfl rfl rfl rfl ?_
  refine go_st (k' := 2) (L' := [some (.ref 1), some (.int p0), some (.int (24 : Int32))]) (S' := []) (σ' := σ) 2 (fun n h => h) ?_
  exact t_Reader_push_l2 d hp N p0 (24 : Int32) σ h
def f_X_feed (N : Nat) (p0 : Int32) (p1 : Int32) (p2 : Int32) (p3 : Int32) (p4 : Int32) (σ : aSt) : Option (Int32 × aSt) :=
  (if ((f_Reader_length σ) + (20 : Int32)) ≤ (200 : Int32) then ((f_Reader_push N p0 σ).bind fun x2 => ((f_Reader_push N p1 x2).bind fun x3 => ((f_Reader_push N p2 x3).bind fun x4 => ((f_Reader_push N p3 x4).bind fun x5 => ((f_Reader_push N p4 x5).bind fun x6 => some ((f_Reader_length x6), x6)))))) else some ((-1 : Int32), σ))
set_option maxRecDepth 20000 in
set_option maxHeartbeats 4000000 in
theorem c_X_feed (d : Nat) {N : Nat} (p0 : Int32) (p1 : Int32) (p2 : Int32) (p3 : Int32) (p4 : Int32) (σ : aSt) {P : Option Value → aSt → Prop} {x : (Int32 × aSt)} (h : f_X_feed N p0 p1 p2 p3 p4 σ = some x) (hp : P (some (.int x.1)) x.2) : aCall MT (d + 3) 3 [.ref 0, .int p0, .int p1, .int p2, .int p3, .int p4] σ P := by
  unfold f_X_feed at h
  refine call_of (code := mc_X_feed) (L := [some (.ref 0), some (.int p0), some (.int p1), some (.int p2), some (.int p3), some (.int p4)]) rfl rfl rfl rfl ?_
  refine go_call (r := some (.int (f_Reader_length σ))) (σc := σ) (σ1 := σ) (mi := 0) (vs := [.ref 1]) (k' := 3) (L' := [some (.ref 0), some (.int p0), some (.int p1), some (.int p2), some (.int p3), some (.int p4)]) (S' := []) 3 (fun P9 h9 => c_Reader_length (d + 1) σ h9) (fun n h => h) ?_
  refine go_if (c := ((f_Reader_length σ) + (20 : Int32)) ≤ (200 : Int32)) (k1 := 9) (L1 := [some (.ref 0), some (.int p0), some (.int p1), some (.int p2), some (.int p3), some (.int p4)]) (S1 := []) (σ1 := σ) (k2 := 7) (L2 := [some (.ref 0), some (.int p0), some (.int p1), some (.int p2), some (.int p3), some (.int p4)]) (S2 := []) (σ2 := σ) 4 (fun n h => h) (fun hc1 => ?_) (fun hc1 => ?_)
  · rw [if_pos hc1] at h
    obtain ⟨x2, hx2, h⟩ := bind_of h
    refine go_call (r := none) (σc := σ) (σ1 := x2) (mi := 2) (vs := [.ref 1, .int p0]) (k' := 13) (L' := [some (.ref 0), some (.int p0), some (.int p1), some (.int p2), some (.int p3), some (.int p4)]) (S' := []) 4 (fun P9 h9 => c_Reader_push (d + 0) p0 σ hx2 h9) (fun n h => h) ?_
    obtain ⟨x3, hx3, h⟩ := bind_of h
    refine go_call (r := none) (σc := x2) (σ1 := x3) (mi := 2) (vs := [.ref 1, .int p1]) (k' := 17) (L' := [some (.ref 0), some (.int p0), some (.int p1), some (.int p2), some (.int p3), some (.int p4)]) (S' := []) 4 (fun P9 h9 => c_Reader_push (d + 0) p1 x2 hx3 h9) (fun n h => h) ?_
    obtain ⟨x4, hx4, h⟩ := bind_of h
    refine go_call (r := none) (σc := x3) (σ1 := x4) (mi := 2) (vs := [.ref 1, .int p2]) (k' := 21) (L' := [some (.ref 0), some (.int p0), some (.int p1), some (.int p2), some (.int p3), some (.int p4)]) (S' := []) 4 (fun P9 h9 => c_Reader_push (d + 0) p2 x3 hx4 h9) (fun n h => h) ?_
    obtain ⟨x5, hx5, h⟩ := bind_of h
    refine go_call (r := none) (σc := x4) (σ1 := x5) (mi := 2) (vs := [.ref 1, .int p3]) (k' := 25) (L' := [some (.ref 0), some (.int p0), some (.int p1), some (.int p2), some (.int p3), some (.int p4)]) (S' := []) 4 (fun P9 h9 => c_Reader_push (d + 0) p3 x4 hx5 h9) (fun n h => h) ?_
    obtain ⟨x6, hx6, h⟩ := bind_of h
    refine go_call (r := none) (σc := x5) (σ1 := x6) (mi := 2) (vs := [.ref 1, .int p4]) (k' := 29) (L' := [some (.ref 0), some (.int p0), some (.int p1), some (.int p2), some (.int p3), some (.int p4)]) (S' := []) 4 (fun P9 h9 => c_Reader_push (d + 0) p4 x5 hx6 h9) (fun n h => h) ?_
    refine go_call (r := some (.int (f_Reader_length x6))) (σc := x6) (σ1 := x6) (mi := 0) (vs := [.ref 1]) (k' := 32) (L' := [some (.ref 0), some (.int p0), some (.int p1), some (.int p2), some (.int p3), some (.int p4)]) (S' := []) 3 (fun P9 h9 => c_Reader_length (d + 1) x6 h9) (fun n h => h) ?_
    cases h
    exact go_ret 1 (fun _ => hp)
  · rw [if_neg hc1] at h
    cases h
    exact go_ret 2 (fun _ => hp)
def f_Reader_cut (p0 : Int32) (σ : aSt) : aSt :=
  (s_i σ 1 2 p0)
set_option maxRecDepth 20000 in
set_option maxHeartbeats 4000000 in
theorem c_Reader_cut (d : Nat) (p0 : Int32) (σ : aSt) {P : Option Value → aSt → Prop} (h : P none (f_Reader_cut p0 σ)) : aCall MT (d + 1) 5 [.ref 1, .int p0] σ P := by
  unfold f_Reader_cut at h
  refine call_of (code := mc_Reader_cut) (L := [some (.ref 1), some (.int p0)]) rfl rfl rfl rfl ?_
  exact go_ret 4 (fun _ => h)
def f_X_end (p0 : Int32) (σ : aSt) : (Int32 × aSt) :=
  (if p0 < 0 then ((-1 : Int32), σ) else (if p0 ≤ (f_Reader_length σ) then (lt (f_Reader_cut p0 σ) fun x3 => (p0, x3)) else ((-1 : Int32), σ)))
set_option maxRecDepth 20000 in
set_option maxHeartbeats 4000000 in
theorem c_X_end (d : Nat) (p0 : Int32) (σ : aSt) {P : Option Value → aSt → Prop} (h : P (some (.int ((f_X_end p0 σ).1))) (f_X_end p0 σ).2) : aCall MT (d + 2) 6 [.ref 0, .int p0] σ P := by
  unfold f_X_end at h
  refine call_of (code := mc_X_end) (L := [some (.ref 0), some (.int p0)]) rfl rfl rfl rfl ?_
  refine go_if (c := p0 < 0) (k1 := 7) (L1 := [some (.ref 0), some (.int p0)]) (S1 := []) (σ1 := σ) (k2 := 2) (L2 := [some (.ref 0), some (.int p0)]) (S2 := []) (σ2 := σ) 2 (fun n h => h) (fun hc1 => ?_) (fun hc1 => ?_)
  · rw [if_pos hc1] at h
    exact go_ret 2 (fun _ => h)
  · rw [if_neg hc1] at h
    refine go_call (r := some (.int (f_Reader_length σ))) (σc := σ) (σ1 := σ) (mi := 0) (vs := [.ref 1]) (k' := 6) (L' := [some (.ref 0), some (.int p0)]) (S' := [.int p0]) 4 (fun P9 h9 => c_Reader_length (d + 0) σ h9) (fun n h => h) ?_
    refine go_if (c := p0 ≤ (f_Reader_length σ)) (k1 := 9) (L1 := [some (.ref 0), some (.int p0)]) (S1 := []) (σ1 := σ) (k2 := 7) (L2 := [some (.ref 0), some (.int p0)]) (S2 := []) (σ2 := σ) 1 (fun n h => h) (fun hc2 => ?_) (fun hc2 => ?_)
    · rw [if_pos hc2] at h
      obtain ⟨x3, hx3⟩ : ∃ x3, x3 = f_Reader_cut p0 σ := ⟨_, rfl⟩
      rw [lt_eq, ← hx3] at h
      refine go_call (r := none) (σc := σ) (σ1 := x3) (mi := 5) (vs := [.ref 1, .int p0]) (k' := 13) (L' := [some (.ref 0), some (.int p0)]) (S' := []) 4 (fun P9 h9 => c_Reader_cut (d + 0) p0 σ (by rw [← hx3]; exact h9)) (fun n h => h) ?_
      exact go_ret 2 (fun _ => h)
    · rw [if_neg hc2] at h
      exact go_ret 2 (fun _ => h)
def f_Reader_byteAt (p0 : Int32) (σ : aSt) : Int32 :=
  (if (σ.1 1 2) ≤ p0 then (-1 : Int32) else (f_pick σ 2 p0))
set_option maxRecDepth 20000 in
set_option maxHeartbeats 4000000 in
theorem c_Reader_byteAt (d : Nat) (p0 : Int32) (σ : aSt) {P : Option Value → aSt → Prop} (h : P (some (.int ((f_Reader_byteAt p0 σ)))) σ) : aCall MT (d + 2) 10 [.ref 1, .int p0] σ P := by
  unfold f_Reader_byteAt at h
  refine call_of (code := mc_Reader_byteAt) (L := [some (.ref 1), some (.int p0)]) rfl rfl rfl rfl ?_
  refine go_if (c := (σ.1 1 2) ≤ p0) (k1 := 9) (L1 := [some (.ref 1), some (.int p0)]) (S1 := []) (σ1 := σ) (k2 := 4) (L2 := [some (.ref 1), some (.int p0)]) (S2 := []) (σ2 := σ) 4 (fun n h => h) (fun hc1 => ?_) (fun hc1 => ?_)
  · rw [if_pos hc1] at h
    exact go_ret 2 (fun _ => h)
  · rw [if_neg hc1] at h
    refine go_call (r := some (.int (f_pick σ 2 p0))) (σc := σ) (σ1 := σ) (mi := 9) (vs := [.ref 2, .int p0]) (k' := 8) (L' := [some (.ref 1), some (.int p0)]) (S' := []) 4 (fun P9 h9 => c_pick (d + 0) σ 2 rfl p0 h9) (fun n h => h) ?_
    exact go_ret 2 (fun _ => h)
def f_Reader_kindOf (p0 : Int32) : Int32 :=
  (if 0 ≤ p0 then (if p0 < (97 : Int32) then (if p0 < (48 : Int32) then (3 : Int32) else (if (57 : Int32) < p0 then (3 : Int32) else (2 : Int32))) else (if (122 : Int32) < p0 then (if p0 < (48 : Int32) then (3 : Int32) else (if (57 : Int32) < p0 then (3 : Int32) else (2 : Int32))) else (1 : Int32))) else (0 : Int32))
set_option maxRecDepth 20000 in
set_option maxHeartbeats 4000000 in
theorem c_Reader_kindOf (d : Nat) (p0 : Int32) (σ : aSt) {P : Option Value → aSt → Prop} (h : P (some (.int ((f_Reader_kindOf p0)))) σ) : aCall MT (d + 1) 11 [.int p0] σ P := by
  unfold f_Reader_kindOf at h
  refine call_of (code := mc_Reader_kindOf) (L := [some (.int p0)]) rfl rfl rfl rfl ?_
  refine go_if (c := 0 ≤ p0) (k1 := 4) (L1 := [some (.int p0)]) (S1 := []) (σ1 := σ) (k2 := 2) (L2 := [some (.int p0)]) (S2 := []) (σ2 := σ) 2 (fun n h => h) (fun hc1 => ?_) (fun hc1 => ?_)
  · rw [if_pos hc1] at h
    refine go_if (c := p0 < (97 : Int32)) (k1 := 12) (L1 := [some (.int p0)]) (S1 := []) (σ1 := σ) (k2 := 7) (L2 := [some (.int p0)]) (S2 := []) (σ2 := σ) 3 (fun n h => h) (fun hc2 => ?_) (fun hc2 => ?_)
    · rw [if_pos hc2] at h
      refine go_if (c := p0 < (48 : Int32)) (k1 := 20) (L1 := [some (.int p0)]) (S1 := []) (σ1 := σ) (k2 := 15) (L2 := [some (.int p0)]) (S2 := []) (σ2 := σ) 3 (fun n h => h) (fun hc3 => ?_) (fun hc3 => ?_)
      · rw [if_pos hc3] at h
        exact go_ret 2 (fun _ => h)
      · rw [if_neg hc3] at h
        refine go_if (c := (57 : Int32) < p0) (k1 := 20) (L1 := [some (.int p0)]) (S1 := []) (σ1 := σ) (k2 := 18) (L2 := [some (.int p0)]) (S2 := []) (σ2 := σ) 3 (fun n h => h) (fun hc4 => ?_) (fun hc4 => ?_)
        · rw [if_pos hc4] at h
          exact go_ret 2 (fun _ => h)
        · rw [if_neg hc4] at h
          exact go_ret 3 (fun _ => h)
    · rw [if_neg hc2] at h
      refine go_if (c := (122 : Int32) < p0) (k1 := 12) (L1 := [some (.int p0)]) (S1 := []) (σ1 := σ) (k2 := 10) (L2 := [some (.int p0)]) (S2 := []) (σ2 := σ) 3 (fun n h => h) (fun hc5 => ?_) (fun hc5 => ?_)
      · rw [if_pos hc5] at h
        refine go_if (c := p0 < (48 : Int32)) (k1 := 20) (L1 := [some (.int p0)]) (S1 := []) (σ1 := σ) (k2 := 15) (L2 := [some (.int p0)]) (S2 := []) (σ2 := σ) 3 (fun n h => h) (fun hc6 => ?_) (fun hc6 => ?_)
        · rw [if_pos hc6] at h
          exact go_ret 2 (fun _ => h)
        · rw [if_neg hc6] at h
          refine go_if (c := (57 : Int32) < p0) (k1 := 20) (L1 := [some (.int p0)]) (S1 := []) (σ1 := σ) (k2 := 18) (L2 := [some (.int p0)]) (S2 := []) (σ2 := σ) 3 (fun n h => h) (fun hc7 => ?_) (fun hc7 => ?_)
          · rw [if_pos hc7] at h
            exact go_ret 2 (fun _ => h)
          · rw [if_neg hc7] at h
            exact go_ret 3 (fun _ => h)
      · rw [if_neg hc5] at h
        exact go_ret 2 (fun _ => h)
  · rw [if_neg hc1] at h
    exact go_ret 2 (fun _ => h)
def f_Reader_next_l60 (N : Nat) : Nat → aSt → Option aSt
  | 0, _ => none
  | n + 1, σ => (if (σ.1 1 2) ≤ (σ.1 1 5) then some σ else (if (f_Reader_kindOf (f_Reader_byteAt (σ.1 1 5) σ)) ≠ (σ.1 1 3) then some σ else f_Reader_next_l60 N n (s_i (s_i σ 1 6 (imin (1000000 : Int32) ((((σ.1 1 6) * (10 : Int32)) + (f_Reader_byteAt (σ.1 1 5) σ)) - (48 : Int32)))) 1 5 ((σ.1 1 5) + (1 : Int32)))))
set_option maxRecDepth 20000 in
set_option maxHeartbeats 4000000 in
theorem t_Reader_next_l60 (d : Nat) {N : Nat} {x : aSt} {P : Option Value → aSt → Prop} (hp : P none x) : ∀ (n : Nat) (σ : aSt), f_Reader_next_l60 N n σ = some x → aGo (aCall MT (d + 2)) P mc_Reader_next 60 [some (.ref 1)] [] σ := by
  intro n
  induction n with
  | zero => intro σ h; cases h
  | succ n ih =>
    intro σ h
    rw [f_Reader_next_l60] at h
    refine go_if (c := (σ.1 1 2) ≤ (σ.1 1 5)) (k1 := 95) (L1 := [some (.ref 1)]) (S1 := []) (σ1 := σ) (k2 := 65) (L2 := [some (.ref 1)]) (S2 := []) (σ2 := σ) 5 (fun n h => h) (fun hc5 => ?_) (fun hc5 => ?_)
    · rw [if_pos hc5] at h
      cases h
      exact go_ret 1 (fun _ => hp)
    · rw [if_neg hc5] at h
      refine go_call (r := some (.int (f_Reader_byteAt (σ.1 1 5) σ))) (σc := σ) (σ1 := σ) (mi := 10) (vs := [.ref 1, .int (σ.1 1 5)]) (k' := 69) (L' := [some (.ref 1)]) (S' := []) 4 (fun P9 h9 => c_Reader_byteAt (d + 0) (σ.1 1 5) σ h9) (fun n h => h) ?_
      refine go_call (r := some (.int (f_Reader_kindOf (f_Reader_byteAt (σ.1 1 5) σ)))) (σc := σ) (σ1 := σ) (mi := 11) (vs := [.int (f_Reader_byteAt (σ.1 1 5) σ)]) (k' := 70) (L' := [some (.ref 1)]) (S' := []) 1 (fun P9 h9 => c_Reader_kindOf (d + 1) (f_Reader_byteAt (σ.1 1 5) σ) σ h9) (fun n h => h) ?_
      refine go_if (c := (f_Reader_kindOf (f_Reader_byteAt (σ.1 1 5) σ)) ≠ (σ.1 1 3)) (k1 := 95) (L1 := [some (.ref 1)]) (S1 := []) (σ1 := σ) (k2 := 73) (L2 := [some (.ref 1)]) (S2 := []) (σ2 := σ) 3 (fun n h => h) (fun hc6 => ?_) (fun hc6 => ?_)
      · rw [if_pos hc6] at h
        cases h
        exact go_ret 1 (fun _ => hp)
      · rw [if_neg hc6] at h
        refine go_call (r := some (.int (f_Reader_byteAt (σ.1 1 5) σ))) (σc := σ) (σ1 := σ) (mi := 10) (vs := [.ref 1, .int (σ.1 1 5)]) (k' := 83) (L' := [some (.ref 1)]) (S' := [.int ((σ.1 1 6) * (10 : Int32)), .int (1000000 : Int32), .ref 1]) 10 (fun P9 h9 => c_Reader_byteAt (d + 0) (σ.1 1 5) σ h9) (fun n h => h) ?_
        refine go_st (k' := 60) (L' := [some (.ref 1)]) (S' := []) (σ' := (s_i (s_i σ 1 6 (imin (1000000 : Int32) ((((σ.1 1 6) * (10 : Int32)) + (f_Reader_byteAt (σ.1 1 5) σ)) - (48 : Int32)))) 1 5 ((σ.1 1 5) + (1 : Int32)))) 12 (fun n h => h) ?_
        exact ih (s_i (s_i σ 1 6 (imin (1000000 : Int32) ((((σ.1 1 6) * (10 : Int32)) + (f_Reader_byteAt (σ.1 1 5) σ)) - (48 : Int32)))) 1 5 ((σ.1 1 5) + (1 : Int32))) h
def f_Reader_next_b52 (N : Nat) (σ : aSt) : Option aSt :=
  (if (σ.1 1 3) = 0 then some σ else (if (σ.1 1 3) ≠ (3 : Int32) then f_Reader_next_l60 N N σ else some σ))
set_option maxRecDepth 20000 in
set_option maxHeartbeats 4000000 in
theorem t_Reader_next_b52 (d : Nat) {N : Nat} (σ : aSt) {P : Option Value → aSt → Prop} {x : aSt} (h : f_Reader_next_b52 N σ = some x) (hp : P none x) : aGo (aCall MT (d + 2)) P mc_Reader_next 52 [some (.ref 1)] [] σ := by
  unfold f_Reader_next_b52 at h
  refine go_if (c := (σ.1 1 3) = 0) (k1 := 59) (L1 := [some (.ref 1)]) (S1 := []) (σ1 := σ) (k2 := 55) (L2 := [some (.ref 1)]) (S2 := []) (σ2 := σ) 3 (fun n h => h) (fun hc3 => ?_) (fun hc3 => ?_)
  · rw [if_pos hc3] at h
    cases h
    exact go_ret 1 (fun _ => hp)
  · rw [if_neg hc3] at h
    refine go_if (c := (σ.1 1 3) ≠ (3 : Int32)) (k1 := 60) (L1 := [some (.ref 1)]) (S1 := []) (σ1 := σ) (k2 := 59) (L2 := [some (.ref 1)]) (S2 := []) (σ2 := σ) 4 (fun n h => h) (fun hc4 => ?_) (fun hc4 => ?_)
    · rw [if_pos hc4] at h
      exact t_Reader_next_l60 d hp N σ h
    · rw [if_neg hc4] at h
      cases h
      exact go_ret 1 (fun _ => hp)
def f_Reader_next_b28 (N : Nat) (σ : aSt) : Option aSt :=
  (if (f_Reader_kindOf (f_Reader_byteAt (σ.1 1 4) (s_i (s_i σ 1 5 (σ.1 1 4)) 1 6 (0 : Int32)))) ≠ (3 : Int32) then f_Reader_next_b52 N (s_i (s_i (s_i σ 1 5 (σ.1 1 4)) 1 6 (0 : Int32)) 1 3 (f_Reader_kindOf (f_Reader_byteAt (σ.1 1 4) (s_i (s_i σ 1 5 (σ.1 1 4)) 1 6 (0 : Int32))))) else f_Reader_next_b52 N (s_i (s_i (s_i (s_i σ 1 5 (σ.1 1 4)) 1 6 (0 : Int32)) 1 3 (f_Reader_kindOf (f_Reader_byteAt (σ.1 1 4) (s_i (s_i σ 1 5 (σ.1 1 4)) 1 6 (0 : Int32))))) 1 5 ((σ.1 1 4) + (1 : Int32))))
set_option maxRecDepth 20000 in
set_option maxHeartbeats 4000000 in
theorem t_Reader_next_b28 (d : Nat) {N : Nat} (σ : aSt) {P : Option Value → aSt → Prop} {x : aSt} (h : f_Reader_next_b28 N σ = some x) (hp : P none x) : aGo (aCall MT (d + 2)) P mc_Reader_next 28 [some (.ref 1)] [] σ := by
  unfold f_Reader_next_b28 at h
  refine go_call (r := some (.int (f_Reader_byteAt (σ.1 1 4) (s_i (s_i σ 1 5 (σ.1 1 4)) 1 6 (0 : Int32))))) (σc := (s_i (s_i σ 1 5 (σ.1 1 4)) 1 6 (0 : Int32))) (σ1 := (s_i (s_i σ 1 5 (σ.1 1 4)) 1 6 (0 : Int32))) (mi := 10) (vs := [.ref 1, .int (σ.1 1 4)]) (k' := 40) (L' := [some (.ref 1)]) (S' := [.ref 1]) 12 (fun P9 h9 => c_Reader_byteAt (d + 0) (σ.1 1 4) (s_i (s_i σ 1 5 (σ.1 1 4)) 1 6 (0 : Int32)) h9) (fun n h => h) ?_
  refine go_call (r := some (.int (f_Reader_kindOf (f_Reader_byteAt (σ.1 1 4) (s_i (s_i σ 1 5 (σ.1 1 4)) 1 6 (0 : Int32)))))) (σc := (s_i (s_i σ 1 5 (σ.1 1 4)) 1 6 (0 : Int32))) (σ1 := (s_i (s_i σ 1 5 (σ.1 1 4)) 1 6 (0 : Int32))) (mi := 11) (vs := [.int (f_Reader_byteAt (σ.1 1 4) (s_i (s_i σ 1 5 (σ.1 1 4)) 1 6 (0 : Int32)))]) (k' := 41) (L' := [some (.ref 1)]) (S' := [.ref 1]) 1 (fun P9 h9 => c_Reader_kindOf (d + 1) (f_Reader_byteAt (σ.1 1 4) (s_i (s_i σ 1 5 (σ.1 1 4)) 1 6 (0 : Int32))) (s_i (s_i σ 1 5 (σ.1 1 4)) 1 6 (0 : Int32)) h9) (fun n h => h) ?_
  refine go_if (c := (f_Reader_kindOf (f_Reader_byteAt (σ.1 1 4) (s_i (s_i σ 1 5 (σ.1 1 4)) 1 6 (0 : Int32)))) ≠ (3 : Int32)) (k1 := 52) (L1 := [some (.ref 1)]) (S1 := []) (σ1 := (s_i (s_i (s_i σ 1 5 (σ.1 1 4)) 1 6 (0 : Int32)) 1 3 (f_Reader_kindOf (f_Reader_byteAt (σ.1 1 4) (s_i (s_i σ 1 5 (σ.1 1 4)) 1 6 (0 : Int32)))))) (k2 := 46) (L2 := [some (.ref 1)]) (S2 := []) (σ2 := (s_i (s_i (s_i σ 1 5 (σ.1 1 4)) 1 6 (0 : Int32)) 1 3 (f_Reader_kindOf (f_Reader_byteAt (σ.1 1 4) (s_i (s_i σ 1 5 (σ.1 1 4)) 1 6 (0 : Int32)))))) 5 (fun n h => h) (fun hc2 => ?_) (fun hc2 => ?_)
  · rw [if_pos hc2] at h
    exact t_Reader_next_b52 d (s_i (s_i (s_i σ 1 5 (σ.1 1 4)) 1 6 (0 : Int32)) 1 3 (f_Reader_kindOf (f_Reader_byteAt (σ.1 1 4) (s_i (s_i σ 1 5 (σ.1 1 4)) 1 6 (0 : Int32))))) h hp
  · rw [if_neg hc2] at h
    refine go_st (k' := 52) (L' := [some (.ref 1)]) (S' := []) (σ' := (s_i (s_i (s_i (s_i σ 1 5 (σ.1 1 4)) 1 6 (0 : Int32)) 1 3 (f_Reader_kindOf (f_Reader_byteAt (σ.1 1 4) (s_i (s_i σ 1 5 (σ.1 1 4)) 1 6 (0 : Int32))))) 1 5 ((σ.1 1 4) + (1 : Int32)))) 6 (fun n h => h) ?_
    exact t_Reader_next_b52 d (s_i (s_i (s_i (s_i σ 1 5 (σ.1 1 4)) 1 6 (0 : Int32)) 1 3 (f_Reader_kindOf (f_Reader_byteAt (σ.1 1 4) (s_i (s_i σ 1 5 (σ.1 1 4)) 1 6 (0 : Int32))))) 1 5 ((σ.1 1 4) + (1 : Int32))) h hp
def f_Reader_next_l4 (N : Nat) : Nat → aSt → Option aSt
  | 0, _ => none
  | n + 1, σ => (if (σ.1 1 2) ≤ (σ.1 1 4) then f_Reader_next_b28 N σ else (if (f_Reader_byteAt (σ.1 1 4) σ) = (32 : Int32) then f_Reader_next_l4 N n (s_i σ 1 4 ((σ.1 1 4) + (1 : Int32))) else (if (f_Reader_byteAt (σ.1 1 4) σ) ≠ (10 : Int32) then f_Reader_next_b28 N σ else f_Reader_next_l4 N n (s_i σ 1 4 ((σ.1 1 4) + (1 : Int32))))))
set_option maxRecDepth 20000 in
set_option maxHeartbeats 4000000 in
theorem t_Reader_next_l4 (d : Nat) {N : Nat} {x : aSt} {P : Option Value → aSt → Prop} (hp : P none x) : ∀ (n : Nat) (σ : aSt), f_Reader_next_l4 N n σ = some x → aGo (aCall MT (d + 2)) P mc_Reader_next 4 [some (.ref 1)] [] σ := by
  intro n
  induction n with
  | zero => intro σ h; cases h
  | succ n ih =>
    intro σ h
    rw [f_Reader_next_l4] at h
    refine go_if (c := (σ.1 1 2) ≤ (σ.1 1 4)) (k1 := 28) (L1 := [some (.ref 1)]) (S1 := []) (σ1 := σ) (k2 := 9) (L2 := [some (.ref 1)]) (S2 := []) (σ2 := σ) 5 (fun n h => h) (fun hc1 => ?_) (fun hc1 => ?_)
    · rw [if_pos hc1] at h
      exact t_Reader_next_b28 d σ h hp
    · rw [if_neg hc1] at h
      refine go_call (r := some (.int (f_Reader_byteAt (σ.1 1 4) σ))) (σc := σ) (σ1 := σ) (mi := 10) (vs := [.ref 1, .int (σ.1 1 4)]) (k' := 13) (L' := [some (.ref 1)]) (S' := []) 4 (fun P9 h9 => c_Reader_byteAt (d + 0) (σ.1 1 4) σ h9) (fun n h => h) ?_
      refine go_if (c := (f_Reader_byteAt (σ.1 1 4) σ) = (32 : Int32)) (k1 := 21) (L1 := [some (.ref 1)]) (S1 := []) (σ1 := σ) (k2 := 15) (L2 := [some (.ref 1)]) (S2 := []) (σ2 := σ) 2 (fun n h => h) (fun hc7 => ?_) (fun hc7 => ?_)
      · rw [if_pos hc7] at h
        refine go_st (k' := 4) (L' := [some (.ref 1)]) (S' := []) (σ' := (s_i σ 1 4 ((σ.1 1 4) + (1 : Int32)))) 7 (fun n h => h) ?_
        exact ih (s_i σ 1 4 ((σ.1 1 4) + (1 : Int32))) h
      · rw [if_neg hc7] at h
        refine go_call (r := some (.int (f_Reader_byteAt (σ.1 1 4) σ))) (σc := σ) (σ1 := σ) (mi := 10) (vs := [.ref 1, .int (σ.1 1 4)]) (k' := 19) (L' := [some (.ref 1)]) (S' := []) 4 (fun P9 h9 => c_Reader_byteAt (d + 0) (σ.1 1 4) σ h9) (fun n h => h) ?_
        refine go_if (c := (f_Reader_byteAt (σ.1 1 4) σ) ≠ (10 : Int32)) (k1 := 28) (L1 := [some (.ref 1)]) (S1 := []) (σ1 := σ) (k2 := 21) (L2 := [some (.ref 1)]) (S2 := []) (σ2 := σ) 2 (fun n h => h) (fun hc8 => ?_) (fun hc8 => ?_)
        · rw [if_pos hc8] at h
          exact t_Reader_next_b28 d σ h hp
        · rw [if_neg hc8] at h
          refine go_st (k' := 4) (L' := [some (.ref 1)]) (S' := []) (σ' := (s_i σ 1 4 ((σ.1 1 4) + (1 : Int32)))) 7 (fun n h => h) ?_
          exact ih (s_i σ 1 4 ((σ.1 1 4) + (1 : Int32))) h
def f_Reader_next (N : Nat) (σ : aSt) : Option aSt :=
  f_Reader_next_l4 N N (s_i σ 1 4 (σ.1 1 5))
set_option maxRecDepth 20000 in
set_option maxHeartbeats 4000000 in
theorem c_Reader_next (d : Nat) {N : Nat} (σ : aSt) {P : Option Value → aSt → Prop} {x : aSt} (h : f_Reader_next N σ = some x) (hp : P none x) : aCall MT (d + 3) 12 [.ref 1] σ P := by
  unfold f_Reader_next at h
  refine call_of (code := mc_Reader_next) (L := [some (.ref 1)]) rfl rfl rfl rfl ?_
  refine go_st (k' := 4) (L' := [some (.ref 1)]) (S' := []) (σ' := (s_i σ 1 4 (σ.1 1 5))) 4 (fun n h => h) ?_
  exact t_Reader_next_l4 d hp N (s_i σ 1 4 (σ.1 1 5)) h
def f_Reader_begin (N : Nat) (σ : aSt) : Option aSt :=
  ((f_Reader_next N (s_i (s_i (s_i σ 1 7 (0 : Int32)) 1 8 (-1 : Int32)) 1 5 (0 : Int32))).bind fun x1 => some x1)
set_option maxRecDepth 20000 in
set_option maxHeartbeats 4000000 in
theorem c_Reader_begin (d : Nat) {N : Nat} (σ : aSt) {P : Option Value → aSt → Prop} {x : aSt} (h : f_Reader_begin N σ = some x) (hp : P none x) : aCall MT (d + 4) 13 [.ref 1] σ P := by
  unfold f_Reader_begin at h
  refine call_of (code := mc_Reader_begin) (L := [some (.ref 1)]) rfl rfl rfl rfl ?_
  obtain ⟨x1, hx1, h⟩ := bind_of h
  refine go_call (r := none) (σc := (s_i (s_i (s_i σ 1 7 (0 : Int32)) 1 8 (-1 : Int32)) 1 5 (0 : Int32))) (σ1 := x1) (mi := 12) (vs := [.ref 1]) (k' := 11) (L' := [some (.ref 1)]) (S' := []) 11 (fun P9 h9 => c_Reader_next (d + 0) (s_i (s_i (s_i σ 1 7 (0 : Int32)) 1 8 (-1 : Int32)) 1 5 (0 : Int32)) hx1 h9) (fun n h => h) ?_
  cases h
  exact go_ret 1 (fun _ => hp)
def f_Reader_isWord_200_l16 (N : Nat) (σ : aSt) : Nat → Int32 → Option Bool
  | 0, _ => none
  | n + 1, v2 => (if (5 : Int32) ≤ v2 then some true else (if 0 ≤ v2 ∧ v2 < (5 : Int32) then (if (f_Reader_byteAt ((σ.1 1 4) + v2) σ) = (sch 200 v2) then f_Reader_isWord_200_l16 N σ n (v2 + (1 : Int32)) else some false) else none))
set_option maxRecDepth 20000 in
set_option maxHeartbeats 4000000 in
theorem t_Reader_isWord_200_l16 (d : Nat) {N : Nat} (σ : aSt) {x : Bool} {P : Option Value → aSt → Prop} (hp : P (some (.int (b2i x))) σ) : ∀ (n : Nat) (v2 : Int32), f_Reader_isWord_200_l16 N σ n v2 = some x → aGo (aCall MT (d + 2)) P mc_Reader_isWord 16 [some (.ref 1), some (.ref 200), some (.int v2)] [] σ := by
  intro n
  induction n with
  | zero => intro v2 h; cases h
  | succ n ih =>
    intro v2 h
    rw [f_Reader_isWord_200_l16] at h
    refine go_if (c := (5 : Int32) ≤ v2) (k1 := 34) (L1 := [some (.ref 1), some (.ref 200), some (.int v2)]) (S1 := []) (σ1 := σ) (k2 := 20) (L2 := [some (.ref 1), some (.ref 200), some (.int v2)]) (S2 := []) (σ2 := σ) 4 (fun n h => h) (fun hc3 => ?_) (fun hc3 => ?_)
    · rw [if_pos hc3] at h
      cases h
      exact go_ret 2 (fun _ => And.intro (Or.inr rfl) hp)
    · rw [if_neg hc3] at h
      refine go_call (r := some (.int (f_Reader_byteAt ((σ.1 1 4) + v2) σ))) (σc := σ) (σ1 := σ) (mi := 10) (vs := [.ref 1, .int ((σ.1 1 4) + v2)]) (k' := 26) (L' := [some (.ref 1), some (.ref 200), some (.int v2)]) (S' := []) 6 (fun P9 h9 => c_Reader_byteAt (d + 0) ((σ.1 1 4) + v2) σ h9) (fun n h => h) ?_
      obtain ⟨hc4, h⟩ := ite_of h
      refine go_q (Q := 0 ≤ v2 ∧ v2 < slen 200) (k' := 29) (L' := [some (.ref 1), some (.ref 200), some (.int v2)]) (S' := [.int (sch 200 v2), .int (f_Reader_byteAt ((σ.1 1 4) + v2) σ)]) (σ' := σ) 3 hc4 (fun n h => h) ?_
      refine go_if (c := (f_Reader_byteAt ((σ.1 1 4) + v2) σ) = (sch 200 v2)) (k1 := 32) (L1 := [some (.ref 1), some (.ref 200), some (.int v2)]) (S1 := []) (σ1 := σ) (k2 := 30) (L2 := [some (.ref 1), some (.ref 200), some (.int v2)]) (S2 := []) (σ2 := σ) 1 (fun n h => h) (fun hc5 => ?_) (fun hc5 => ?_)
      · rw [if_pos hc5] at h
        refine go_st (k' := 16) (L' := [some (.ref 1), some (.ref 200), some (.int (v2 + (1 : Int32)))]) (S' := []) (σ' := σ) 2 (fun n h => h) ?_
        exact ih (v2 + (1 : Int32)) h
      · rw [if_neg hc5] at h
        cases h
        exact go_ret 2 (fun _ => And.intro (Or.inl rfl) hp)
def f_Reader_isWord_200 (N : Nat) (σ : aSt) : Option Bool :=
  (if (σ.1 1 3) ≠ (1 : Int32) then some false else (if ((σ.1 1 5) - (σ.1 1 4)) = (5 : Int32) then f_Reader_isWord_200_l16 N σ N (0 : Int32) else some false))
set_option maxRecDepth 20000 in
set_option maxHeartbeats 4000000 in
theorem c_Reader_isWord_200 (d : Nat) {N : Nat} (σ : aSt) {P : Option Value → aSt → Prop} {x : Bool} (h : f_Reader_isWord_200 N σ = some x) (hp : P (some (.int (b2i x))) σ) : aCall MT (d + 3) 14 [.ref 1, .ref 200] σ P := by
  unfold f_Reader_isWord_200 at h
  refine call_of (code := mc_Reader_isWord) (L := [some (.ref 1), some (.ref 200), none]) rfl rfl rfl rfl ?_
  refine go_if (c := (σ.1 1 3) ≠ (1 : Int32)) (k1 := 12) (L1 := [some (.ref 1), some (.ref 200), none]) (S1 := []) (σ1 := σ) (k2 := 4) (L2 := [some (.ref 1), some (.ref 200), none]) (S2 := []) (σ2 := σ) 4 (fun n h => h) (fun hc1 => ?_) (fun hc1 => ?_)
  · rw [if_pos hc1] at h
    cases h
    exact go_ret 2 (fun _ => And.intro (Or.inl rfl) hp)
  · rw [if_neg hc1] at h
    refine go_if (c := ((σ.1 1 5) - (σ.1 1 4)) = (5 : Int32)) (k1 := 14) (L1 := [some (.ref 1), some (.ref 200), none]) (S1 := []) (σ1 := σ) (k2 := 12) (L2 := [some (.ref 1), some (.ref 200), none]) (S2 := []) (σ2 := σ) 8 (fun n h => h) (fun hc2 => ?_) (fun hc2 => ?_)
    · rw [if_pos hc2] at h
      refine go_st (k' := 16) (L' := [some (.ref 1), some (.ref 200), some (.int (0 : Int32))]) (S' := []) (σ' := σ) 2 (fun n h => h) ?_
      exact t_Reader_isWord_200_l16 d σ hp N (0 : Int32) h
    · rw [if_neg hc2] at h
      cases h
      exact go_ret 2 (fun _ => And.intro (Or.inl rfl) hp)
def f_Reader_refuse (p0 : Int32) (σ : aSt) : (Bool × aSt) :=
  (if (σ.1 1 7) ≠ 0 then (false, (s_i σ 1 3 (0 : Int32))) else (false, (s_i (s_i (s_i σ 1 7 p0) 1 8 (σ.1 1 4)) 1 3 (0 : Int32))))
set_option maxRecDepth 20000 in
set_option maxHeartbeats 4000000 in
theorem c_Reader_refuse (d : Nat) (p0 : Int32) (σ : aSt) {P : Option Value → aSt → Prop} (h : P (some (.int (b2i ((f_Reader_refuse p0 σ).1)))) (f_Reader_refuse p0 σ).2) : aCall MT (d + 1) 15 [.ref 1, .int p0] σ P := by
  unfold f_Reader_refuse at h
  refine call_of (code := mc_Reader_refuse) (L := [some (.ref 1), some (.int p0)]) rfl rfl rfl rfl ?_
  refine go_if (c := (σ.1 1 7) ≠ 0) (k1 := 10) (L1 := [some (.ref 1), some (.int p0)]) (S1 := []) (σ1 := σ) (k2 := 3) (L2 := [some (.ref 1), some (.int p0)]) (S2 := []) (σ2 := σ) 3 (fun n h => h) (fun hc1 => ?_) (fun hc1 => ?_)
  · rw [if_pos hc1] at h
    exact go_ret 5 (fun _ => And.intro (Or.inl rfl) h)
  · rw [if_neg hc1] at h
    exact go_ret 12 (fun _ => And.intro (Or.inl rfl) h)
def f_Reader_takeWord_200 (N : Nat) (σ : aSt) : Option (Bool × aSt) :=
  ((f_Reader_isWord_200 N σ).bind fun x1 => (if x1 = true then ((f_Reader_next N σ).bind fun x3 => some (true, x3)) else (lt (f_Reader_refuse (1 : Int32) σ) fun x4 => some (x4.1, x4.2))))
set_option maxRecDepth 20000 in
set_option maxHeartbeats 4000000 in
theorem c_Reader_takeWord_200 (d : Nat) {N : Nat} (σ : aSt) {P : Option Value → aSt → Prop} {x : (Bool × aSt)} (h : f_Reader_takeWord_200 N σ = some x) (hp : P (some (.int (b2i x.1))) x.2) : aCall MT (d + 4) 16 [.ref 1, .ref 200] σ P := by
  unfold f_Reader_takeWord_200 at h
  refine call_of (code := mc_Reader_takeWord) (L := [some (.ref 1), some (.ref 200)]) rfl rfl rfl rfl ?_
  obtain ⟨x1, hx1, h⟩ := bind_of h
  refine go_call (r := some (.int (b2i x1))) (σc := σ) (σ1 := σ) (mi := 14) (vs := [.ref 1, .ref 200]) (k' := 3) (L' := [some (.ref 1), some (.ref 200)]) (S' := []) 3 (fun P9 h9 => c_Reader_isWord_200 (d + 0) σ hx1 h9) (fun n h => h) ?_
  refine go_ifn (b := x1) (k1 := 8) (L1 := [some (.ref 1), some (.ref 200)]) (S1 := []) (σ1 := σ) (k2 := 4) (L2 := [some (.ref 1), some (.ref 200)]) (S2 := []) (σ2 := σ) 1 (fun n h => h) (fun hc2 => ?_) (fun hc2 => ?_)
  · rw [if_pos hc2] at h
    obtain ⟨x3, hx3, h⟩ := bind_of h
    refine go_call (r := none) (σc := σ) (σ1 := x3) (mi := 12) (vs := [.ref 1]) (k' := 10) (L' := [some (.ref 1), some (.ref 200)]) (S' := []) 2 (fun P9 h9 => c_Reader_next (d + 0) σ hx3 h9) (fun n h => h) ?_
    cases h
    exact go_ret 2 (fun _ => And.intro (Or.inr rfl) hp)
  · rw [if_neg hc2] at h
    obtain ⟨x4, hx4, h⟩ := lt_of h
    refine go_call (r := some (.int (b2i x4.1))) (σc := σ) (σ1 := x4.2) (mi := 15) (vs := [.ref 1, .int (1 : Int32)]) (k' := 7) (L' := [some (.ref 1), some (.ref 200)]) (S' := []) 3 (fun P9 h9 => c_Reader_refuse (d + 2) (1 : Int32) σ (by rw [← hx4]; exact h9)) (fun n h => h) ?_
    cases h
    exact go_ret 1 (fun _ => And.intro (b2i_01 _) hp)
def f_Reader_fits (p0 : Int32) (p1 : Int32) (σ : aSt) : (Bool × aSt) :=
  (if (σ.1 1 3) = (2 : Int32) then (if (σ.1 1 6) < p0 then (lt (f_Reader_refuse (2 : Int32) σ) fun x3 => (if x3.1 = true then (true, x3.2) else (false, x3.2))) else (if (σ.1 1 6) ≤ p1 then (true, σ) else (lt (f_Reader_refuse (2 : Int32) σ) fun x6 => (if x6.1 = true then (true, x6.2) else (false, x6.2))))) else (lt (f_Reader_refuse (1 : Int32) σ) fun x8 => (x8.1, x8.2)))
set_option maxRecDepth 20000 in
set_option maxHeartbeats 4000000 in
theorem c_Reader_fits (d : Nat) (p0 : Int32) (p1 : Int32) (σ : aSt) {P : Option Value → aSt → Prop} (h : P (some (.int (b2i ((f_Reader_fits p0 p1 σ).1)))) (f_Reader_fits p0 p1 σ).2) : aCall MT (d + 2) 18 [.ref 1, .int p0, .int p1] σ P := by
  unfold f_Reader_fits at h
  refine call_of (code := mc_Reader_fits) (L := [some (.ref 1), some (.int p0), some (.int p1)]) rfl rfl rfl rfl ?_
  refine go_if (c := (σ.1 1 3) = (2 : Int32)) (k1 := 8) (L1 := [some (.ref 1), some (.int p0), some (.int p1)]) (S1 := []) (σ1 := σ) (k2 := 4) (L2 := [some (.ref 1), some (.int p0), some (.int p1)]) (S2 := []) (σ2 := σ) 4 (fun n h => h) (fun hc1 => ?_) (fun hc1 => ?_)
  · rw [if_pos hc1] at h
    refine go_if (c := (σ.1 1 6) < p0) (k1 := 16) (L1 := [some (.ref 1), some (.int p0), some (.int p1)]) (S1 := []) (σ1 := σ) (k2 := 12) (L2 := [some (.ref 1), some (.int p0), some (.int p1)]) (S2 := []) (σ2 := σ) 4 (fun n h => h) (fun hc2 => ?_) (fun hc2 => ?_)
    · rw [if_pos hc2] at h
      obtain ⟨x3, hx3⟩ : ∃ x3, x3 = f_Reader_refuse (2 : Int32) σ := ⟨_, rfl⟩
      rw [lt_eq, ← hx3] at h
      refine go_call (r := some (.int (b2i x3.1))) (σc := σ) (σ1 := x3.2) (mi := 15) (vs := [.ref 1, .int (2 : Int32)]) (k' := 19) (L' := [some (.ref 1), some (.int p0), some (.int p1)]) (S' := []) 3 (fun P9 h9 => c_Reader_refuse (d + 0) (2 : Int32) σ (by rw [← hx3]; exact h9)) (fun n h => h) ?_
      refine go_ifz (b := x3.1) (k1 := 22) (L1 := [some (.ref 1), some (.int p0), some (.int p1)]) (S1 := []) (σ1 := x3.2) (k2 := 20) (L2 := [some (.ref 1), some (.int p0), some (.int p1)]) (S2 := []) (σ2 := x3.2) 1 (fun n h => h) (fun hc4 => ?_) (fun hc4 => ?_)
      · rw [if_neg hc4] at h
        exact go_ret 2 (fun _ => And.intro (Or.inl rfl) h)
      · rw [if_pos hc4] at h
        exact go_ret 3 (fun _ => And.intro (Or.inr rfl) h)
    · rw [if_neg hc2] at h
      refine go_if (c := (σ.1 1 6) ≤ p1) (k1 := 20) (L1 := [some (.ref 1), some (.int p0), some (.int p1)]) (S1 := []) (σ1 := σ) (k2 := 16) (L2 := [some (.ref 1), some (.int p0), some (.int p1)]) (S2 := []) (σ2 := σ) 4 (fun n h => h) (fun hc5 => ?_) (fun hc5 => ?_)
      · rw [if_pos hc5] at h
        exact go_ret 3 (fun _ => And.intro (Or.inr rfl) h)
      · rw [if_neg hc5] at h
        obtain ⟨x6, hx6⟩ : ∃ x6, x6 = f_Reader_refuse (2 : Int32) σ := ⟨_, rfl⟩
        rw [lt_eq, ← hx6] at h
        refine go_call (r := some (.int (b2i x6.1))) (σc := σ) (σ1 := x6.2) (mi := 15) (vs := [.ref 1, .int (2 : Int32)]) (k' := 19) (L' := [some (.ref 1), some (.int p0), some (.int p1)]) (S' := []) 3 (fun P9 h9 => c_Reader_refuse (d + 0) (2 : Int32) σ (by rw [← hx6]; exact h9)) (fun n h => h) ?_
        refine go_ifz (b := x6.1) (k1 := 22) (L1 := [some (.ref 1), some (.int p0), some (.int p1)]) (S1 := []) (σ1 := x6.2) (k2 := 20) (L2 := [some (.ref 1), some (.int p0), some (.int p1)]) (S2 := []) (σ2 := x6.2) 1 (fun n h => h) (fun hc7 => ?_) (fun hc7 => ?_)
        · rw [if_neg hc7] at h
          exact go_ret 2 (fun _ => And.intro (Or.inl rfl) h)
        · rw [if_pos hc7] at h
          exact go_ret 3 (fun _ => And.intro (Or.inr rfl) h)
  · rw [if_neg hc1] at h
    obtain ⟨x8, hx8⟩ : ∃ x8, x8 = f_Reader_refuse (1 : Int32) σ := ⟨_, rfl⟩
    rw [lt_eq, ← hx8] at h
    refine go_call (r := some (.int (b2i x8.1))) (σc := σ) (σ1 := x8.2) (mi := 15) (vs := [.ref 1, .int (1 : Int32)]) (k' := 7) (L' := [some (.ref 1), some (.int p0), some (.int p1)]) (S' := []) 3 (fun P9 h9 => c_Reader_refuse (d + 0) (1 : Int32) σ (by rw [← hx8]; exact h9)) (fun n h => h) ?_
    exact go_ret 1 (fun _ => And.intro (b2i_01 _) h)
def f_Reader_number (p0 : Int32) (σ : aSt) : Int32 :=
  (f_pick σ 3 p0)
set_option maxRecDepth 20000 in
set_option maxHeartbeats 4000000 in
theorem c_Reader_number (d : Nat) (p0 : Int32) (σ : aSt) {P : Option Value → aSt → Prop} (h : P (some (.int ((f_Reader_number p0 σ)))) σ) : aCall MT (d + 2) 19 [.ref 1, .int p0] σ P := by
  unfold f_Reader_number at h
  refine call_of (code := mc_Reader_number) (L := [some (.ref 1), some (.int p0)]) rfl rfl rfl rfl ?_
  refine go_call (r := some (.int (f_pick σ 3 p0))) (σc := σ) (σ1 := σ) (mi := 9) (vs := [.ref 3, .int p0]) (k' := 4) (L' := [some (.ref 1), some (.int p0)]) (S' := []) 4 (fun P9 h9 => c_pick (d + 0) σ 3 rfl p0 h9) (fun n h => h) ?_
  exact go_ret 1 (fun _ => h)
def f_Reader_isFlat (σ : aSt) : Bool :=
  (if (f_Reader_number (1 : Int32) σ) = 0 then true else (if (((f_Reader_number (0 : Int32) σ) * (f_Reader_number (0 : Int32) σ)) - ((4 : Int32) * (f_Reader_number (1 : Int32) σ))) ≠ 0 then false else true))
set_option maxRecDepth 20000 in
set_option maxHeartbeats 4000000 in
theorem c_Reader_isFlat (d : Nat) (σ : aSt) {P : Option Value → aSt → Prop} (h : P (some (.int (b2i ((f_Reader_isFlat σ))))) σ) : aCall MT (d + 3) 20 [.ref 1] σ P := by
  unfold f_Reader_isFlat at h
  refine call_of (code := mc_Reader_isFlat) (L := [some (.ref 1), none, none]) rfl rfl rfl rfl ?_
  refine go_call (r := some (.int (f_Reader_number (0 : Int32) σ))) (σc := σ) (σ1 := σ) (mi := 19) (vs := [.ref 1, .int (0 : Int32)]) (k' := 3) (L' := [some (.ref 1), none, none]) (S' := []) 3 (fun P9 h9 => c_Reader_number (d + 0) (0 : Int32) σ h9) (fun n h => h) ?_
  refine go_call (r := some (.int (f_Reader_number (1 : Int32) σ))) (σc := σ) (σ1 := σ) (mi := 19) (vs := [.ref 1, .int (1 : Int32)]) (k' := 7) (L' := [some (.ref 1), some (.int (f_Reader_number (0 : Int32) σ)), none]) (S' := []) 4 (fun P9 h9 => c_Reader_number (d + 0) (1 : Int32) σ h9) (fun n h => h) ?_
  refine go_if (c := (f_Reader_number (1 : Int32) σ) = 0) (k1 := 18) (L1 := [some (.ref 1), some (.int (f_Reader_number (0 : Int32) σ)), some (.int (f_Reader_number (1 : Int32) σ))]) (S1 := []) (σ1 := σ) (k2 := 10) (L2 := [some (.ref 1), some (.int (f_Reader_number (0 : Int32) σ)), some (.int (f_Reader_number (1 : Int32) σ))]) (S2 := []) (σ2 := σ) 3 (fun n h => h) (fun hc1 => ?_) (fun hc1 => ?_)
  · rw [if_pos hc1] at h
    exact go_ret 3 (fun _ => And.intro (Or.inr rfl) h)
  · rw [if_neg hc1] at h
    refine go_if (c := (((f_Reader_number (0 : Int32) σ) * (f_Reader_number (0 : Int32) σ)) - ((4 : Int32) * (f_Reader_number (1 : Int32) σ))) ≠ 0) (k1 := 20) (L1 := [some (.ref 1), some (.int (f_Reader_number (0 : Int32) σ)), some (.int (f_Reader_number (1 : Int32) σ))]) (S1 := []) (σ1 := σ) (k2 := 18) (L2 := [some (.ref 1), some (.int (f_Reader_number (0 : Int32) σ)), some (.int (f_Reader_number (1 : Int32) σ))]) (S2 := []) (σ2 := σ) 8 (fun n h => h) (fun hc2 => ?_) (fun hc2 => ?_)
    · rw [if_pos hc2] at h
      exact go_ret 2 (fun _ => And.intro (Or.inl rfl) h)
    · rw [if_neg hc2] at h
      exact go_ret 3 (fun _ => And.intro (Or.inr rfl) h)
def f_Reader_isByte (p0 : Int32) (σ : aSt) : Bool :=
  (if (σ.1 1 3) ≠ (3 : Int32) then false else (if (f_Reader_byteAt (σ.1 1 4) σ) ≠ p0 then false else true))
set_option maxRecDepth 20000 in
set_option maxHeartbeats 4000000 in
theorem c_Reader_isByte (d : Nat) (p0 : Int32) (σ : aSt) {P : Option Value → aSt → Prop} (h : P (some (.int (b2i ((f_Reader_isByte p0 σ))))) σ) : aCall MT (d + 3) 17 [.ref 1, .int p0] σ P := by
  unfold f_Reader_isByte at h
  refine call_of (code := mc_Reader_isByte) (L := [some (.ref 1), some (.int p0)]) rfl rfl rfl rfl ?_
  refine go_if (c := (σ.1 1 3) ≠ (3 : Int32)) (k1 := 12) (L1 := [some (.ref 1), some (.int p0)]) (S1 := []) (σ1 := σ) (k2 := 4) (L2 := [some (.ref 1), some (.int p0)]) (S2 := []) (σ2 := σ) 4 (fun n h => h) (fun hc1 => ?_) (fun hc1 => ?_)
  · rw [if_pos hc1] at h
    exact go_ret 2 (fun _ => And.intro (Or.inl rfl) h)
  · rw [if_neg hc1] at h
    refine go_call (r := some (.int (f_Reader_byteAt (σ.1 1 4) σ))) (σc := σ) (σ1 := σ) (mi := 10) (vs := [.ref 1, .int (σ.1 1 4)]) (k' := 8) (L' := [some (.ref 1), some (.int p0)]) (S' := []) 4 (fun P9 h9 => c_Reader_byteAt (d + 0) (σ.1 1 4) σ h9) (fun n h => h) ?_
    refine go_if (c := (f_Reader_byteAt (σ.1 1 4) σ) ≠ p0) (k1 := 12) (L1 := [some (.ref 1), some (.int p0)]) (S1 := []) (σ1 := σ) (k2 := 10) (L2 := [some (.ref 1), some (.int p0)]) (S2 := []) (σ2 := σ) 2 (fun n h => h) (fun hc2 => ?_) (fun hc2 => ?_)
    · rw [if_pos hc2] at h
      exact go_ret 2 (fun _ => And.intro (Or.inl rfl) h)
    · rw [if_neg hc2] at h
      exact go_ret 3 (fun _ => And.intro (Or.inr rfl) h)
def f_Reader_takeNumber_b34 (N : Nat) (v1 : Int32) (s1 : Int32) (s2 : Int32) (σ : aSt) : Option (Bool × aSt) :=
  (lt (f_store σ 3 s1 s2) fun x6 => (if v1 ≠ (1 : Int32) then ((f_Reader_next N x6).bind fun x8 => some (true, x8)) else (if (f_Reader_isFlat x6) = true then (lt (f_Reader_refuse (3 : Int32) x6) fun x10 => some (x10.1, x10.2)) else ((f_Reader_next N x6).bind fun x11 => some (true, x11)))))
set_option maxRecDepth 20000 in
set_option maxHeartbeats 4000000 in
theorem t_Reader_takeNumber_b34 (d : Nat) {N : Nat} (d2 d3 d4 : Option Value) (v1 : Int32) (s1 : Int32) (s2 : Int32) (σ : aSt) {P : Option Value → aSt → Prop} {x : (Bool × aSt)} (h : f_Reader_takeNumber_b34 N v1 s1 s2 σ = some x) (hp : P (some (.int (b2i x.1))) x.2) : aGo (aCall MT (d + 3)) P mc_Reader_takeNumber 34 [some (.ref 1), some (.int v1), d2, d3, d4] [.int s2, .int s1, .ref 3] σ := by
  unfold f_Reader_takeNumber_b34 at h
  obtain ⟨x6, hx6, h⟩ := lt_of h
  refine go_call (r := none) (σc := σ) (σ1 := x6) (mi := 1) (vs := [.ref 3, .int s1, .int s2]) (k' := 35) (L' := [some (.ref 1), some (.int v1), d2, d3, d4]) (S' := []) 1 (fun P9 h9 => c_store (d + 2) σ 3 rfl rfl s1 s2 (by rw [← hx6]; exact h9)) (fun n h => h) ?_
  refine go_if (c := v1 ≠ (1 : Int32)) (k1 := 45) (L1 := [some (.ref 1), some (.int v1), d2, d3, d4]) (S1 := []) (σ1 := x6) (k2 := 38) (L2 := [some (.ref 1), some (.int v1), d2, d3, d4]) (S2 := []) (σ2 := x6) 3 (fun n h => h) (fun hc7 => ?_) (fun hc7 => ?_)
  · rw [if_pos hc7] at h
    obtain ⟨x8, hx8, h⟩ := bind_of h
    refine go_call (r := none) (σc := x6) (σ1 := x8) (mi := 12) (vs := [.ref 1]) (k' := 47) (L' := [some (.ref 1), some (.int v1), d2, d3, d4]) (S' := []) 2 (fun P9 h9 => c_Reader_next (d + 0) x6 hx8 h9) (fun n h => h) ?_
    cases h
    exact go_ret 2 (fun _ => And.intro (Or.inr rfl) hp)
  · rw [if_neg hc7] at h
    refine go_call (r := some (.int (b2i (f_Reader_isFlat x6)))) (σc := x6) (σ1 := x6) (mi := 20) (vs := [.ref 1]) (k' := 40) (L' := [some (.ref 1), some (.int v1), d2, d3, d4]) (S' := []) 2 (fun P9 h9 => c_Reader_isFlat (d + 0) x6 h9) (fun n h => h) ?_
    refine go_ifz (b := (f_Reader_isFlat x6)) (k1 := 45) (L1 := [some (.ref 1), some (.int v1), d2, d3, d4]) (S1 := []) (σ1 := x6) (k2 := 41) (L2 := [some (.ref 1), some (.int v1), d2, d3, d4]) (S2 := []) (σ2 := x6) 1 (fun n h => h) (fun hc9 => ?_) (fun hc9 => ?_)
    · rw [if_neg hc9] at h
      obtain ⟨x11, hx11, h⟩ := bind_of h
      refine go_call (r := none) (σc := x6) (σ1 := x11) (mi := 12) (vs := [.ref 1]) (k' := 47) (L' := [some (.ref 1), some (.int v1), d2, d3, d4]) (S' := []) 2 (fun P9 h9 => c_Reader_next (d + 0) x6 hx11 h9) (fun n h => h) ?_
      cases h
      exact go_ret 2 (fun _ => And.intro (Or.inr rfl) hp)
    · rw [if_pos hc9] at h
      obtain ⟨x10, hx10, h⟩ := lt_of h
      refine go_call (r := some (.int (b2i x10.1))) (σc := x6) (σ1 := x10.2) (mi := 15) (vs := [.ref 1, .int (3 : Int32)]) (k' := 44) (L' := [some (.ref 1), some (.int v1), d2, d3, d4]) (S' := []) 3 (fun P9 h9 => c_Reader_refuse (d + 2) (3 : Int32) x6 (by rw [← hx10]; exact h9)) (fun n h => h) ?_
      cases h
      exact go_ret 1 (fun _ => And.intro (b2i_01 _) hp)
def f_Reader_takeNumber_b14 (N : Nat) (v1 : Int32) (v2 : Int32) (v3 : Int32) (v4 : Int32) (σ : aSt) : Option (Bool × aSt) :=
  (lt (f_Reader_fits (imax (0 : Int32) v2) v3 σ) fun x3 => (if x3.1 = true then (if v4 = 0 then f_Reader_takeNumber_b34 N v1 v1 (x3.2.1 1 6) x3.2 else f_Reader_takeNumber_b34 N v1 v1 (-(x3.2.1 1 6)) x3.2) else some (false, x3.2)))
set_option maxRecDepth 20000 in
set_option maxHeartbeats 4000000 in
theorem t_Reader_takeNumber_b14 (d : Nat) {N : Nat} (v1 : Int32) (v2 : Int32) (v3 : Int32) (v4 : Int32) (σ : aSt) {P : Option Value → aSt → Prop} {x : (Bool × aSt)} (h : f_Reader_takeNumber_b14 N v1 v2 v3 v4 σ = some x) (hp : P (some (.int (b2i x.1))) x.2) : aGo (aCall MT (d + 3)) P mc_Reader_takeNumber 14 [some (.ref 1), some (.int v1), some (.int v2), some (.int v3), some (.int v4)] [] σ := by
  unfold f_Reader_takeNumber_b14 at h
  obtain ⟨x3, hx3, h⟩ := lt_of h
  refine go_call (r := some (.int (b2i x3.1))) (σc := σ) (σ1 := x3.2) (mi := 18) (vs := [.ref 1, .int (imax (0 : Int32) v2), .int v3]) (k' := 20) (L' := [some (.ref 1), some (.int v1), some (.int v2), some (.int v3), some (.int v4)]) (S' := []) 6 (fun P9 h9 => c_Reader_fits (d + 1) (imax (0 : Int32) v2) v3 σ (by rw [← hx3]; exact h9)) (fun n h => h) ?_
  refine go_ifn (b := x3.1) (k1 := 23) (L1 := [some (.ref 1), some (.int v1), some (.int v2), some (.int v3), some (.int v4)]) (S1 := []) (σ1 := x3.2) (k2 := 21) (L2 := [some (.ref 1), some (.int v1), some (.int v2), some (.int v3), some (.int v4)]) (S2 := []) (σ2 := x3.2) 1 (fun n h => h) (fun hc4 => ?_) (fun hc4 => ?_)
  · rw [if_pos hc4] at h
    refine go_if (c := v4 = 0) (k1 := 32) (L1 := [some (.ref 1), some (.int v1), some (.int v2), some (.int v3), some (.int v4)]) (S1 := [.int v1, .ref 3]) (σ1 := x3.2) (k2 := 28) (L2 := [some (.ref 1), some (.int v1), some (.int v2), some (.int v3), some (.int v4)]) (S2 := [.int v1, .ref 3]) (σ2 := x3.2) 5 (fun n h => h) (fun hc5 => ?_) (fun hc5 => ?_)
    · rw [if_pos hc5] at h
      refine go_st (k' := 34) (L' := [some (.ref 1), some (.int v1), some (.int v2), some (.int v3), some (.int v4)]) (S' := [.int (x3.2.1 1 6), .int v1, .ref 3]) (σ' := x3.2) 2 (fun n h => h) ?_
      exact t_Reader_takeNumber_b34 d _ _ _ v1 v1 (x3.2.1 1 6) x3.2 h hp
    · rw [if_neg hc5] at h
      refine go_st (k' := 34) (L' := [some (.ref 1), some (.int v1), some (.int v2), some (.int v3), some (.int v4)]) (S' := [.int (-(x3.2.1 1 6)), .int v1, .ref 3]) (σ' := x3.2) 4 (fun n h => h) ?_
      exact t_Reader_takeNumber_b34 d _ _ _ v1 v1 (-(x3.2.1 1 6)) x3.2 h hp
  · rw [if_neg hc4] at h
    cases h
    exact go_ret 2 (fun _ => And.intro (Or.inl rfl) hp)
def f_Reader_takeNumber_b9 (N : Nat) (v1 : Int32) (v2 : Int32) (v3 : Int32) (s0 : Int32) (σ : aSt) : Option (Bool × aSt) :=
  (if s0 = 0 then f_Reader_takeNumber_b14 N v1 v2 v3 s0 σ else ((f_Reader_next N σ).bind fun x12 => f_Reader_takeNumber_b14 N v1 v2 v3 s0 x12))
set_option maxRecDepth 20000 in
set_option maxHeartbeats 4000000 in
theorem t_Reader_takeNumber_b9 (d : Nat) {N : Nat} (d4 : Option Value) (v1 : Int32) (v2 : Int32) (v3 : Int32) (s0 : Int32) (σ : aSt) {P : Option Value → aSt → Prop} {x : (Bool × aSt)} (h : f_Reader_takeNumber_b9 N v1 v2 v3 s0 σ = some x) (hp : P (some (.int (b2i x.1))) x.2) : aGo (aCall MT (d + 3)) P mc_Reader_takeNumber 9 [some (.ref 1), some (.int v1), some (.int v2), some (.int v3), d4] [.int s0] σ := by
  unfold f_Reader_takeNumber_b9 at h
  refine go_if (c := s0 = 0) (k1 := 14) (L1 := [some (.ref 1), some (.int v1), some (.int v2), some (.int v3), some (.int s0)]) (S1 := []) (σ1 := σ) (k2 := 12) (L2 := [some (.ref 1), some (.int v1), some (.int v2), some (.int v3), some (.int s0)]) (S2 := []) (σ2 := σ) 3 (fun n h => h) (fun hc2 => ?_) (fun hc2 => ?_)
  · rw [if_pos hc2] at h
    exact t_Reader_takeNumber_b14 d v1 v2 v3 s0 σ h hp
  · rw [if_neg hc2] at h
    obtain ⟨x12, hx12, h⟩ := bind_of h
    refine go_call (r := none) (σc := σ) (σ1 := x12) (mi := 12) (vs := [.ref 1]) (k' := 14) (L' := [some (.ref 1), some (.int v1), some (.int v2), some (.int v3), some (.int s0)]) (S' := []) 2 (fun P9 h9 => c_Reader_next (d + 0) σ hx12 h9) (fun n h => h) ?_
    exact t_Reader_takeNumber_b14 d v1 v2 v3 s0 x12 h hp
def f_Reader_takeNumber_b8 (N : Nat) (v1 : Int32) (v2 : Int32) (v3 : Int32) (σ : aSt) : Option (Bool × aSt) :=
  f_Reader_takeNumber_b9 N v1 v2 v3 (0 : Int32) σ
set_option maxRecDepth 20000 in
set_option maxHeartbeats 4000000 in
theorem t_Reader_takeNumber_b8 (d : Nat) {N : Nat} (d4 : Option Value) (v1 : Int32) (v2 : Int32) (v3 : Int32) (σ : aSt) {P : Option Value → aSt → Prop} {x : (Bool × aSt)} (h : f_Reader_takeNumber_b8 N v1 v2 v3 σ = some x) (hp : P (some (.int (b2i x.1))) x.2) : aGo (aCall MT (d + 3)) P mc_Reader_takeNumber 8 [some (.ref 1), some (.int v1), some (.int v2), some (.int v3), d4] [] σ := by
  unfold f_Reader_takeNumber_b8 at h
  refine go_st (k' := 9) (L' := [some (.ref 1), some (.int v1), some (.int v2), some (.int v3), d4]) (S' := [.int (0 : Int32)]) (σ' := σ) 1 (fun n h => h) ?_
  exact t_Reader_takeNumber_b9 d _ v1 v2 v3 (0 : Int32) σ h hp
def f_Reader_takeNumber (N : Nat) (p0 : Int32) (p1 : Int32) (p2 : Int32) (σ : aSt) : Option (Bool × aSt) :=
  (if 0 ≤ p1 then f_Reader_takeNumber_b8 N p0 p1 p2 σ else (if (f_Reader_isByte (45 : Int32) σ) = true then f_Reader_takeNumber_b9 N p0 p1 p2 (1 : Int32) σ else f_Reader_takeNumber_b8 N p0 p1 p2 σ))
set_option maxRecDepth 20000 in
set_option maxHeartbeats 4000000 in
theorem c_Reader_takeNumber (d : Nat) {N : Nat} (p0 : Int32) (p1 : Int32) (p2 : Int32) (σ : aSt) {P : Option Value → aSt → Prop} {x : (Bool × aSt)} (h : f_Reader_takeNumber N p0 p1 p2 σ = some x) (hp : P (some (.int (b2i x.1))) x.2) : aCall MT (d + 4) 21 [.ref 1, .int p0, .int p1, .int p2] σ P := by
  unfold f_Reader_takeNumber at h
  refine call_of (code := mc_Reader_takeNumber) (L := [some (.ref 1), some (.int p0), some (.int p1), some (.int p2), none]) rfl rfl rfl rfl ?_
  refine go_if (c := 0 ≤ p1) (k1 := 8) (L1 := [some (.ref 1), some (.int p0), some (.int p1), some (.int p2), none]) (S1 := []) (σ1 := σ) (k2 := 2) (L2 := [some (.ref 1), some (.int p0), some (.int p1), some (.int p2), none]) (S2 := []) (σ2 := σ) 2 (fun n h => h) (fun hc1 => ?_) (fun hc1 => ?_)
  · rw [if_pos hc1] at h
    exact t_Reader_takeNumber_b8 d _ p0 p1 p2 σ h hp
  · rw [if_neg hc1] at h
    refine go_call (r := some (.int (b2i (f_Reader_isByte (45 : Int32) σ)))) (σc := σ) (σ1 := σ) (mi := 17) (vs := [.ref 1, .int (45 : Int32)]) (k' := 5) (L' := [some (.ref 1), some (.int p0), some (.int p1), some (.int p2), none]) (S' := []) 3 (fun P9 h9 => c_Reader_isByte (d + 0) (45 : Int32) σ h9) (fun n h => h) ?_
    refine go_ifz (b := (f_Reader_isByte (45 : Int32) σ)) (k1 := 8) (L1 := [some (.ref 1), some (.int p0), some (.int p1), some (.int p2), none]) (S1 := []) (σ1 := σ) (k2 := 6) (L2 := [some (.ref 1), some (.int p0), some (.int p1), some (.int p2), none]) (S2 := []) (σ2 := σ) 1 (fun n h => h) (fun hc13 => ?_) (fun hc13 => ?_)
    · rw [if_neg hc13] at h
      exact t_Reader_takeNumber_b8 d _ p0 p1 p2 σ h hp
    · rw [if_pos hc13] at h
      refine go_st (k' := 9) (L' := [some (.ref 1), some (.int p0), some (.int p1), some (.int p2), none]) (S' := [.int (1 : Int32)]) (σ' := σ) 2 (fun n h => h) ?_
      exact t_Reader_takeNumber_b9 d _ p0 p1 p2 (1 : Int32) σ h hp
def f_Reader_isWord_201_l16 (N : Nat) (σ : aSt) : Nat → Int32 → Option Bool
  | 0, _ => none
  | n + 1, v2 => (if (6 : Int32) ≤ v2 then some true else (if 0 ≤ v2 ∧ v2 < (6 : Int32) then (if (f_Reader_byteAt ((σ.1 1 4) + v2) σ) = (sch 201 v2) then f_Reader_isWord_201_l16 N σ n (v2 + (1 : Int32)) else some false) else none))
set_option maxRecDepth 20000 in
set_option maxHeartbeats 4000000 in
theorem t_Reader_isWord_201_l16 (d : Nat) {N : Nat} (σ : aSt) {x : Bool} {P : Option Value → aSt → Prop} (hp : P (some (.int (b2i x))) σ) : ∀ (n : Nat) (v2 : Int32), f_Reader_isWord_201_l16 N σ n v2 = some x → aGo (aCall MT (d + 2)) P mc_Reader_isWord 16 [some (.ref 1), some (.ref 201), some (.int v2)] [] σ := by
  intro n
  induction n with
  | zero => intro v2 h; cases h
  | succ n ih =>
    intro v2 h
    rw [f_Reader_isWord_201_l16] at h
    refine go_if (c := (6 : Int32) ≤ v2) (k1 := 34) (L1 := [some (.ref 1), some (.ref 201), some (.int v2)]) (S1 := []) (σ1 := σ) (k2 := 20) (L2 := [some (.ref 1), some (.ref 201), some (.int v2)]) (S2 := []) (σ2 := σ) 4 (fun n h => h) (fun hc3 => ?_) (fun hc3 => ?_)
    · rw [if_pos hc3] at h
      cases h
      exact go_ret 2 (fun _ => And.intro (Or.inr rfl) hp)
    · rw [if_neg hc3] at h
      refine go_call (r := some (.int (f_Reader_byteAt ((σ.1 1 4) + v2) σ))) (σc := σ) (σ1 := σ) (mi := 10) (vs := [.ref 1, .int ((σ.1 1 4) + v2)]) (k' := 26) (L' := [some (.ref 1), some (.ref 201), some (.int v2)]) (S' := []) 6 (fun P9 h9 => c_Reader_byteAt (d + 0) ((σ.1 1 4) + v2) σ h9) (fun n h => h) ?_
      obtain ⟨hc4, h⟩ := ite_of h
      refine go_q (Q := 0 ≤ v2 ∧ v2 < slen 201) (k' := 29) (L' := [some (.ref 1), some (.ref 201), some (.int v2)]) (S' := [.int (sch 201 v2), .int (f_Reader_byteAt ((σ.1 1 4) + v2) σ)]) (σ' := σ) 3 hc4 (fun n h => h) ?_
      refine go_if (c := (f_Reader_byteAt ((σ.1 1 4) + v2) σ) = (sch 201 v2)) (k1 := 32) (L1 := [some (.ref 1), some (.ref 201), some (.int v2)]) (S1 := []) (σ1 := σ) (k2 := 30) (L2 := [some (.ref 1), some (.ref 201), some (.int v2)]) (S2 := []) (σ2 := σ) 1 (fun n h => h) (fun hc5 => ?_) (fun hc5 => ?_)
      · rw [if_pos hc5] at h
        refine go_st (k' := 16) (L' := [some (.ref 1), some (.ref 201), some (.int (v2 + (1 : Int32)))]) (S' := []) (σ' := σ) 2 (fun n h => h) ?_
        exact ih (v2 + (1 : Int32)) h
      · rw [if_neg hc5] at h
        cases h
        exact go_ret 2 (fun _ => And.intro (Or.inl rfl) hp)
def f_Reader_isWord_201 (N : Nat) (σ : aSt) : Option Bool :=
  (if (σ.1 1 3) ≠ (1 : Int32) then some false else (if ((σ.1 1 5) - (σ.1 1 4)) = (6 : Int32) then f_Reader_isWord_201_l16 N σ N (0 : Int32) else some false))
set_option maxRecDepth 20000 in
set_option maxHeartbeats 4000000 in
theorem c_Reader_isWord_201 (d : Nat) {N : Nat} (σ : aSt) {P : Option Value → aSt → Prop} {x : Bool} (h : f_Reader_isWord_201 N σ = some x) (hp : P (some (.int (b2i x))) σ) : aCall MT (d + 3) 14 [.ref 1, .ref 201] σ P := by
  unfold f_Reader_isWord_201 at h
  refine call_of (code := mc_Reader_isWord) (L := [some (.ref 1), some (.ref 201), none]) rfl rfl rfl rfl ?_
  refine go_if (c := (σ.1 1 3) ≠ (1 : Int32)) (k1 := 12) (L1 := [some (.ref 1), some (.ref 201), none]) (S1 := []) (σ1 := σ) (k2 := 4) (L2 := [some (.ref 1), some (.ref 201), none]) (S2 := []) (σ2 := σ) 4 (fun n h => h) (fun hc1 => ?_) (fun hc1 => ?_)
  · rw [if_pos hc1] at h
    cases h
    exact go_ret 2 (fun _ => And.intro (Or.inl rfl) hp)
  · rw [if_neg hc1] at h
    refine go_if (c := ((σ.1 1 5) - (σ.1 1 4)) = (6 : Int32)) (k1 := 14) (L1 := [some (.ref 1), some (.ref 201), none]) (S1 := []) (σ1 := σ) (k2 := 12) (L2 := [some (.ref 1), some (.ref 201), none]) (S2 := []) (σ2 := σ) 8 (fun n h => h) (fun hc2 => ?_) (fun hc2 => ?_)
    · rw [if_pos hc2] at h
      refine go_st (k' := 16) (L' := [some (.ref 1), some (.ref 201), some (.int (0 : Int32))]) (S' := []) (σ' := σ) 2 (fun n h => h) ?_
      exact t_Reader_isWord_201_l16 d σ hp N (0 : Int32) h
    · rw [if_neg hc2] at h
      cases h
      exact go_ret 2 (fun _ => And.intro (Or.inl rfl) hp)
def f_Reader_takeBounds (N : Nat) (σ : aSt) : Option (Bool × aSt) :=
  (lt (f_store σ 3 (2 : Int32) (200 : Int32)) fun x1 => (lt (f_store x1 3 (3 : Int32) (4 : Int32)) fun x2 => ((f_Reader_isWord_201 N x2).bind fun x3 => (if x3 = true then ((f_Reader_next N x2).bind fun x5 => ((f_Reader_takeNumber N (2 : Int32) (1 : Int32) (1000 : Int32) x5).bind fun x6 => (if x6.1 = true then ((f_Reader_takeNumber N (3 : Int32) (1 : Int32) (6 : Int32) x6.2).bind fun x8 => (if x8.1 = true then some (true, x8.2) else some (false, x8.2))) else some (false, x6.2)))) else some (true, x2)))))
set_option maxRecDepth 20000 in
set_option maxHeartbeats 4000000 in
theorem c_Reader_takeBounds (d : Nat) {N : Nat} (σ : aSt) {P : Option Value → aSt → Prop} {x : (Bool × aSt)} (h : f_Reader_takeBounds N σ = some x) (hp : P (some (.int (b2i x.1))) x.2) : aCall MT (d + 5) 22 [.ref 1] σ P := by
  unfold f_Reader_takeBounds at h
  refine call_of (code := mc_Reader_takeBounds) (L := [some (.ref 1)]) rfl rfl rfl rfl ?_
  obtain ⟨x1, hx1, h⟩ := lt_of h
  refine go_call (r := none) (σc := σ) (σ1 := x1) (mi := 1) (vs := [.ref 3, .int (2 : Int32), .int (200 : Int32)]) (k' := 5) (L' := [some (.ref 1)]) (S' := []) 5 (fun P9 h9 => c_store (d + 3) σ 3 rfl rfl (2 : Int32) (200 : Int32) (by rw [← hx1]; exact h9)) (fun n h => h) ?_
  obtain ⟨x2, hx2, h⟩ := lt_of h
  refine go_call (r := none) (σc := x1) (σ1 := x2) (mi := 1) (vs := [.ref 3, .int (3 : Int32), .int (4 : Int32)]) (k' := 10) (L' := [some (.ref 1)]) (S' := []) 5 (fun P9 h9 => c_store (d + 3) x1 3 rfl rfl (3 : Int32) (4 : Int32) (by rw [← hx2]; exact h9)) (fun n h => h) ?_
  obtain ⟨x3, hx3, h⟩ := bind_of h
  refine go_call (r := some (.int (b2i x3))) (σc := x2) (σ1 := x2) (mi := 14) (vs := [.ref 1, .ref 201]) (k' := 13) (L' := [some (.ref 1)]) (S' := []) 3 (fun P9 h9 => c_Reader_isWord_201 (d + 1) x2 hx3 h9) (fun n h => h) ?_
  refine go_ifn (b := x3) (k1 := 16) (L1 := [some (.ref 1)]) (S1 := []) (σ1 := x2) (k2 := 14) (L2 := [some (.ref 1)]) (S2 := []) (σ2 := x2) 1 (fun n h => h) (fun hc4 => ?_) (fun hc4 => ?_)
  · rw [if_pos hc4] at h
    obtain ⟨x5, hx5, h⟩ := bind_of h
    refine go_call (r := none) (σc := x2) (σ1 := x5) (mi := 12) (vs := [.ref 1]) (k' := 18) (L' := [some (.ref 1)]) (S' := []) 2 (fun P9 h9 => c_Reader_next (d + 1) x2 hx5 h9) (fun n h => h) ?_
    obtain ⟨x6, hx6, h⟩ := bind_of h
    refine go_call (r := some (.int (b2i x6.1))) (σc := x5) (σ1 := x6.2) (mi := 21) (vs := [.ref 1, .int (2 : Int32), .int (1 : Int32), .int (1000 : Int32)]) (k' := 23) (L' := [some (.ref 1)]) (S' := []) 5 (fun P9 h9 => c_Reader_takeNumber (d + 0) (2 : Int32) (1 : Int32) (1000 : Int32) x5 hx6 h9) (fun n h => h) ?_
    refine go_ifz (b := x6.1) (k1 := 32) (L1 := [some (.ref 1)]) (S1 := []) (σ1 := x6.2) (k2 := 24) (L2 := [some (.ref 1)]) (S2 := []) (σ2 := x6.2) 1 (fun n h => h) (fun hc7 => ?_) (fun hc7 => ?_)
    · rw [if_neg hc7] at h
      cases h
      exact go_ret 2 (fun _ => And.intro (Or.inl rfl) hp)
    · rw [if_pos hc7] at h
      obtain ⟨x8, hx8, h⟩ := bind_of h
      refine go_call (r := some (.int (b2i x8.1))) (σc := x6.2) (σ1 := x8.2) (mi := 21) (vs := [.ref 1, .int (3 : Int32), .int (1 : Int32), .int (6 : Int32)]) (k' := 29) (L' := [some (.ref 1)]) (S' := []) 5 (fun P9 h9 => c_Reader_takeNumber (d + 0) (3 : Int32) (1 : Int32) (6 : Int32) x6.2 hx8 h9) (fun n h => h) ?_
      refine go_ifz (b := x8.1) (k1 := 32) (L1 := [some (.ref 1)]) (S1 := []) (σ1 := x8.2) (k2 := 30) (L2 := [some (.ref 1)]) (S2 := []) (σ2 := x8.2) 1 (fun n h => h) (fun hc9 => ?_) (fun hc9 => ?_)
      · rw [if_neg hc9] at h
        cases h
        exact go_ret 2 (fun _ => And.intro (Or.inl rfl) hp)
      · rw [if_pos hc9] at h
        cases h
        exact go_ret 3 (fun _ => And.intro (Or.inr rfl) hp)
  · rw [if_neg hc4] at h
    cases h
    exact go_ret 2 (fun _ => And.intro (Or.inr rfl) hp)
def f_Reader_takeEnd (N : Nat) (σ : aSt) : Option (Bool × aSt) :=
  (if (f_Reader_isByte (59 : Int32) σ) = true then ((f_Reader_next N σ).bind fun x2 => (if (x2.1 1 3) = 0 then some (true, x2) else (lt (f_Reader_refuse (1 : Int32) x2) fun x4 => (if x4.1 = true then some (true, x4.2) else some (false, x4.2))))) else (lt (f_Reader_refuse (1 : Int32) σ) fun x6 => some (x6.1, x6.2)))
set_option maxRecDepth 20000 in
set_option maxHeartbeats 4000000 in
theorem c_Reader_takeEnd (d : Nat) {N : Nat} (σ : aSt) {P : Option Value → aSt → Prop} {x : (Bool × aSt)} (h : f_Reader_takeEnd N σ = some x) (hp : P (some (.int (b2i x.1))) x.2) : aCall MT (d + 4) 23 [.ref 1] σ P := by
  unfold f_Reader_takeEnd at h
  refine call_of (code := mc_Reader_takeEnd) (L := [some (.ref 1)]) rfl rfl rfl rfl ?_
  refine go_call (r := some (.int (b2i (f_Reader_isByte (59 : Int32) σ)))) (σc := σ) (σ1 := σ) (mi := 17) (vs := [.ref 1, .int (59 : Int32)]) (k' := 3) (L' := [some (.ref 1)]) (S' := []) 3 (fun P9 h9 => c_Reader_isByte (d + 0) (59 : Int32) σ h9) (fun n h => h) ?_
  refine go_ifn (b := (f_Reader_isByte (59 : Int32) σ)) (k1 := 8) (L1 := [some (.ref 1)]) (S1 := []) (σ1 := σ) (k2 := 4) (L2 := [some (.ref 1)]) (S2 := []) (σ2 := σ) 1 (fun n h => h) (fun hc1 => ?_) (fun hc1 => ?_)
  · rw [if_pos hc1] at h
    obtain ⟨x2, hx2, h⟩ := bind_of h
    refine go_call (r := none) (σc := σ) (σ1 := x2) (mi := 12) (vs := [.ref 1]) (k' := 10) (L' := [some (.ref 1)]) (S' := []) 2 (fun P9 h9 => c_Reader_next (d + 0) σ hx2 h9) (fun n h => h) ?_
    refine go_if (c := (x2.1 1 3) = 0) (k1 := 17) (L1 := [some (.ref 1)]) (S1 := []) (σ1 := x2) (k2 := 13) (L2 := [some (.ref 1)]) (S2 := []) (σ2 := x2) 3 (fun n h => h) (fun hc3 => ?_) (fun hc3 => ?_)
    · rw [if_pos hc3] at h
      cases h
      exact go_ret 3 (fun _ => And.intro (Or.inr rfl) hp)
    · rw [if_neg hc3] at h
      obtain ⟨x4, hx4, h⟩ := lt_of h
      refine go_call (r := some (.int (b2i x4.1))) (σc := x2) (σ1 := x4.2) (mi := 15) (vs := [.ref 1, .int (1 : Int32)]) (k' := 16) (L' := [some (.ref 1)]) (S' := []) 3 (fun P9 h9 => c_Reader_refuse (d + 2) (1 : Int32) x2 (by rw [← hx4]; exact h9)) (fun n h => h) ?_
      refine go_ifz (b := x4.1) (k1 := 19) (L1 := [some (.ref 1)]) (S1 := []) (σ1 := x4.2) (k2 := 17) (L2 := [some (.ref 1)]) (S2 := []) (σ2 := x4.2) 1 (fun n h => h) (fun hc5 => ?_) (fun hc5 => ?_)
      · rw [if_neg hc5] at h
        cases h
        exact go_ret 2 (fun _ => And.intro (Or.inl rfl) hp)
      · rw [if_pos hc5] at h
        cases h
        exact go_ret 3 (fun _ => And.intro (Or.inr rfl) hp)
  · rw [if_neg hc1] at h
    obtain ⟨x6, hx6, h⟩ := lt_of h
    refine go_call (r := some (.int (b2i x6.1))) (σc := σ) (σ1 := x6.2) (mi := 15) (vs := [.ref 1, .int (1 : Int32)]) (k' := 7) (L' := [some (.ref 1)]) (S' := []) 3 (fun P9 h9 => c_Reader_refuse (d + 2) (1 : Int32) σ (by rw [← hx6]; exact h9)) (fun n h => h) ?_
    cases h
    exact go_ret 1 (fun _ => And.intro (b2i_01 _) hp)
def f_Reader_readCurve (N : Nat) (σ : aSt) : Option (Bool × aSt) :=
  ((f_Reader_begin N σ).bind fun x1 => ((f_Reader_takeWord_200 N x1).bind fun x2 => (if x2.1 = true then ((f_Reader_takeNumber N (0 : Int32) (-60 : Int32) (60 : Int32) x2.2).bind fun x4 => (if x4.1 = true then ((f_Reader_takeNumber N (1 : Int32) (-200 : Int32) (200 : Int32) x4.2).bind fun x6 => (if x6.1 = true then ((f_Reader_takeBounds N x6.2).bind fun x8 => (if x8.1 = true then ((f_Reader_takeEnd N x8.2).bind fun x10 => (if x10.1 = true then some (true, x10.2) else some (false, x10.2))) else some (false, x8.2))) else some (false, x6.2))) else some (false, x4.2))) else some (false, x2.2))))
set_option maxRecDepth 20000 in
set_option maxHeartbeats 4000000 in
theorem c_Reader_readCurve (d : Nat) {N : Nat} (σ : aSt) {P : Option Value → aSt → Prop} {x : (Bool × aSt)} (h : f_Reader_readCurve N σ = some x) (hp : P (some (.int (b2i x.1))) x.2) : aCall MT (d + 6) 24 [.ref 1] σ P := by
  unfold f_Reader_readCurve at h
  refine call_of (code := mc_Reader_readCurve) (L := [some (.ref 1)]) rfl rfl rfl rfl ?_
  obtain ⟨x1, hx1, h⟩ := bind_of h
  refine go_call (r := none) (σc := σ) (σ1 := x1) (mi := 13) (vs := [.ref 1]) (k' := 2) (L' := [some (.ref 1)]) (S' := []) 2 (fun P9 h9 => c_Reader_begin (d + 1) σ hx1 h9) (fun n h => h) ?_
  obtain ⟨x2, hx2, h⟩ := bind_of h
  refine go_call (r := some (.int (b2i x2.1))) (σc := x1) (σ1 := x2.2) (mi := 16) (vs := [.ref 1, .ref 200]) (k' := 5) (L' := [some (.ref 1)]) (S' := []) 3 (fun P9 h9 => c_Reader_takeWord_200 (d + 1) x1 hx2 h9) (fun n h => h) ?_
  refine go_ifz (b := x2.1) (k1 := 26) (L1 := [some (.ref 1)]) (S1 := []) (σ1 := x2.2) (k2 := 6) (L2 := [some (.ref 1)]) (S2 := []) (σ2 := x2.2) 1 (fun n h => h) (fun hc3 => ?_) (fun hc3 => ?_)
  · rw [if_neg hc3] at h
    cases h
    exact go_ret 2 (fun _ => And.intro (Or.inl rfl) hp)
  · rw [if_pos hc3] at h
    obtain ⟨x4, hx4, h⟩ := bind_of h
    refine go_call (r := some (.int (b2i x4.1))) (σc := x2.2) (σ1 := x4.2) (mi := 21) (vs := [.ref 1, .int (0 : Int32), .int (-60 : Int32), .int (60 : Int32)]) (k' := 11) (L' := [some (.ref 1)]) (S' := []) 5 (fun P9 h9 => c_Reader_takeNumber (d + 1) (0 : Int32) (-60 : Int32) (60 : Int32) x2.2 hx4 h9) (fun n h => h) ?_
    refine go_ifz (b := x4.1) (k1 := 26) (L1 := [some (.ref 1)]) (S1 := []) (σ1 := x4.2) (k2 := 12) (L2 := [some (.ref 1)]) (S2 := []) (σ2 := x4.2) 1 (fun n h => h) (fun hc5 => ?_) (fun hc5 => ?_)
    · rw [if_neg hc5] at h
      cases h
      exact go_ret 2 (fun _ => And.intro (Or.inl rfl) hp)
    · rw [if_pos hc5] at h
      obtain ⟨x6, hx6, h⟩ := bind_of h
      refine go_call (r := some (.int (b2i x6.1))) (σc := x4.2) (σ1 := x6.2) (mi := 21) (vs := [.ref 1, .int (1 : Int32), .int (-200 : Int32), .int (200 : Int32)]) (k' := 17) (L' := [some (.ref 1)]) (S' := []) 5 (fun P9 h9 => c_Reader_takeNumber (d + 1) (1 : Int32) (-200 : Int32) (200 : Int32) x4.2 hx6 h9) (fun n h => h) ?_
      refine go_ifz (b := x6.1) (k1 := 26) (L1 := [some (.ref 1)]) (S1 := []) (σ1 := x6.2) (k2 := 18) (L2 := [some (.ref 1)]) (S2 := []) (σ2 := x6.2) 1 (fun n h => h) (fun hc7 => ?_) (fun hc7 => ?_)
      · rw [if_neg hc7] at h
        cases h
        exact go_ret 2 (fun _ => And.intro (Or.inl rfl) hp)
      · rw [if_pos hc7] at h
        obtain ⟨x8, hx8, h⟩ := bind_of h
        refine go_call (r := some (.int (b2i x8.1))) (σc := x6.2) (σ1 := x8.2) (mi := 22) (vs := [.ref 1]) (k' := 20) (L' := [some (.ref 1)]) (S' := []) 2 (fun P9 h9 => c_Reader_takeBounds (d + 0) x6.2 hx8 h9) (fun n h => h) ?_
        refine go_ifz (b := x8.1) (k1 := 26) (L1 := [some (.ref 1)]) (S1 := []) (σ1 := x8.2) (k2 := 21) (L2 := [some (.ref 1)]) (S2 := []) (σ2 := x8.2) 1 (fun n h => h) (fun hc9 => ?_) (fun hc9 => ?_)
        · rw [if_neg hc9] at h
          cases h
          exact go_ret 2 (fun _ => And.intro (Or.inl rfl) hp)
        · rw [if_pos hc9] at h
          obtain ⟨x10, hx10, h⟩ := bind_of h
          refine go_call (r := some (.int (b2i x10.1))) (σc := x8.2) (σ1 := x10.2) (mi := 23) (vs := [.ref 1]) (k' := 23) (L' := [some (.ref 1)]) (S' := []) 2 (fun P9 h9 => c_Reader_takeEnd (d + 1) x8.2 hx10 h9) (fun n h => h) ?_
          refine go_ifz (b := x10.1) (k1 := 26) (L1 := [some (.ref 1)]) (S1 := []) (σ1 := x10.2) (k2 := 24) (L2 := [some (.ref 1)]) (S2 := []) (σ2 := x10.2) 1 (fun n h => h) (fun hc11 => ?_) (fun hc11 => ?_)
          · rw [if_neg hc11] at h
            cases h
            exact go_ret 2 (fun _ => And.intro (Or.inl rfl) hp)
          · rw [if_pos hc11] at h
            cases h
            exact go_ret 3 (fun _ => And.intro (Or.inr rfl) hp)
def f_History_clear (σ : aSt) : aSt :=
  (s_i σ 6 1 (0 : Int32))
set_option maxRecDepth 20000 in
set_option maxHeartbeats 4000000 in
theorem c_History_clear (d : Nat) (σ : aSt) {P : Option Value → aSt → Prop} (h : P none (f_History_clear σ)) : aCall MT (d + 1) 25 [.ref 6] σ P := by
  unfold f_History_clear at h
  refine call_of (code := mc_History_clear) (L := [some (.ref 6)]) rfl rfl rfl rfl ?_
  exact go_ret 4 (fun _ => h)
def f_PointList_a_11 (σ : aSt) : Int32 :=
  (σ.1 11 6)
set_option maxRecDepth 20000 in
set_option maxHeartbeats 4000000 in
theorem c_PointList_a_11 (d : Nat) (σ : aSt) {P : Option Value → aSt → Prop} (h : P (some (.int ((f_PointList_a_11 σ)))) σ) : aCall MT (d + 1) 26 [.ref 11] σ P := by
  unfold f_PointList_a_11 at h
  refine call_of (code := mc_PointList_a) (L := [some (.ref 11)]) rfl rfl rfl rfl ?_
  exact go_ret 3 (fun _ => h)
def f_Whole_withoutSquares_l15 (N : Nat) (k32 : Int32 → Int32 → Option Int32) : Nat → Int32 → Int32 → Int32 → Option Int32
  | 0, _, _, _ => none
  | n + 1, v1, v2, v3 => (if (32 : Int32) ≤ v3 then k32 v1 v2 else (if ¬ (v2 * v2) = 0 then (if (irem v1 (v2 * v2)) ≠ 0 then k32 v1 v2 else f_Whole_withoutSquares_l15 N k32 n (v1 / (v2 * v2)) v2 (v3 + (1 : Int32))) else none))
set_option maxRecDepth 20000 in
set_option maxHeartbeats 4000000 in
theorem t_Whole_withoutSquares_l15 (d : Nat) {N : Nat} (σ : aSt) (k32 : Int32 → Int32 → Option Int32) {x : Int32} {P : Option Value → aSt → Prop} (hp : P (some (.int x)) σ) (hk32 : ∀ (d0 d3 : Option Value) (v1 : Int32) (v2 : Int32), k32 v1 v2 = some x → aGo (aCall MT (d + 0)) P mc_Whole_withoutSquares 32 [d0, some (.int v1), some (.int v2), d3] [] σ) : ∀ (n : Nat) (d0 : Option Value) (v1 : Int32) (v2 : Int32) (v3 : Int32), f_Whole_withoutSquares_l15 N k32 n v1 v2 v3 = some x → aGo (aCall MT (d + 0)) P mc_Whole_withoutSquares 15 [d0, some (.int v1), some (.int v2), some (.int v3)] [] σ := by
  intro n
  induction n with
  | zero => intro d0 v1 v2 v3 h; cases h
  | succ n ih =>
    intro d0 v1 v2 v3 h
    rw [f_Whole_withoutSquares_l15] at h
    refine go_if (c := (32 : Int32) ≤ v3) (k1 := 32) (L1 := [d0, some (.int v1), some (.int v2), some (.int v3)]) (S1 := []) (σ1 := σ) (k2 := 18) (L2 := [d0, some (.int v1), some (.int v2), some (.int v3)]) (S2 := []) (σ2 := σ) 3 (fun n h => h) (fun hc3 => ?_) (fun hc3 => ?_)
    · rw [if_pos hc3] at h
      exact hk32 _ _ v1 v2 h
    · rw [if_neg hc3] at h
      obtain ⟨hc4, h⟩ := ite_of h
      refine go_q (Q := ¬ (v2 * v2) = 0) (k' := 23) (L' := [d0, some (.int v1), some (.int v2), some (.int v3)]) (S' := [.int (irem v1 (v2 * v2))]) (σ' := σ) 5 hc4 (fun n h => h) ?_
      refine go_if (c := (irem v1 (v2 * v2)) ≠ 0) (k1 := 32) (L1 := [d0, some (.int v1), some (.int v2), some (.int v3)]) (S1 := []) (σ1 := σ) (k2 := 24) (L2 := [d0, some (.int v1), some (.int v2), some (.int v3)]) (S2 := []) (σ2 := σ) 1 (fun n h => h) (fun hc5 => ?_) (fun hc5 => ?_)
      · rw [if_pos hc5] at h
        exact hk32 _ _ v1 v2 h
      · rw [if_neg hc5] at h
        refine go_q (Q := ¬ (v2 * v2) = 0) (k' := 29) (L' := [d0, some (.int v1), some (.int v2), some (.int v3)]) (S' := [.int (v1 / (v2 * v2))]) (σ' := σ) 5 (hc4) (fun n h => h) ?_
        refine go_st (k' := 15) (L' := [none, some (.int (v1 / (v2 * v2))), some (.int v2), some (.int (v3 + (1 : Int32)))]) (S' := []) (σ' := σ) 3 (fun n h => h) ?_
        exact ih _ (v1 / (v2 * v2)) v2 (v3 + (1 : Int32)) h
def f_Whole_withoutSquares_l4 (N : Nat) : Nat → Int32 → Int32 → Option Int32
  | 0, _, _ => none
  | n + 1, v1, v2 => (if (iabs v1) < (v2 * v2) then some v1 else (if (100 : Int32) ≤ v2 then some v1 else f_Whole_withoutSquares_l15 N (fun (y6 : Int32) (y7 : Int32) => f_Whole_withoutSquares_l4 N n y6 (y7 + (1 : Int32))) N v1 v2 (0 : Int32)))
set_option maxRecDepth 20000 in
set_option maxHeartbeats 4000000 in
theorem t_Whole_withoutSquares_l4 (d : Nat) {N : Nat} (σ : aSt) {x : Int32} {P : Option Value → aSt → Prop} (hp : P (some (.int x)) σ) : ∀ (n : Nat) (d0 d3 : Option Value) (v1 : Int32) (v2 : Int32), f_Whole_withoutSquares_l4 N n v1 v2 = some x → aGo (aCall MT (d + 0)) P mc_Whole_withoutSquares 4 [d0, some (.int v1), some (.int v2), d3] [] σ := by
  intro n
  induction n with
  | zero => intro d0 d3 v1 v2 h; cases h
  | succ n ih =>
    intro d0 d3 v1 v2 h
    rw [f_Whole_withoutSquares_l4] at h
    refine go_if (c := (iabs v1) < (v2 * v2)) (k1 := 34) (L1 := [d0, some (.int v1), some (.int v2), d3]) (S1 := []) (σ1 := σ) (k2 := 10) (L2 := [d0, some (.int v1), some (.int v2), d3]) (S2 := []) (σ2 := σ) 6 (fun n h => h) (fun hc1 => ?_) (fun hc1 => ?_)
    · rw [if_pos hc1] at h
      cases h
      exact go_ret 2 (fun _ => hp)
    · rw [if_neg hc1] at h
      refine go_if (c := (100 : Int32) ≤ v2) (k1 := 34) (L1 := [d0, some (.int v1), some (.int v2), d3]) (S1 := []) (σ1 := σ) (k2 := 13) (L2 := [d0, some (.int v1), some (.int v2), d3]) (S2 := []) (σ2 := σ) 3 (fun n h => h) (fun hc2 => ?_) (fun hc2 => ?_)
      · rw [if_pos hc2] at h
        cases h
        exact go_ret 2 (fun _ => hp)
      · rw [if_neg hc2] at h
        refine go_st (k' := 15) (L' := [d0, some (.int v1), some (.int v2), some (.int (0 : Int32))]) (S' := []) (σ' := σ) 2 (fun n h => h) ?_
        refine t_Whole_withoutSquares_l15 d σ _ hp (fun d0 d3 y6 y7 h => ?_) N _ v1 v2 (0 : Int32) h
        · refine go_st (k' := 4) (L' := [d0, some (.int y6), some (.int (y7 + (1 : Int32))), d3]) (S' := []) (σ' := σ) 2 (fun n h => h) ?_
          exact ih _ _ y6 (y7 + (1 : Int32)) h
def f_Whole_withoutSquares (N : Nat) (p0 : Int32) : Option Int32 :=
  f_Whole_withoutSquares_l4 N N p0 (2 : Int32)
set_option maxRecDepth 20000 in
set_option maxHeartbeats 4000000 in
theorem c_Whole_withoutSquares (d : Nat) {N : Nat} (p0 : Int32) (σ : aSt) {P : Option Value → aSt → Prop} {x : Int32} (h : f_Whole_withoutSquares N p0 = some x) (hp : P (some (.int x)) σ) : aCall MT (d + 1) 30 [.int p0] σ P := by
  unfold f_Whole_withoutSquares at h
  refine call_of (code := mc_Whole_withoutSquares) (L := [some (.int p0), none, none, none]) rfl rfl rfl rfl ?_
  refine go_st (k' := 4) (L' := [none, some (.int p0), some (.int (2 : Int32)), none]) (S' := []) (σ' := σ) 4 (fun n h => h) ?_
  exact t_Whole_withoutSquares_l4 d σ hp N _ _ p0 (2 : Int32) h
def f_Sieve_mark_l2 (N : Nat) : Nat → Int32 → Int32 → Int32 → aSt → Option aSt
  | 0, _, _, _, _ => none
  | n + 1, v1, v2, v3, σ => (if v2 < ((v1 * v3) * v3) then some σ else (lt (f_store σ 9 (v2 - ((v1 * v3) * v3)) (1 : Int32)) fun x2 => (lt (f_store x2 9 (v2 + ((v1 * v3) * v3)) (1 : Int32)) fun x3 => f_Sieve_mark_l2 N n v1 v2 (v3 + (1 : Int32)) x3)))
set_option maxRecDepth 20000 in
set_option maxHeartbeats 4000000 in
theorem t_Sieve_mark_l2 (d : Nat) {N : Nat} {x : aSt} {P : Option Value → aSt → Prop} (hp : P none x) : ∀ (n : Nat) (v1 : Int32) (v2 : Int32) (v3 : Int32) (σ : aSt), f_Sieve_mark_l2 N n v1 v2 v3 σ = some x → aGo (aCall MT (d + 1)) P mc_Sieve_mark 2 [some (.ref 8), some (.int v1), some (.int v2), some (.int v3)] [] σ := by
  intro n
  induction n with
  | zero => intro v1 v2 v3 σ h; cases h
  | succ n ih =>
    intro v1 v2 v3 σ h
    rw [f_Sieve_mark_l2] at h
    refine go_if (c := v2 < ((v1 * v3) * v3)) (k1 := 33) (L1 := [some (.ref 8), some (.int v1), some (.int v2), some (.int v3)]) (S1 := []) (σ1 := σ) (k2 := 9) (L2 := [some (.ref 8), some (.int v1), some (.int v2), some (.int v3)]) (S2 := []) (σ2 := σ) 7 (fun n h => h) (fun hc1 => ?_) (fun hc1 => ?_)
    · rw [if_pos hc1] at h
      cases h
      exact go_ret 1 (fun _ => hp)
    · rw [if_neg hc1] at h
      obtain ⟨x2, hx2, h⟩ := lt_of h
      refine go_call (r := none) (σc := σ) (σ1 := x2) (mi := 1) (vs := [.ref 9, .int (v2 - ((v1 * v3) * v3)), .int (1 : Int32)]) (k' := 20) (L' := [some (.ref 8), some (.int v1), some (.int v2), some (.int v3)]) (S' := []) 11 (fun P9 h9 => c_store (d + 0) σ 9 rfl rfl (v2 - ((v1 * v3) * v3)) (1 : Int32) (by rw [← hx2]; exact h9)) (fun n h => h) ?_
      obtain ⟨x3, hx3, h⟩ := lt_of h
      refine go_call (r := none) (σc := x2) (σ1 := x3) (mi := 1) (vs := [.ref 9, .int (v2 + ((v1 * v3) * v3)), .int (1 : Int32)]) (k' := 31) (L' := [some (.ref 8), some (.int v1), some (.int v2), some (.int v3)]) (S' := []) 11 (fun P9 h9 => c_store (d + 0) x2 9 rfl rfl (v2 + ((v1 * v3) * v3)) (1 : Int32) (by rw [← hx3]; exact h9)) (fun n h => h) ?_
      refine go_st (k' := 2) (L' := [some (.ref 8), some (.int v1), some (.int v2), some (.int (v3 + (1 : Int32)))]) (S' := []) (σ' := x3) 2 (fun n h => h) ?_
      exact ih v1 v2 (v3 + (1 : Int32)) x3 h
def f_Sieve_mark (N : Nat) (p0 : Int32) (p1 : Int32) (σ : aSt) : Option aSt :=
  f_Sieve_mark_l2 N N p0 p1 (1 : Int32) σ
set_option maxRecDepth 20000 in
set_option maxHeartbeats 4000000 in
theorem c_Sieve_mark (d : Nat) {N : Nat} (p0 : Int32) (p1 : Int32) (σ : aSt) {P : Option Value → aSt → Prop} {x : aSt} (h : f_Sieve_mark N p0 p1 σ = some x) (hp : P none x) : aCall MT (d + 2) 31 [.ref 8, .int p0, .int p1] σ P := by
  unfold f_Sieve_mark at h
  refine call_of (code := mc_Sieve_mark) (L := [some (.ref 8), some (.int p0), some (.int p1), none]) rfl rfl rfl rfl ?_
  refine go_st (k' := 2) (L' := [some (.ref 8), some (.int p0), some (.int p1), some (.int (1 : Int32))]) (S' := []) (σ' := σ) 2 (fun n h => h) ?_
  exact t_Sieve_mark_l2 d hp N p0 p1 (1 : Int32) σ h
def f_Sieve_gather_l34 (N : Nat) : Nat → Int32 → Int32 → aSt → Option aSt
  | 0, _, _, _ => none
  | n + 1, v2, v4, σ => (if ((2 : Int32) * v2) < v4 then some σ else (if (2001 : Int32) ≤ v4 then some σ else (if 0 ≤ v4 ∧ v4 < (2001 : Int32) then (if (σ.1 9 v4.toNatClampNeg) ≠ 0 then (lt (f_store (s_i σ 9 v4.toNatClampNeg (0 : Int32)) 10 (σ.1 8 2) (v4 - v2)) fun x7 => f_Sieve_gather_l34 N n v2 (v4 + (1 : Int32)) (s_i x7 8 2 ((x7.1 8 2) + (1 : Int32)))) else f_Sieve_gather_l34 N n v2 (v4 + (1 : Int32)) σ) else none)))
set_option maxRecDepth 20000 in
set_option maxHeartbeats 4000000 in
theorem t_Sieve_gather_l34 (d : Nat) {N : Nat} {x : aSt} {P : Option Value → aSt → Prop} (hp : P none x) : ∀ (n : Nat) (d1 d3 : Option Value) (v2 : Int32) (v4 : Int32) (σ : aSt), f_Sieve_gather_l34 N n v2 v4 σ = some x → aGo (aCall MT (d + 2)) P mc_Sieve_gather 34 [some (.ref 8), d1, some (.int v2), d3, some (.int v4)] [] σ := by
  intro n
  induction n with
  | zero => intro d1 d3 v2 v4 σ h; cases h
  | succ n ih =>
    intro d1 d3 v2 v4 σ h
    rw [f_Sieve_gather_l34] at h
    refine go_if (c := ((2 : Int32) * v2) < v4) (k1 := 71) (L1 := [some (.ref 8), d1, some (.int v2), d3, some (.int v4)]) (S1 := []) (σ1 := σ) (k2 := 39) (L2 := [some (.ref 8), d1, some (.int v2), d3, some (.int v4)]) (S2 := []) (σ2 := σ) 5 (fun n h => h) (fun hc3 => ?_) (fun hc3 => ?_)
    · rw [if_pos hc3] at h
      cases h
      exact go_ret 1 (fun _ => hp)
    · rw [if_neg hc3] at h
      refine go_if (c := (2001 : Int32) ≤ v4) (k1 := 71) (L1 := [some (.ref 8), d1, some (.int v2), d3, some (.int v4)]) (S1 := []) (σ1 := σ) (k2 := 44) (L2 := [some (.ref 8), d1, some (.int v2), d3, some (.int v4)]) (S2 := []) (σ2 := σ) 5 (fun n h => h) (fun hc4 => ?_) (fun hc4 => ?_)
      · rw [if_pos hc4] at h
        cases h
        exact go_ret 1 (fun _ => hp)
      · rw [if_neg hc4] at h
        obtain ⟨hc5, h⟩ := ite_of h
        refine go_q (Q := inb 0 σ 9 v4) (k' := 48) (L' := [some (.ref 8), d1, some (.int v2), d3, some (.int v4)]) (S' := [.int (σ.1 9 v4.toNatClampNeg)]) (σ' := σ) 4 (inb_mk rfl hc5.1 hc5.2) (fun n h => h) ?_
        refine go_if (c := (σ.1 9 v4.toNatClampNeg) ≠ 0) (k1 := 50) (L1 := [some (.ref 8), d1, some (.int v2), d3, some (.int v4)]) (S1 := []) (σ1 := σ) (k2 := 49) (L2 := [some (.ref 8), d1, some (.int v2), d3, some (.int v4)]) (S2 := []) (σ2 := σ) 1 (fun n h => h) (fun hc6 => ?_) (fun hc6 => ?_)
        · rw [if_pos hc6] at h
          refine go_q (Q := inb 0 σ 9 v4) (k' := 55) (L' := [some (.ref 8), d1, some (.int v2), d3, some (.int v4)]) (S' := []) (σ' := (s_i σ 9 v4.toNatClampNeg (0 : Int32))) 5 (inb_mk rfl hc5.1 hc5.2) (fun n h => h) ?_
          obtain ⟨x7, hx7, h⟩ := lt_of h
          refine go_call (r := none) (σc := (s_i σ 9 v4.toNatClampNeg (0 : Int32))) (σ1 := x7) (mi := 1) (vs := [.ref 10, .int (σ.1 8 2), .int (v4 - v2)]) (k' := 63) (L' := [some (.ref 8), d1, some (.int v2), d3, some (.int v4)]) (S' := []) 8 (fun P9 h9 => c_store (d + 1) (s_i σ 9 v4.toNatClampNeg (0 : Int32)) 10 rfl rfl (σ.1 8 2) (v4 - v2) (by rw [← hx7]; exact h9)) (fun n h => h) ?_
          refine go_st (k' := 34) (L' := [some (.ref 8), d1, some (.int v2), d3, some (.int (v4 + (1 : Int32)))]) (S' := []) (σ' := (s_i x7 8 2 ((x7.1 8 2) + (1 : Int32)))) 8 (fun n h => h) ?_
          exact ih _ _ v2 (v4 + (1 : Int32)) (s_i x7 8 2 ((x7.1 8 2) + (1 : Int32))) h
        · rw [if_neg hc6] at h
          refine go_st (k' := 34) (L' := [some (.ref 8), d1, some (.int v2), d3, some (.int (v4 + (1 : Int32)))]) (S' := []) (σ' := σ) 3 (fun n h => h) ?_
          exact ih _ _ v2 (v4 + (1 : Int32)) σ h
def f_Sieve_gather_l12 (N : Nat) : Nat → Int32 → Int32 → Int32 → Int32 → aSt → Option aSt
  | 0, _, _, _, _, _ => none
  | n + 1, v1, v2, v3, v4, σ => (if v3 < v4 then f_Sieve_gather_l34 N N v2 (0 : Int32) (s_i σ 8 2 (0 : Int32)) else (if ¬ v4 = 0 then (if (irem v1 v4) ≠ 0 then f_Sieve_gather_l12 N n v1 v2 v3 (v4 + (1 : Int32)) σ else ((f_Whole_withoutSquares N v4).bind fun x10 => (if x10 ≠ v4 then f_Sieve_gather_l12 N n v1 v2 v3 (v4 + (1 : Int32)) σ else ((f_Sieve_mark N v4 v2 σ).bind fun x12 => f_Sieve_gather_l12 N n v1 v2 v3 (v4 + (1 : Int32)) x12)))) else none))
set_option maxRecDepth 20000 in
set_option maxHeartbeats 4000000 in
theorem t_Sieve_gather_l12 (d : Nat) {N : Nat} {x : aSt} {P : Option Value → aSt → Prop} (hp : P none x) : ∀ (n : Nat) (v1 : Int32) (v2 : Int32) (v3 : Int32) (v4 : Int32) (σ : aSt), f_Sieve_gather_l12 N n v1 v2 v3 v4 σ = some x → aGo (aCall MT (d + 2)) P mc_Sieve_gather 12 [some (.ref 8), some (.int v1), some (.int v2), some (.int v3), some (.int v4)] [] σ := by
  intro n
  induction n with
  | zero => intro v1 v2 v3 v4 σ h; cases h
  | succ n ih =>
    intro v1 v2 v3 v4 σ h
    rw [f_Sieve_gather_l12] at h
    refine go_if (c := v3 < v4) (k1 := 29) (L1 := [some (.ref 8), some (.int v1), some (.int v2), some (.int v3), some (.int v4)]) (S1 := []) (σ1 := σ) (k2 := 15) (L2 := [some (.ref 8), some (.int v1), some (.int v2), some (.int v3), some (.int v4)]) (S2 := []) (σ2 := σ) 3 (fun n h => h) (fun hc2 => ?_) (fun hc2 => ?_)
    · rw [if_pos hc2] at h
      refine go_st (k' := 34) (L' := [some (.ref 8), some (.int v1), some (.int v2), none, some (.int (0 : Int32))]) (S' := []) (σ' := (s_i σ 8 2 (0 : Int32))) 5 (fun n h => h) ?_
      exact t_Sieve_gather_l34 d hp N _ _ v2 (0 : Int32) (s_i σ 8 2 (0 : Int32)) h
    · rw [if_neg hc2] at h
      obtain ⟨hc8, h⟩ := ite_of h
      refine go_q (Q := ¬ v4 = 0) (k' := 18) (L' := [some (.ref 8), some (.int v1), some (.int v2), some (.int v3), some (.int v4)]) (S' := [.int (irem v1 v4)]) (σ' := σ) 3 hc8 (fun n h => h) ?_
      refine go_if (c := (irem v1 v4) ≠ 0) (k1 := 27) (L1 := [some (.ref 8), some (.int v1), some (.int v2), some (.int v3), some (.int v4)]) (S1 := []) (σ1 := σ) (k2 := 19) (L2 := [some (.ref 8), some (.int v1), some (.int v2), some (.int v3), some (.int v4)]) (S2 := []) (σ2 := σ) 1 (fun n h => h) (fun hc9 => ?_) (fun hc9 => ?_)
      · rw [if_pos hc9] at h
        refine go_st (k' := 12) (L' := [some (.ref 8), some (.int v1), some (.int v2), some (.int v3), some (.int (v4 + (1 : Int32)))]) (S' := []) (σ' := σ) 2 (fun n h => h) ?_
        exact ih v1 v2 v3 (v4 + (1 : Int32)) σ h
      · rw [if_neg hc9] at h
        obtain ⟨x10, hx10, h⟩ := bind_of h
        refine go_call (r := some (.int x10)) (σc := σ) (σ1 := σ) (mi := 30) (vs := [.int v4]) (k' := 21) (L' := [some (.ref 8), some (.int v1), some (.int v2), some (.int v3), some (.int v4)]) (S' := []) 2 (fun P9 h9 => c_Whole_withoutSquares (d + 1) v4 σ hx10 h9) (fun n h => h) ?_
        refine go_if (c := x10 ≠ v4) (k1 := 27) (L1 := [some (.ref 8), some (.int v1), some (.int v2), some (.int v3), some (.int v4)]) (S1 := []) (σ1 := σ) (k2 := 23) (L2 := [some (.ref 8), some (.int v1), some (.int v2), some (.int v3), some (.int v4)]) (S2 := []) (σ2 := σ) 2 (fun n h => h) (fun hc11 => ?_) (fun hc11 => ?_)
        · rw [if_pos hc11] at h
          refine go_st (k' := 12) (L' := [some (.ref 8), some (.int v1), some (.int v2), some (.int v3), some (.int (v4 + (1 : Int32)))]) (S' := []) (σ' := σ) 2 (fun n h => h) ?_
          exact ih v1 v2 v3 (v4 + (1 : Int32)) σ h
        · rw [if_neg hc11] at h
          obtain ⟨x12, hx12, h⟩ := bind_of h
          refine go_call (r := none) (σc := σ) (σ1 := x12) (mi := 31) (vs := [.ref 8, .int v4, .int v2]) (k' := 27) (L' := [some (.ref 8), some (.int v1), some (.int v2), some (.int v3), some (.int v4)]) (S' := []) 4 (fun P9 h9 => c_Sieve_mark (d + 0) v4 v2 σ hx12 h9) (fun n h => h) ?_
          refine go_st (k' := 12) (L' := [some (.ref 8), some (.int v1), some (.int v2), some (.int v3), some (.int (v4 + (1 : Int32)))]) (S' := []) (σ' := x12) 2 (fun n h => h) ?_
          exact ih v1 v2 v3 (v4 + (1 : Int32)) x12 h
def f_Sieve_gather (N : Nat) (p0 : Int32) (p1 : Int32) (σ : aSt) : Option aSt :=
  (lt (f_store σ 9 p1 (1 : Int32)) fun x1 => f_Sieve_gather_l12 N N p0 p1 (imin p1 (iabs p0)) (1 : Int32) x1)
set_option maxRecDepth 20000 in
set_option maxHeartbeats 4000000 in
theorem c_Sieve_gather (d : Nat) {N : Nat} (p0 : Int32) (p1 : Int32) (σ : aSt) {P : Option Value → aSt → Prop} {x : aSt} (h : f_Sieve_gather N p0 p1 σ = some x) (hp : P none x) : aCall MT (d + 3) 32 [.ref 8, .int p0, .int p1] σ P := by
  unfold f_Sieve_gather at h
  refine call_of (code := mc_Sieve_gather) (L := [some (.ref 8), some (.int p0), some (.int p1), none, none]) rfl rfl rfl rfl ?_
  obtain ⟨x1, hx1, h⟩ := lt_of h
  refine go_call (r := none) (σc := σ) (σ1 := x1) (mi := 1) (vs := [.ref 9, .int p1, .int (1 : Int32)]) (k' := 5) (L' := [some (.ref 8), some (.int p0), some (.int p1), none, none]) (S' := []) 5 (fun P9 h9 => c_store (d + 1) σ 9 rfl rfl p1 (1 : Int32) (by rw [← hx1]; exact h9)) (fun n h => h) ?_
  refine go_st (k' := 12) (L' := [some (.ref 8), some (.int p0), some (.int p1), some (.int (imin p1 (iabs p0))), some (.int (1 : Int32))]) (S' := []) (σ' := x1) 7 (fun n h => h) ?_
  exact t_Sieve_gather_l12 d hp N p0 p1 (imin p1 (iabs p0)) (1 : Int32) x1 h
def f_Sieve_size (σ : aSt) : Int32 :=
  (σ.1 8 2)
set_option maxRecDepth 20000 in
set_option maxHeartbeats 4000000 in
theorem c_Sieve_size (d : Nat) (σ : aSt) {P : Option Value → aSt → Prop} (h : P (some (.int ((f_Sieve_size σ)))) σ) : aCall MT (d + 1) 33 [.ref 8] σ P := by
  unfold f_Sieve_size at h
  refine call_of (code := mc_Sieve_size) (L := [some (.ref 8)]) rfl rfl rfl rfl ?_
  exact go_ret 3 (fun _ => h)
def f_Sieve_spot (p0 : Int32) (σ : aSt) : Int32 :=
  (f_pick σ 10 p0)
set_option maxRecDepth 20000 in
set_option maxHeartbeats 4000000 in
theorem c_Sieve_spot (d : Nat) (p0 : Int32) (σ : aSt) {P : Option Value → aSt → Prop} (h : P (some (.int ((f_Sieve_spot p0 σ)))) σ) : aCall MT (d + 2) 34 [.ref 8, .int p0] σ P := by
  unfold f_Sieve_spot at h
  refine call_of (code := mc_Sieve_spot) (L := [some (.ref 8), some (.int p0)]) rfl rfl rfl rfl ?_
  refine go_call (r := some (.int (f_pick σ 10 p0))) (σc := σ) (σ1 := σ) (mi := 9) (vs := [.ref 10, .int p0]) (k' := 4) (L' := [some (.ref 8), some (.int p0)]) (S' := []) 4 (fun P9 h9 => c_pick (d + 0) σ 10 rfl p0 h9) (fun n h => h) ?_
  exact go_ret 1 (fun _ => h)
def f_Integer_numberOfLeadingZeros_b26 (v0 : Int32) (v1 : Int32) : Int32 :=
  (if v0 < (16 : Int32) then (if v0 < (4 : Int32) then (v1 - (iushr v0 (1 : Int32))) else ((v1 + (-2 : Int32)) - (iushr (iushr v0 (2 : Int32)) (1 : Int32)))) else (if (iushr v0 (4 : Int32)) < (4 : Int32) then ((v1 + (-4 : Int32)) - (iushr (iushr v0 (4 : Int32)) (1 : Int32))) else (((v1 + (-4 : Int32)) + (-2 : Int32)) - (iushr (iushr (iushr v0 (4 : Int32)) (2 : Int32)) (1 : Int32)))))
set_option maxRecDepth 20000 in
set_option maxHeartbeats 4000000 in
theorem t_Integer_numberOfLeadingZeros_b26 (d : Nat) (v0 : Int32) (v1 : Int32) (σ : aSt) {P : Option Value → aSt → Prop} (h : P (some (.int ((f_Integer_numberOfLeadingZeros_b26 v0 v1)))) σ) : aGo (aCall MT (d + 0)) P mc_Integer_numberOfLeadingZeros 26 [some (.int v0), some (.int v1)] [] σ := by
  unfold f_Integer_numberOfLeadingZeros_b26 at h
  refine go_if (c := v0 < (16 : Int32)) (k1 := 34) (L1 := [some (.int v0), some (.int v1)]) (S1 := []) (σ1 := σ) (k2 := 29) (L2 := [some (.int v0), some (.int v1)]) (S2 := []) (σ2 := σ) 3 (fun n h => h) (fun hc4 => ?_) (fun hc4 => ?_)
  · rw [if_pos hc4] at h
    refine go_if (c := v0 < (4 : Int32)) (k1 := 42) (L1 := [some (.int v0), some (.int v1)]) (S1 := []) (σ1 := σ) (k2 := 37) (L2 := [some (.int v0), some (.int v1)]) (S2 := []) (σ2 := σ) 3 (fun n h => h) (fun hc5 => ?_) (fun hc5 => ?_)
    · rw [if_pos hc5] at h
      exact go_ret 6 (fun _ => h)
    · rw [if_neg hc5] at h
      exact go_ret 11 (fun _ => h)
  · rw [if_neg hc4] at h
    refine go_if (c := (iushr v0 (4 : Int32)) < (4 : Int32)) (k1 := 42) (L1 := [some (.int (iushr v0 (4 : Int32))), some (.int (v1 + (-4 : Int32)))]) (S1 := []) (σ1 := σ) (k2 := 37) (L2 := [some (.int (iushr v0 (4 : Int32))), some (.int (v1 + (-4 : Int32)))]) (S2 := []) (σ2 := σ) 8 (fun n h => h) (fun hc6 => ?_) (fun hc6 => ?_)
    · rw [if_pos hc6] at h
      exact go_ret 6 (fun _ => h)
    · rw [if_neg hc6] at h
      exact go_ret 11 (fun _ => h)
def f_Integer_numberOfLeadingZeros_b18 (v0 : Int32) (v1 : Int32) : Int32 :=
  (if v0 < (256 : Int32) then f_Integer_numberOfLeadingZeros_b26 v0 v1 else f_Integer_numberOfLeadingZeros_b26 (iushr v0 (8 : Int32)) (v1 + (-8 : Int32)))
set_option maxRecDepth 20000 in
set_option maxHeartbeats 4000000 in
theorem t_Integer_numberOfLeadingZeros_b18 (d : Nat) (v0 : Int32) (v1 : Int32) (σ : aSt) {P : Option Value → aSt → Prop} (h : P (some (.int ((f_Integer_numberOfLeadingZeros_b18 v0 v1)))) σ) : aGo (aCall MT (d + 0)) P mc_Integer_numberOfLeadingZeros 18 [some (.int v0), some (.int v1)] [] σ := by
  unfold f_Integer_numberOfLeadingZeros_b18 at h
  refine go_if (c := v0 < (256 : Int32)) (k1 := 26) (L1 := [some (.int v0), some (.int v1)]) (S1 := []) (σ1 := σ) (k2 := 21) (L2 := [some (.int v0), some (.int v1)]) (S2 := []) (σ2 := σ) 3 (fun n h => h) (fun hc3 => ?_) (fun hc3 => ?_)
  · rw [if_pos hc3] at h
    exact t_Integer_numberOfLeadingZeros_b26 d v0 v1 σ h
  · rw [if_neg hc3] at h
    refine go_st (k' := 26) (L' := [some (.int (iushr v0 (8 : Int32))), some (.int (v1 + (-8 : Int32)))]) (S' := []) (σ' := σ) 5 (fun n h => h) ?_
    exact t_Integer_numberOfLeadingZeros_b26 d (iushr v0 (8 : Int32)) (v1 + (-8 : Int32)) σ h
def f_Integer_numberOfLeadingZeros (p0 : Int32) : Int32 :=
  (if 0 < p0 then (if p0 < (65536 : Int32) then f_Integer_numberOfLeadingZeros_b18 p0 (31 : Int32) else f_Integer_numberOfLeadingZeros_b18 (iushr p0 (16 : Int32)) ((31 : Int32) + (-16 : Int32))) else (if p0 ≠ 0 then (0 : Int32) else (32 : Int32)))
set_option maxRecDepth 20000 in
set_option maxHeartbeats 4000000 in
theorem c_Integer_numberOfLeadingZeros (d : Nat) (p0 : Int32) (σ : aSt) {P : Option Value → aSt → Prop} (h : P (some (.int ((f_Integer_numberOfLeadingZeros p0)))) σ) : aCall MT (d + 1) 35 [.int p0] σ P := by
  unfold f_Integer_numberOfLeadingZeros at h
  refine call_of (code := mc_Integer_numberOfLeadingZeros) (L := [some (.int p0), none]) rfl rfl rfl rfl ?_
  refine go_if (c := 0 < p0) (k1 := 8) (L1 := [some (.int p0), none]) (S1 := []) (σ1 := σ) (k2 := 2) (L2 := [some (.int p0), none]) (S2 := []) (σ2 := σ) 2 (fun n h => h) (fun hc1 => ?_) (fun hc1 => ?_)
  · rw [if_pos hc1] at h
    refine go_if (c := p0 < (65536 : Int32)) (k1 := 18) (L1 := [some (.int p0), some (.int (31 : Int32))]) (S1 := []) (σ1 := σ) (k2 := 13) (L2 := [some (.int p0), some (.int (31 : Int32))]) (S2 := []) (σ2 := σ) 5 (fun n h => h) (fun hc2 => ?_) (fun hc2 => ?_)
    · rw [if_pos hc2] at h
      exact t_Integer_numberOfLeadingZeros_b18 d p0 (31 : Int32) σ h
    · rw [if_neg hc2] at h
      refine go_st (k' := 18) (L' := [some (.int (iushr p0 (16 : Int32))), some (.int ((31 : Int32) + (-16 : Int32)))]) (S' := []) (σ' := σ) 5 (fun n h => h) ?_
      exact t_Integer_numberOfLeadingZeros_b18 d (iushr p0 (16 : Int32)) ((31 : Int32) + (-16 : Int32)) σ h
  · rw [if_neg hc1] at h
    refine go_if (c := p0 ≠ 0) (k1 := 6) (L1 := [some (.int p0), none]) (S1 := []) (σ1 := σ) (k2 := 4) (L2 := [some (.int p0), none]) (S2 := []) (σ2 := σ) 2 (fun n h => h) (fun hc7 => ?_) (fun hc7 => ?_)
    · rw [if_pos hc7] at h
      exact go_ret 2 (fun _ => h)
    · rw [if_neg hc7] at h
      exact go_ret 3 (fun _ => h)
def f_Long_numberOfLeadingZeros (p0 : Int64) : Int32 :=
  (if (lushr p0 (32 : Int32)).toInt32 ≠ 0 then (f_Integer_numberOfLeadingZeros (lushr p0 (32 : Int32)).toInt32) else ((32 : Int32) + (f_Integer_numberOfLeadingZeros p0.toInt32)))
set_option maxRecDepth 20000 in
set_option maxHeartbeats 4000000 in
theorem c_Long_numberOfLeadingZeros (d : Nat) (p0 : Int64) (σ : aSt) {P : Option Value → aSt → Prop} (h : P (some (.int ((f_Long_numberOfLeadingZeros p0)))) σ) : aCall MT (d + 2) 36 [.long p0] σ P := by
  unfold f_Long_numberOfLeadingZeros at h
  refine call_of (code := mc_Long_numberOfLeadingZeros) (L := [some (.long p0), none, none]) rfl rfl rfl rfl ?_
  refine go_if (c := (lushr p0 (32 : Int32)).toInt32 ≠ 0) (k1 := 13) (L1 := [some (.long p0), none, some (.int (lushr p0 (32 : Int32)).toInt32)]) (S1 := []) (σ1 := σ) (k2 := 7) (L2 := [some (.long p0), none, some (.int (lushr p0 (32 : Int32)).toInt32)]) (S2 := []) (σ2 := σ) 7 (fun n h => h) (fun hc1 => ?_) (fun hc1 => ?_)
  · rw [if_pos hc1] at h
    refine go_call (r := some (.int (f_Integer_numberOfLeadingZeros (lushr p0 (32 : Int32)).toInt32))) (σc := σ) (σ1 := σ) (mi := 35) (vs := [.int (lushr p0 (32 : Int32)).toInt32]) (k' := 15) (L' := [some (.long p0), none, some (.int (lushr p0 (32 : Int32)).toInt32)]) (S' := []) 2 (fun P9 h9 => c_Integer_numberOfLeadingZeros (d + 0) (lushr p0 (32 : Int32)).toInt32 σ h9) (fun n h => h) ?_
    exact go_ret 1 (fun _ => h)
  · rw [if_neg hc1] at h
    refine go_call (r := some (.int (f_Integer_numberOfLeadingZeros p0.toInt32))) (σc := σ) (σ1 := σ) (mi := 35) (vs := [.int p0.toInt32]) (k' := 11) (L' := [some (.long p0), none, some (.int (lushr p0 (32 : Int32)).toInt32)]) (S' := [.int (32 : Int32)]) 4 (fun P9 h9 => c_Integer_numberOfLeadingZeros (d + 0) p0.toInt32 σ h9) (fun n h => h) ?_
    exact go_ret 3 (fun _ => h)
def f_Whole_rootOf_l41 (N : Nat) : Nat → Int64 → Int64 → Int32 → Option Int64
  | 0, _, _, _ => none
  | n + 1, v0, v2, v4 => (if (64 : Int32) ≤ v4 then (if (v2 * v2) ≠ v0 then some (-1 : Int64) else some v2) else (if v2 ≤ (0 : Int64) then (if (v2 * v2) ≠ v0 then some (-1 : Int64) else some v2) else (if ((v2 + (v0 / v2)) / (2 : Int64)) < v2 then f_Whole_rootOf_l41 N n v0 ((v2 + (v0 / v2)) / (2 : Int64)) (v4 + (1 : Int32)) else (if (v2 * v2) ≠ v0 then some (-1 : Int64) else some v2))))
set_option maxRecDepth 20000 in
set_option maxHeartbeats 4000000 in
theorem t_Whole_rootOf_l41 (d : Nat) {N : Nat} (σ : aSt) {x : Int64} {P : Option Value → aSt → Prop} (hp : P (some (.long x)) σ) : ∀ (n : Nat) (d5 d6 : Option Value) (v0 : Int64) (v2 : Int64) (v4 : Int32), f_Whole_rootOf_l41 N n v0 v2 v4 = some x → aGo (aCall MT (d + 2)) P mc_Whole_rootOf 41 [some (.long v0), none, some (.long v2), none, some (.int v4), d5, d6] [] σ := by
  intro n
  induction n with
  | zero => intro d5 d6 v0 v2 v4 h; cases h
  | succ n ih =>
    intro d5 d6 v0 v2 v4 h
    rw [f_Whole_rootOf_l41] at h
    refine go_if (c := (64 : Int32) ≤ v4) (k1 := 65) (L1 := [some (.long v0), none, some (.long v2), none, some (.int v4), d5, d6]) (S1 := []) (σ1 := σ) (k2 := 44) (L2 := [some (.long v0), none, some (.long v2), none, some (.int v4), d5, d6]) (S2 := []) (σ2 := σ) 3 (fun n h => h) (fun hc4 => ?_) (fun hc4 => ?_)
    · rw [if_pos hc4] at h
      refine go_iff (lcmp_ne (v2 * v2) v0) (k1 := 73) (L1 := [some (.long v0), none, some (.long v2), none, some (.int v4), d5, d6]) (S1 := []) (σ1 := σ) (k2 := 71) (L2 := [some (.long v0), none, some (.long v2), none, some (.int v4), d5, d6]) (S2 := []) (σ2 := σ) 6 (fun n h => h) (fun hc5 => ?_) (fun hc5 => ?_)
      · rw [if_pos hc5] at h
        cases h
        exact go_ret 2 (fun _ => hp)
      · rw [if_neg hc5] at h
        cases h
        exact go_ret 3 (fun _ => hp)
    · rw [if_neg hc4] at h
      refine go_iff (lcmp_le v2 (0 : Int64)) (k1 := 65) (L1 := [some (.long v0), none, some (.long v2), none, some (.int v4), d5, d6]) (S1 := []) (σ1 := σ) (k2 := 48) (L2 := [some (.long v0), none, some (.long v2), none, some (.int v4), d5, d6]) (S2 := []) (σ2 := σ) 4 (fun n h => h) (fun hc6 => ?_) (fun hc6 => ?_)
      · rw [if_pos hc6] at h
        refine go_iff (lcmp_ne (v2 * v2) v0) (k1 := 73) (L1 := [some (.long v0), none, some (.long v2), none, some (.int v4), d5, d6]) (S1 := []) (σ1 := σ) (k2 := 71) (L2 := [some (.long v0), none, some (.long v2), none, some (.int v4), d5, d6]) (S2 := []) (σ2 := σ) 6 (fun n h => h) (fun hc7 => ?_) (fun hc7 => ?_)
        · rw [if_pos hc7] at h
          cases h
          exact go_ret 2 (fun _ => hp)
        · rw [if_neg hc7] at h
          cases h
          exact go_ret 3 (fun _ => hp)
      · rw [if_neg hc6] at h
        refine go_q (Q := ¬ v2 = 0) (k' := 52) (L' := [some (.long v0), none, some (.long v2), none, some (.int v4), d5, d6]) (S' := [.long (v0 / v2), .long v2]) (σ' := σ) 4 (fun q => hc6 (by rw [q]; decide)) (fun n h => h) ?_
        refine go_q (Q := ¬ (2 : Int64) = 0) (k' := 55) (L' := [some (.long v0), none, some (.long v2), none, some (.int v4), d5, d6]) (S' := [.long ((v2 + (v0 / v2)) / (2 : Int64))]) (σ' := σ) 3 (by decide) (fun n h => h) ?_
        refine go_iff (lcmp_lt ((v2 + (v0 / v2)) / (2 : Int64)) v2) (k1 := 61) (L1 := [some (.long v0), none, some (.long v2), none, some (.int v4), some (.long ((v2 + (v0 / v2)) / (2 : Int64))), none]) (S1 := []) (σ1 := σ) (k2 := 60) (L2 := [some (.long v0), none, some (.long v2), none, some (.int v4), some (.long ((v2 + (v0 / v2)) / (2 : Int64))), none]) (S2 := []) (σ2 := σ) 5 (fun n h => h) (fun hc8 => ?_) (fun hc8 => ?_)
        · rw [if_pos hc8] at h
          refine go_st (k' := 41) (L' := [some (.long v0), none, some (.long ((v2 + (v0 / v2)) / (2 : Int64))), none, some (.int (v4 + (1 : Int32))), some (.long ((v2 + (v0 / v2)) / (2 : Int64))), none]) (S' := []) (σ' := σ) 4 (fun n h => h) ?_
          exact ih _ _ v0 ((v2 + (v0 / v2)) / (2 : Int64)) (v4 + (1 : Int32)) h
        · rw [if_neg hc8] at h
          refine go_iff (lcmp_ne (v2 * v2) v0) (k1 := 73) (L1 := [some (.long v0), none, some (.long v2), none, some (.int v4), some (.long ((v2 + (v0 / v2)) / (2 : Int64))), none]) (S1 := []) (σ1 := σ) (k2 := 71) (L2 := [some (.long v0), none, some (.long v2), none, some (.int v4), some (.long ((v2 + (v0 / v2)) / (2 : Int64))), none]) (S2 := []) (σ2 := σ) 7 (fun n h => h) (fun hc9 => ?_) (fun hc9 => ?_)
          · rw [if_pos hc9] at h
            cases h
            exact go_ret 2 (fun _ => hp)
          · rw [if_neg hc9] at h
            cases h
            exact go_ret 3 (fun _ => hp)
def f_Whole_rootOf (N : Nat) (p0 : Int64) : Option Int64 :=
  (if p0 < (0 : Int64) then some (-1 : Int64) else (if ((lushr (144680414395695635 : Int64) (p0 &&& (63 : Int64)).toInt32) &&& (1 : Int64)) ≠ (0 : Int64) then (if ((lushr (288872697407275667 : Int64) (lrem p0 (63 : Int64)).toInt32) &&& (1 : Int64)) ≠ (0 : Int64) then f_Whole_rootOf_l41 N N p0 ((1 : Int64) <<< ((((65 : Int32) - (f_Long_numberOfLeadingZeros p0)) / (2 : Int32)).toInt64 &&& 63)) (0 : Int32) else some (-1 : Int64)) else some (-1 : Int64)))
set_option maxRecDepth 20000 in
set_option maxHeartbeats 4000000 in
theorem c_Whole_rootOf (d : Nat) {N : Nat} (p0 : Int64) (σ : aSt) {P : Option Value → aSt → Prop} {x : Int64} (h : f_Whole_rootOf N p0 = some x) (hp : P (some (.long x)) σ) : aCall MT (d + 3) 37 [.long p0] σ P := by
  unfold f_Whole_rootOf at h
  refine call_of (code := mc_Whole_rootOf) (L := [some (.long p0), none, none, none, none, none, none]) rfl rfl rfl rfl ?_
  refine go_iff (lcmp_lt p0 (0 : Int64)) (k1 := 15) (L1 := [some (.long p0), none, none, none, none, none, none]) (S1 := []) (σ1 := σ) (k2 := 4) (L2 := [some (.long p0), none, none, none, none, none, none]) (S2 := []) (σ2 := σ) 4 (fun n h => h) (fun hc1 => ?_) (fun hc1 => ?_)
  · rw [if_pos hc1] at h
    cases h
    exact go_ret 2 (fun _ => hp)
  · rw [if_neg hc1] at h
    refine go_iff (lcmp_ne ((lushr (144680414395695635 : Int64) (p0 &&& (63 : Int64)).toInt32) &&& (1 : Int64)) (0 : Int64)) (k1 := 17) (L1 := [some (.long p0), none, none, none, none, none, none]) (S1 := []) (σ1 := σ) (k2 := 15) (L2 := [some (.long p0), none, none, none, none, none, none]) (S2 := []) (σ2 := σ) 11 (fun n h => h) (fun hc2 => ?_) (fun hc2 => ?_)
    · rw [if_pos hc2] at h
      refine go_q (Q := ¬ (63 : Int64) = 0) (k' := 21) (L' := [some (.long p0), none, none, none, none, none, none]) (S' := [.long (lrem p0 (63 : Int64)), .long (288872697407275667 : Int64)]) (σ' := σ) 4 (by decide) (fun n h => h) ?_
      refine go_iff (lcmp_ne ((lushr (288872697407275667 : Int64) (lrem p0 (63 : Int64)).toInt32) &&& (1 : Int64)) (0 : Int64)) (k1 := 30) (L1 := [some (.long p0), none, none, none, none, none, none]) (S1 := []) (σ1 := σ) (k2 := 28) (L2 := [some (.long p0), none, none, none, none, none, none]) (S2 := []) (σ2 := σ) 7 (fun n h => h) (fun hc3 => ?_) (fun hc3 => ?_)
      · rw [if_pos hc3] at h
        refine go_call (r := some (.int (f_Long_numberOfLeadingZeros p0))) (σc := σ) (σ1 := σ) (mi := 36) (vs := [.long p0]) (k' := 34) (L' := [some (.long p0), none, none, none, none, none, none]) (S' := [.int (65 : Int32), .long (1 : Int64)]) 4 (fun P9 h9 => c_Long_numberOfLeadingZeros (d + 0) p0 σ h9) (fun n h => h) ?_
        refine go_q (Q := ¬ (2 : Int32) = 0) (k' := 37) (L' := [some (.long p0), none, none, none, none, none, none]) (S' := [.int (((65 : Int32) - (f_Long_numberOfLeadingZeros p0)) / (2 : Int32)), .long (1 : Int64)]) (σ' := σ) 3 (by decide) (fun n h => h) ?_
        refine go_st (k' := 41) (L' := [some (.long p0), none, some (.long ((1 : Int64) <<< ((((65 : Int32) - (f_Long_numberOfLeadingZeros p0)) / (2 : Int32)).toInt64 &&& 63))), none, some (.int (0 : Int32)), none, none]) (S' := []) (σ' := σ) 4 (fun n h => h) ?_
        exact t_Whole_rootOf_l41 d σ hp N _ _ p0 ((1 : Int64) <<< ((((65 : Int32) - (f_Long_numberOfLeadingZeros p0)) / (2 : Int32)).toInt64 &&& 63)) (0 : Int32) h
      · rw [if_neg hc3] at h
        cases h
        exact go_ret 2 (fun _ => hp)
    · rw [if_neg hc2] at h
      cases h
      exact go_ret 2 (fun _ => hp)
def f_Whole_gcd_l20 (N : Nat) : Nat → Int64 → Int64 → Int32 → Option Int64
  | 0, _, _, _ => none
  | n + 1, v4, v6, v8 => (if (200 : Int32) ≤ v8 then some v4 else (if v6 = (0 : Int64) then some v4 else f_Whole_gcd_l20 N n v6 (lrem v4 v6) (v8 + (1 : Int32))))
set_option maxRecDepth 20000 in
set_option maxHeartbeats 4000000 in
theorem t_Whole_gcd_l20 (d : Nat) {N : Nat} (σ : aSt) {x : Int64} {P : Option Value → aSt → Prop} (hp : P (some (.long x)) σ) : ∀ (n : Nat) (d0 d1 d2 d3 d9 d10 : Option Value) (v4 : Int64) (v6 : Int64) (v8 : Int32), f_Whole_gcd_l20 N n v4 v6 v8 = some x → aGo (aCall MT (d + 0)) P mc_Whole_gcd 20 [d0, d1, d2, d3, some (.long v4), none, some (.long v6), none, some (.int v8), d9, d10] [] σ := by
  intro n
  induction n with
  | zero => intro d0 d1 d2 d3 d9 d10 v4 v6 v8 h; cases h
  | succ n ih =>
    intro d0 d1 d2 d3 d9 d10 v4 v6 v8 h
    rw [f_Whole_gcd_l20] at h
    refine go_if (c := (200 : Int32) ≤ v8) (k1 := 37) (L1 := [d0, d1, d2, d3, some (.long v4), none, some (.long v6), none, some (.int v8), d9, d10]) (S1 := []) (σ1 := σ) (k2 := 23) (L2 := [d0, d1, d2, d3, some (.long v4), none, some (.long v6), none, some (.int v8), d9, d10]) (S2 := []) (σ2 := σ) 3 (fun n h => h) (fun hc3 => ?_) (fun hc3 => ?_)
    · rw [if_pos hc3] at h
      cases h
      exact go_ret 2 (fun _ => hp)
    · rw [if_neg hc3] at h
      refine go_iff (lcmp_eq v6 (0 : Int64)) (k1 := 37) (L1 := [d0, d1, d2, d3, some (.long v4), none, some (.long v6), none, some (.int v8), d9, d10]) (S1 := []) (σ1 := σ) (k2 := 27) (L2 := [d0, d1, d2, d3, some (.long v4), none, some (.long v6), none, some (.int v8), d9, d10]) (S2 := []) (σ2 := σ) 4 (fun n h => h) (fun hc4 => ?_) (fun hc4 => ?_)
      · rw [if_pos hc4] at h
        cases h
        exact go_ret 2 (fun _ => hp)
      · rw [if_neg hc4] at h
        refine go_q (Q := ¬ v6 = 0) (k' := 30) (L' := [d0, d1, d2, d3, some (.long v4), none, some (.long v6), none, some (.int v8), d9, d10]) (S' := [.long (lrem v4 v6)]) (σ' := σ) 3 (hc4) (fun n h => h) ?_
        refine go_st (k' := 20) (L' := [d0, d1, d2, none, some (.long v6), none, some (.long (lrem v4 v6)), none, some (.int (v8 + (1 : Int32))), some (.long (lrem v4 v6)), none]) (S' := []) (σ' := σ) 7 (fun n h => h) ?_
        exact ih _ _ _ _ _ _ v6 (lrem v4 v6) (v8 + (1 : Int32)) h
def f_Whole_gcd_b17 (N : Nat) (v4 : Int64) (s0 : Int64) : Option Int64 :=
  f_Whole_gcd_l20 N N v4 s0 (0 : Int32)
set_option maxRecDepth 20000 in
set_option maxHeartbeats 4000000 in
theorem t_Whole_gcd_b17 (d : Nat) {N : Nat} (d0 d1 d2 d3 d6 d7 d8 d9 d10 : Option Value) (v4 : Int64) (s0 : Int64) (σ : aSt) {P : Option Value → aSt → Prop} {x : Int64} (h : f_Whole_gcd_b17 N v4 s0 = some x) (hp : P (some (.long x)) σ) : aGo (aCall MT (d + 0)) P mc_Whole_gcd 17 [d0, d1, d2, d3, some (.long v4), none, d6, d7, d8, d9, d10] [.long s0] σ := by
  unfold f_Whole_gcd_b17 at h
  refine go_st (k' := 20) (L' := [d0, d1, d2, d3, some (.long v4), none, some (.long s0), none, some (.int (0 : Int32)), d9, d10]) (S' := []) (σ' := σ) 3 (fun n h => h) ?_
  exact t_Whole_gcd_l20 d σ hp N _ _ _ _ _ _ v4 s0 (0 : Int32) h
def f_Whole_gcd_b8 (N : Nat) (v2 : Int64) (s0 : Int64) : Option Int64 :=
  (if (0 : Int64) ≤ v2 then f_Whole_gcd_b17 N s0 v2 else f_Whole_gcd_b17 N s0 (-v2))
set_option maxRecDepth 20000 in
set_option maxHeartbeats 4000000 in
theorem t_Whole_gcd_b8 (d : Nat) {N : Nat} (d0 d1 d4 d5 d6 d7 d8 d9 d10 : Option Value) (v2 : Int64) (s0 : Int64) (σ : aSt) {P : Option Value → aSt → Prop} {x : Int64} (h : f_Whole_gcd_b8 N v2 s0 = some x) (hp : P (some (.long x)) σ) : aGo (aCall MT (d + 0)) P mc_Whole_gcd 8 [d0, d1, some (.long v2), none, d4, d5, d6, d7, d8, d9, d10] [.long s0] σ := by
  unfold f_Whole_gcd_b8 at h
  refine go_iff (lcmp_ge v2 (0 : Int64)) (k1 := 16) (L1 := [d0, d1, some (.long v2), none, some (.long s0), none, d6, d7, d8, d9, d10]) (S1 := []) (σ1 := σ) (k2 := 13) (L2 := [d0, d1, some (.long v2), none, some (.long s0), none, d6, d7, d8, d9, d10]) (S2 := []) (σ2 := σ) 5 (fun n h => h) (fun hc2 => ?_) (fun hc2 => ?_)
  · rw [if_pos hc2] at h
    refine go_st (k' := 17) (L' := [d0, d1, some (.long v2), none, some (.long s0), none, d6, d7, d8, d9, d10]) (S' := [.long v2]) (σ' := σ) 1 (fun n h => h) ?_
    exact t_Whole_gcd_b17 d _ _ _ _ _ _ _ _ _ s0 v2 σ h hp
  · rw [if_neg hc2] at h
    refine go_st (k' := 17) (L' := [d0, d1, some (.long v2), none, some (.long s0), none, d6, d7, d8, d9, d10]) (S' := [.long (-v2)]) (σ' := σ) 3 (fun n h => h) ?_
    exact t_Whole_gcd_b17 d _ _ _ _ _ _ _ _ _ s0 (-v2) σ h hp
def f_Whole_gcd (N : Nat) (p0 : Int64) (p1 : Int64) : Option Int64 :=
  (if (0 : Int64) ≤ p0 then f_Whole_gcd_b8 N p1 p0 else f_Whole_gcd_b8 N p1 (-p0))
set_option maxRecDepth 20000 in
set_option maxHeartbeats 4000000 in
theorem c_Whole_gcd (d : Nat) {N : Nat} (p0 : Int64) (p1 : Int64) (σ : aSt) {P : Option Value → aSt → Prop} {x : Int64} (h : f_Whole_gcd N p0 p1 = some x) (hp : P (some (.long x)) σ) : aCall MT (d + 1) 38 [.long p0, .long p1] σ P := by
  unfold f_Whole_gcd at h
  refine call_of (code := mc_Whole_gcd) (L := [some (.long p0), none, some (.long p1), none, none, none, none, none, none, none, none]) rfl rfl rfl rfl ?_
  refine go_iff (lcmp_ge p0 (0 : Int64)) (k1 := 7) (L1 := [some (.long p0), none, some (.long p1), none, none, none, none, none, none, none, none]) (S1 := []) (σ1 := σ) (k2 := 4) (L2 := [some (.long p0), none, some (.long p1), none, none, none, none, none, none, none, none]) (S2 := []) (σ2 := σ) 4 (fun n h => h) (fun hc1 => ?_) (fun hc1 => ?_)
  · rw [if_pos hc1] at h
    refine go_st (k' := 8) (L' := [some (.long p0), none, some (.long p1), none, none, none, none, none, none, none, none]) (S' := [.long p0]) (σ' := σ) 1 (fun n h => h) ?_
    exact t_Whole_gcd_b8 d _ _ _ _ _ _ _ _ _ p1 p0 σ h hp
  · rw [if_neg hc1] at h
    refine go_st (k' := 8) (L' := [some (.long p0), none, some (.long p1), none, none, none, none, none, none, none, none]) (S' := [.long (-p0)]) (σ' := σ) 3 (fun n h => h) ?_
    exact t_Whole_gcd_b8 d _ _ _ _ _ _ _ _ _ p1 (-p0) σ h hp
def f_PointList_append_11 (p0 : Int32) (p1 : Int32) (p2 : Int32) (σ : aSt) : aSt :=
  (if (σ.1 11 5) < 0 then σ else (if (σ.1 11 5) < (121 : Int32) then (lt (f_store (s_l σ 15 (σ.1 11 5).toNatClampNeg ((((p2.toInt64 * (2097153 : Int64)) + p0.toInt64) * (2097153 : Int64)) + p1.toInt64)) 12 (σ.1 11 5) p0) fun x3 => (lt (f_store x3 13 (x3.1 11 5) p1) fun x4 => (lt (f_store x4 14 (x4.1 11 5) p2) fun x5 => (s_i x5 11 5 ((x5.1 11 5) + (1 : Int32)))))) else σ))
set_option maxRecDepth 20000 in
set_option maxHeartbeats 4000000 in
theorem c_PointList_append_11 (d : Nat) (p0 : Int32) (p1 : Int32) (p2 : Int32) (σ : aSt) {P : Option Value → aSt → Prop} (h : P none (f_PointList_append_11 p0 p1 p2 σ)) : aCall MT (d + 2) 39 [.ref 11, .int p0, .int p1, .int p2] σ P := by
  unfold f_PointList_append_11 at h
  refine call_of (code := mc_PointList_append) (L := [some (.ref 11), some (.int p0), some (.int p1), some (.int p2)]) rfl rfl rfl rfl ?_
  refine go_if (c := (σ.1 11 5) < 0) (k1 := 9) (L1 := [some (.ref 11), some (.int p0), some (.int p1), some (.int p2)]) (S1 := []) (σ1 := σ) (k2 := 3) (L2 := [some (.ref 11), some (.int p0), some (.int p1), some (.int p2)]) (S2 := []) (σ2 := σ) 3 (fun n h => h) (fun hc1 => ?_) (fun hc1 => ?_)
  · rw [if_pos hc1] at h
    exact go_ret 1 (fun _ => h)
  · rw [if_neg hc1] at h
    refine go_if (c := (σ.1 11 5) < (121 : Int32)) (k1 := 10) (L1 := [some (.ref 11), some (.int p0), some (.int p1), some (.int p2)]) (S1 := []) (σ1 := σ) (k2 := 9) (L2 := [some (.ref 11), some (.int p0), some (.int p1), some (.int p2)]) (S2 := []) (σ2 := σ) 6 (fun n h => h) (fun hc2 => ?_) (fun hc2 => ?_)
    · rw [if_pos hc2] at h
      refine go_q (Q := inb 1 σ 15 (σ.1 11 5)) (k' := 27) (L' := [some (.ref 11), some (.int p0), some (.int p1), some (.int p2)]) (S' := []) (σ' := (s_l σ 15 (σ.1 11 5).toNatClampNeg ((((p2.toInt64 * (2097153 : Int64)) + p0.toInt64) * (2097153 : Int64)) + p1.toInt64))) 17 (inb_mk rfl (Int32.not_lt.mp hc1) (hc2)) (fun n h => h) ?_
      obtain ⟨x3, hx3⟩ : ∃ x3, x3 = f_store (s_l σ 15 (σ.1 11 5).toNatClampNeg ((((p2.toInt64 * (2097153 : Int64)) + p0.toInt64) * (2097153 : Int64)) + p1.toInt64)) 12 (σ.1 11 5) p0 := ⟨_, rfl⟩
      rw [lt_eq, ← hx3] at h
      refine go_call (r := none) (σc := (s_l σ 15 (σ.1 11 5).toNatClampNeg ((((p2.toInt64 * (2097153 : Int64)) + p0.toInt64) * (2097153 : Int64)) + p1.toInt64))) (σ1 := x3) (mi := 1) (vs := [.ref 12, .int (σ.1 11 5), .int p0]) (k' := 33) (L' := [some (.ref 11), some (.int p0), some (.int p1), some (.int p2)]) (S' := []) 6 (fun P9 h9 => c_store (d + 0) (s_l σ 15 (σ.1 11 5).toNatClampNeg ((((p2.toInt64 * (2097153 : Int64)) + p0.toInt64) * (2097153 : Int64)) + p1.toInt64)) 12 rfl rfl (σ.1 11 5) p0 (by rw [← hx3]; exact h9)) (fun n h => h) ?_
      obtain ⟨x4, hx4⟩ : ∃ x4, x4 = f_store x3 13 (x3.1 11 5) p1 := ⟨_, rfl⟩
      rw [lt_eq, ← hx4] at h
      refine go_call (r := none) (σc := x3) (σ1 := x4) (mi := 1) (vs := [.ref 13, .int (x3.1 11 5), .int p1]) (k' := 39) (L' := [some (.ref 11), some (.int p0), some (.int p1), some (.int p2)]) (S' := []) 6 (fun P9 h9 => c_store (d + 0) x3 13 rfl rfl (x3.1 11 5) p1 (by rw [← hx4]; exact h9)) (fun n h => h) ?_
      obtain ⟨x5, hx5⟩ : ∃ x5, x5 = f_store x4 14 (x4.1 11 5) p2 := ⟨_, rfl⟩
      rw [lt_eq, ← hx5] at h
      refine go_call (r := none) (σc := x4) (σ1 := x5) (mi := 1) (vs := [.ref 14, .int (x4.1 11 5), .int p2]) (k' := 45) (L' := [some (.ref 11), some (.int p0), some (.int p1), some (.int p2)]) (S' := []) 6 (fun P9 h9 => c_store (d + 0) x4 14 rfl rfl (x4.1 11 5) p2 (by rw [← hx5]; exact h9)) (fun n h => h) ?_
      exact go_ret 7 (fun _ => h)
    · rw [if_neg hc2] at h
      exact go_ret 1 (fun _ => h)
def f_PointList_addSpot_11 (N : Nat) (p0 : Int32) (p1 : Int32) (σ : aSt) : Option aSt :=
  ((f_Whole_rootOf N (p0.toInt64 * (((p0.toInt64 * p0.toInt64) + (((σ.1 11 6) * p0).toInt64 * (p1.toInt64 * p1.toInt64))) + (((σ.1 11 7).toInt64 * (p1.toInt64 * p1.toInt64)) * (p1.toInt64 * p1.toInt64))))).bind fun x1 => (if x1.toInt32 < 0 then some σ else ((f_Whole_gcd N p0.toInt64 p1.toInt64).bind fun x3 => (if x3 = (1 : Int64) then (if x1.toInt32 ≤ 0 then (lt (f_PointList_append_11 p0 x1.toInt32 p1 σ) fun x6 => some x6) else (lt (f_PointList_append_11 p0 (-x1.toInt32) p1 σ) fun x7 => (lt (f_PointList_append_11 p0 x1.toInt32 p1 x7) fun x8 => some x8))) else some σ))))
set_option maxRecDepth 20000 in
set_option maxHeartbeats 4000000 in
theorem c_PointList_addSpot_11 (d : Nat) {N : Nat} (p0 : Int32) (p1 : Int32) (σ : aSt) {P : Option Value → aSt → Prop} {x : aSt} (h : f_PointList_addSpot_11 N p0 p1 σ = some x) (hp : P none x) : aCall MT (d + 4) 40 [.ref 11, .int p0, .int p1] σ P := by
  unfold f_PointList_addSpot_11 at h
  refine call_of (code := mc_PointList_addSpot) (L := [some (.ref 11), some (.int p0), some (.int p1), none, none, none, none, none]) rfl rfl rfl rfl ?_
  obtain ⟨x1, hx1, h⟩ := bind_of h
  refine go_call (r := some (.long x1)) (σc := σ) (σ1 := σ) (mi := 37) (vs := [.long (p0.toInt64 * (((p0.toInt64 * p0.toInt64) + (((σ.1 11 6) * p0).toInt64 * (p1.toInt64 * p1.toInt64))) + (((σ.1 11 7).toInt64 * (p1.toInt64 * p1.toInt64)) * (p1.toInt64 * p1.toInt64))))]) (k' := 33) (L' := [some (.ref 11), some (.int p0), some (.int p1), some (.long (p1.toInt64 * p1.toInt64)), none, some (.long (p0.toInt64 * (((p0.toInt64 * p0.toInt64) + (((σ.1 11 6) * p0).toInt64 * (p1.toInt64 * p1.toInt64))) + (((σ.1 11 7).toInt64 * (p1.toInt64 * p1.toInt64)) * (p1.toInt64 * p1.toInt64))))), none, none]) (S' := []) 33 (fun P9 h9 => c_Whole_rootOf (d + 0) (p0.toInt64 * (((p0.toInt64 * p0.toInt64) + (((σ.1 11 6) * p0).toInt64 * (p1.toInt64 * p1.toInt64))) + (((σ.1 11 7).toInt64 * (p1.toInt64 * p1.toInt64)) * (p1.toInt64 * p1.toInt64)))) σ hx1 h9) (fun n h => h) ?_
  refine go_if (c := x1.toInt32 < 0) (k1 := 45) (L1 := [some (.ref 11), some (.int p0), some (.int p1), some (.long (p1.toInt64 * p1.toInt64)), none, some (.long (p0.toInt64 * (((p0.toInt64 * p0.toInt64) + (((σ.1 11 6) * p0).toInt64 * (p1.toInt64 * p1.toInt64))) + (((σ.1 11 7).toInt64 * (p1.toInt64 * p1.toInt64)) * (p1.toInt64 * p1.toInt64))))), none, some (.int x1.toInt32)]) (S1 := []) (σ1 := σ) (k2 := 37) (L2 := [some (.ref 11), some (.int p0), some (.int p1), some (.long (p1.toInt64 * p1.toInt64)), none, some (.long (p0.toInt64 * (((p0.toInt64 * p0.toInt64) + (((σ.1 11 6) * p0).toInt64 * (p1.toInt64 * p1.toInt64))) + (((σ.1 11 7).toInt64 * (p1.toInt64 * p1.toInt64)) * (p1.toInt64 * p1.toInt64))))), none, some (.int x1.toInt32)]) (S2 := []) (σ2 := σ) 4 (fun n h => h) (fun hc2 => ?_) (fun hc2 => ?_)
  · rw [if_pos hc2] at h
    cases h
    exact go_ret 1 (fun _ => hp)
  · rw [if_neg hc2] at h
    obtain ⟨x3, hx3, h⟩ := bind_of h
    refine go_call (r := some (.long x3)) (σc := σ) (σ1 := σ) (mi := 38) (vs := [.long p0.toInt64, .long p1.toInt64]) (k' := 42) (L' := [some (.ref 11), some (.int p0), some (.int p1), some (.long (p1.toInt64 * p1.toInt64)), none, some (.long (p0.toInt64 * (((p0.toInt64 * p0.toInt64) + (((σ.1 11 6) * p0).toInt64 * (p1.toInt64 * p1.toInt64))) + (((σ.1 11 7).toInt64 * (p1.toInt64 * p1.toInt64)) * (p1.toInt64 * p1.toInt64))))), none, some (.int x1.toInt32)]) (S' := []) 5 (fun P9 h9 => c_Whole_gcd (d + 2) p0.toInt64 p1.toInt64 σ hx3 h9) (fun n h => h) ?_
    refine go_iff (lcmp_eq x3 (1 : Int64)) (k1 := 46) (L1 := [some (.ref 11), some (.int p0), some (.int p1), some (.long (p1.toInt64 * p1.toInt64)), none, some (.long (p0.toInt64 * (((p0.toInt64 * p0.toInt64) + (((σ.1 11 6) * p0).toInt64 * (p1.toInt64 * p1.toInt64))) + (((σ.1 11 7).toInt64 * (p1.toInt64 * p1.toInt64)) * (p1.toInt64 * p1.toInt64))))), none, some (.int x1.toInt32)]) (S1 := []) (σ1 := σ) (k2 := 45) (L2 := [some (.ref 11), some (.int p0), some (.int p1), some (.long (p1.toInt64 * p1.toInt64)), none, some (.long (p0.toInt64 * (((p0.toInt64 * p0.toInt64) + (((σ.1 11 6) * p0).toInt64 * (p1.toInt64 * p1.toInt64))) + (((σ.1 11 7).toInt64 * (p1.toInt64 * p1.toInt64)) * (p1.toInt64 * p1.toInt64))))), none, some (.int x1.toInt32)]) (S2 := []) (σ2 := σ) 3 (fun n h => h) (fun hc4 => ?_) (fun hc4 => ?_)
    · rw [if_pos hc4] at h
      refine go_if (c := x1.toInt32 ≤ 0) (k1 := 54) (L1 := [some (.ref 11), some (.int p0), some (.int p1), some (.long (p1.toInt64 * p1.toInt64)), none, some (.long (p0.toInt64 * (((p0.toInt64 * p0.toInt64) + (((σ.1 11 6) * p0).toInt64 * (p1.toInt64 * p1.toInt64))) + (((σ.1 11 7).toInt64 * (p1.toInt64 * p1.toInt64)) * (p1.toInt64 * p1.toInt64))))), none, some (.int x1.toInt32)]) (S1 := []) (σ1 := σ) (k2 := 48) (L2 := [some (.ref 11), some (.int p0), some (.int p1), some (.long (p1.toInt64 * p1.toInt64)), none, some (.long (p0.toInt64 * (((p0.toInt64 * p0.toInt64) + (((σ.1 11 6) * p0).toInt64 * (p1.toInt64 * p1.toInt64))) + (((σ.1 11 7).toInt64 * (p1.toInt64 * p1.toInt64)) * (p1.toInt64 * p1.toInt64))))), none, some (.int x1.toInt32)]) (S2 := []) (σ2 := σ) 2 (fun n h => h) (fun hc5 => ?_) (fun hc5 => ?_)
      · rw [if_pos hc5] at h
        obtain ⟨x6, hx6, h⟩ := lt_of h
        refine go_call (r := none) (σc := σ) (σ1 := x6) (mi := 39) (vs := [.ref 11, .int p0, .int x1.toInt32, .int p1]) (k' := 59) (L' := [some (.ref 11), some (.int p0), some (.int p1), some (.long (p1.toInt64 * p1.toInt64)), none, some (.long (p0.toInt64 * (((p0.toInt64 * p0.toInt64) + (((σ.1 11 6) * p0).toInt64 * (p1.toInt64 * p1.toInt64))) + (((σ.1 11 7).toInt64 * (p1.toInt64 * p1.toInt64)) * (p1.toInt64 * p1.toInt64))))), none, some (.int x1.toInt32)]) (S' := []) 5 (fun P9 h9 => c_PointList_append_11 (d + 1) p0 x1.toInt32 p1 σ (by rw [← hx6]; exact h9)) (fun n h => h) ?_
        cases h
        exact go_ret 1 (fun _ => hp)
      · rw [if_neg hc5] at h
        obtain ⟨x7, hx7, h⟩ := lt_of h
        refine go_call (r := none) (σc := σ) (σ1 := x7) (mi := 39) (vs := [.ref 11, .int p0, .int (-x1.toInt32), .int p1]) (k' := 54) (L' := [some (.ref 11), some (.int p0), some (.int p1), some (.long (p1.toInt64 * p1.toInt64)), none, some (.long (p0.toInt64 * (((p0.toInt64 * p0.toInt64) + (((σ.1 11 6) * p0).toInt64 * (p1.toInt64 * p1.toInt64))) + (((σ.1 11 7).toInt64 * (p1.toInt64 * p1.toInt64)) * (p1.toInt64 * p1.toInt64))))), none, some (.int x1.toInt32)]) (S' := []) 6 (fun P9 h9 => c_PointList_append_11 (d + 1) p0 (-x1.toInt32) p1 σ (by rw [← hx7]; exact h9)) (fun n h => h) ?_
        obtain ⟨x8, hx8, h⟩ := lt_of h
        refine go_call (r := none) (σc := x7) (σ1 := x8) (mi := 39) (vs := [.ref 11, .int p0, .int x1.toInt32, .int p1]) (k' := 59) (L' := [some (.ref 11), some (.int p0), some (.int p1), some (.long (p1.toInt64 * p1.toInt64)), none, some (.long (p0.toInt64 * (((p0.toInt64 * p0.toInt64) + (((σ.1 11 6) * p0).toInt64 * (p1.toInt64 * p1.toInt64))) + (((σ.1 11 7).toInt64 * (p1.toInt64 * p1.toInt64)) * (p1.toInt64 * p1.toInt64))))), none, some (.int x1.toInt32)]) (S' := []) 5 (fun P9 h9 => c_PointList_append_11 (d + 1) p0 x1.toInt32 p1 x7 (by rw [← hx8]; exact h9)) (fun n h => h) ?_
        cases h
        exact go_ret 1 (fun _ => hp)
    · rw [if_neg hc4] at h
      cases h
      exact go_ret 1 (fun _ => hp)
def f_PointList_fill_11_l30 (N : Nat) (k48 : Int32 → aSt → Option aSt) : Nat → Int32 → Int32 → aSt → Option aSt
  | 0, _, _, _ => none
  | n + 1, v5, v6, σ => (if (f_Sieve_size σ) ≤ v6 then k48 v5 σ else (if (120 : Int32) ≤ (σ.1 11 5) then k48 v5 σ else ((f_PointList_addSpot_11 N (f_Sieve_spot v6 σ) v5 σ).bind fun x5 => f_PointList_fill_11_l30 N k48 n v5 (v6 + (1 : Int32)) x5)))
set_option maxRecDepth 20000 in
set_option maxHeartbeats 4000000 in
theorem t_PointList_fill_11_l30 (d : Nat) {N : Nat} (k48 : Int32 → aSt → Option aSt) {x : aSt} {P : Option Value → aSt → Prop} (hp : P none x) (hk48 : ∀ (d1 d2 d3 d4 d6 : Option Value) (v5 : Int32) (σ : aSt), k48 v5 σ = some x → aGo (aCall MT (d + 4)) P mc_PointList_fill 48 [some (.ref 11), d1, d2, d3, d4, some (.int v5), d6] [] σ) : ∀ (n : Nat) (d1 d2 d3 d4 : Option Value) (v5 : Int32) (v6 : Int32) (σ : aSt), f_PointList_fill_11_l30 N k48 n v5 v6 σ = some x → aGo (aCall MT (d + 4)) P mc_PointList_fill 30 [some (.ref 11), d1, d2, d3, d4, some (.int v5), some (.int v6)] [] σ := by
  intro n
  induction n with
  | zero => intro d1 d2 d3 d4 v5 v6 σ h; cases h
  | succ n ih =>
    intro d1 d2 d3 d4 v5 v6 σ h
    rw [f_PointList_fill_11_l30] at h
    refine go_call (r := some (.int (f_Sieve_size σ))) (σc := σ) (σ1 := σ) (mi := 33) (vs := [.ref 8]) (k' := 34) (L' := [some (.ref 11), d1, d2, d3, d4, some (.int v5), some (.int v6)]) (S' := [.int v6]) 4 (fun P9 h9 => c_Sieve_size (d + 3) σ h9) (fun n h => h) ?_
    refine go_if (c := (f_Sieve_size σ) ≤ v6) (k1 := 48) (L1 := [some (.ref 11), d1, d2, d3, d4, some (.int v5), some (.int v6)]) (S1 := []) (σ1 := σ) (k2 := 35) (L2 := [some (.ref 11), d1, d2, d3, d4, some (.int v5), some (.int v6)]) (S2 := []) (σ2 := σ) 1 (fun n h => h) (fun hc3 => ?_) (fun hc3 => ?_)
    · rw [if_pos hc3] at h
      exact hk48 _ _ _ _ _ v5 σ h
    · rw [if_neg hc3] at h
      refine go_if (c := (120 : Int32) ≤ (σ.1 11 5)) (k1 := 48) (L1 := [some (.ref 11), d1, d2, d3, d4, some (.int v5), some (.int v6)]) (S1 := []) (σ1 := σ) (k2 := 39) (L2 := [some (.ref 11), d1, d2, d3, d4, some (.int v5), some (.int v6)]) (S2 := []) (σ2 := σ) 4 (fun n h => h) (fun hc4 => ?_) (fun hc4 => ?_)
      · rw [if_pos hc4] at h
        exact hk48 _ _ _ _ _ v5 σ h
      · rw [if_neg hc4] at h
        refine go_call (r := some (.int (f_Sieve_spot v6 σ))) (σc := σ) (σ1 := σ) (mi := 34) (vs := [.ref 8, .int v6]) (k' := 44) (L' := [some (.ref 11), d1, d2, d3, d4, some (.int v5), some (.int v6)]) (S' := [.ref 11]) 5 (fun P9 h9 => c_Sieve_spot (d + 2) v6 σ h9) (fun n h => h) ?_
        obtain ⟨x5, hx5, h⟩ := bind_of h
        refine go_call (r := none) (σc := σ) (σ1 := x5) (mi := 40) (vs := [.ref 11, .int (f_Sieve_spot v6 σ), .int v5]) (k' := 46) (L' := [some (.ref 11), d1, d2, d3, d4, some (.int v5), some (.int v6)]) (S' := []) 2 (fun P9 h9 => c_PointList_addSpot_11 (d + 0) (f_Sieve_spot v6 σ) v5 σ hx5 h9) (fun n h => h) ?_
        refine go_st (k' := 30) (L' := [some (.ref 11), d1, d2, d3, d4, some (.int v5), some (.int (v6 + (1 : Int32)))]) (S' := []) (σ' := x5) 2 (fun n h => h) ?_
        exact ih _ _ _ _ v5 (v6 + (1 : Int32)) x5 h
def f_PointList_fill_11_l24 (N : Nat) : Nat → Int32 → aSt → Option aSt
  | 0, _, _ => none
  | n + 1, v5, σ => (if (σ.1 11 9) < v5 then some σ else f_PointList_fill_11_l30 N (fun (y6 : Int32) σ7 => f_PointList_fill_11_l24 N n (y6 + (1 : Int32)) σ7) N v5 (0 : Int32) σ)
set_option maxRecDepth 20000 in
set_option maxHeartbeats 4000000 in
theorem t_PointList_fill_11_l24 (d : Nat) {N : Nat} {x : aSt} {P : Option Value → aSt → Prop} (hp : P none x) : ∀ (n : Nat) (d1 d2 d3 d4 d6 : Option Value) (v5 : Int32) (σ : aSt), f_PointList_fill_11_l24 N n v5 σ = some x → aGo (aCall MT (d + 4)) P mc_PointList_fill 24 [some (.ref 11), d1, d2, d3, d4, some (.int v5), d6] [] σ := by
  intro n
  induction n with
  | zero => intro d1 d2 d3 d4 d6 v5 σ h; cases h
  | succ n ih =>
    intro d1 d2 d3 d4 d6 v5 σ h
    rw [f_PointList_fill_11_l24] at h
    refine go_if (c := (σ.1 11 9) < v5) (k1 := 50) (L1 := [some (.ref 11), d1, d2, d3, d4, some (.int v5), d6]) (S1 := []) (σ1 := σ) (k2 := 28) (L2 := [some (.ref 11), d1, d2, d3, d4, some (.int v5), d6]) (S2 := []) (σ2 := σ) 4 (fun n h => h) (fun hc2 => ?_) (fun hc2 => ?_)
    · rw [if_pos hc2] at h
      cases h
      exact go_ret 1 (fun _ => hp)
    · rw [if_neg hc2] at h
      refine go_st (k' := 30) (L' := [some (.ref 11), d1, d2, d3, d4, some (.int v5), some (.int (0 : Int32))]) (S' := []) (σ' := σ) 2 (fun n h => h) ?_
      refine t_PointList_fill_11_l30 d _ hp (fun d1 d2 d3 d4 d6 y6 σ7 h => ?_) N _ _ _ _ v5 (0 : Int32) σ h
      · refine go_st (k' := 24) (L' := [some (.ref 11), d1, d2, d3, d4, some (.int (y6 + (1 : Int32))), d6]) (S' := []) (σ' := σ7) 2 (fun n h => h) ?_
        exact ih _ _ _ _ _ (y6 + (1 : Int32)) σ7 h
def f_PointList_fill_11 (N : Nat) (p0 : Int32) (p1 : Int32) (p2 : Int32) (p3 : Int32) (σ : aSt) : Option aSt :=
  ((f_Sieve_gather N p1 p2 (s_i (s_i (s_i (s_i (s_i σ 11 6 p0) 11 7 p1) 11 8 p2) 11 9 p3) 11 5 (0 : Int32))).bind fun x1 => f_PointList_fill_11_l24 N N (1 : Int32) x1)
set_option maxRecDepth 20000 in
set_option maxHeartbeats 4000000 in
theorem c_PointList_fill_11 (d : Nat) {N : Nat} (p0 : Int32) (p1 : Int32) (p2 : Int32) (p3 : Int32) (σ : aSt) {P : Option Value → aSt → Prop} {x : aSt} (h : f_PointList_fill_11 N p0 p1 p2 p3 σ = some x) (hp : P none x) : aCall MT (d + 5) 41 [.ref 11, .int p0, .int p1, .int p2, .int p3] σ P := by
  unfold f_PointList_fill_11 at h
  refine call_of (code := mc_PointList_fill) (L := [some (.ref 11), some (.int p0), some (.int p1), some (.int p2), some (.int p3), none, none]) rfl rfl rfl rfl ?_
  obtain ⟨x1, hx1, h⟩ := bind_of h
  refine go_call (r := none) (σc := (s_i (s_i (s_i (s_i (s_i σ 11 6 p0) 11 7 p1) 11 8 p2) 11 9 p3) 11 5 (0 : Int32))) (σ1 := x1) (mi := 32) (vs := [.ref 8, .int p1, .int p2]) (k' := 22) (L' := [some (.ref 11), some (.int p0), some (.int p1), some (.int p2), some (.int p3), none, none]) (S' := []) 22 (fun P9 h9 => c_Sieve_gather (d + 1) p1 p2 (s_i (s_i (s_i (s_i (s_i σ 11 6 p0) 11 7 p1) 11 8 p2) 11 9 p3) 11 5 (0 : Int32)) hx1 h9) (fun n h => h) ?_
  refine go_st (k' := 24) (L' := [some (.ref 11), some (.int p0), some (.int p1), some (.int p2), none, some (.int (1 : Int32)), none]) (S' := []) (σ' := x1) 2 (fun n h => h) ?_
  exact t_PointList_fill_11_l24 d hp N _ _ _ _ _ (1 : Int32) x1 h
def f_Sums_renew (σ : aSt) : aSt :=
  (lt (f_fill (s_i σ 21 5 (-1 : Int32)) 23 (-1 : Int32)) fun x1 => x1)
set_option maxRecDepth 20000 in
set_option maxHeartbeats 4000000 in
theorem c_Sums_renew (d : Nat) (σ : aSt) {P : Option Value → aSt → Prop} (h : P none (f_Sums_renew σ)) : aCall MT (d + 2) 42 [.ref 21] σ P := by
  unfold f_Sums_renew at h
  refine call_of (code := mc_Sums_renew) (L := [some (.ref 21)]) rfl rfl rfl rfl ?_
  obtain ⟨x1, hx1⟩ : ∃ x1, x1 = f_fill (s_i σ 21 5 (-1 : Int32)) 23 (-1 : Int32) := ⟨_, rfl⟩
  rw [lt_eq, ← hx1] at h
  refine go_call (r := none) (σc := (s_i σ 21 5 (-1 : Int32))) (σ1 := x1) (mi := 28) (vs := [.ref 23, .int (-1 : Int32)]) (k' := 7) (L' := [some (.ref 21)]) (S' := []) 7 (fun P9 h9 => c_fill (d + 0) (s_i σ 21 5 (-1 : Int32)) 23 rfl rfl (-1 : Int32) (by rw [← hx1]; exact h9)) (fun n h => h) ?_
  exact go_ret 1 (fun _ => h)
def f_Closure_forget_26 (σ : aSt) : aSt :=
  (lt (f_fill (s_i (s_b σ 26 6 false) 26 5 (0 : Int32)) 28 (0 : Int32)) fun x1 => (lt (f_store x1 27 (0 : Int32) (1000 : Int32)) fun x2 => (s_i x2 26 4 (1 : Int32))))
set_option maxRecDepth 20000 in
set_option maxHeartbeats 4000000 in
theorem c_Closure_forget_26 (d : Nat) (σ : aSt) {P : Option Value → aSt → Prop} (h : P none (f_Closure_forget_26 σ)) : aCall MT (d + 2) 43 [.ref 26] σ P := by
  unfold f_Closure_forget_26 at h
  refine call_of (code := mc_Closure_forget) (L := [some (.ref 26)]) rfl rfl rfl rfl ?_
  refine go_q (Q := (0 : Int32) = 0 ∨ (0 : Int32) = 1) (k' := 3) (L' := [some (.ref 26)]) (S' := []) (σ' := (s_b σ 26 6 false)) 3 (Or.inl rfl) (fun n h => h) ?_
  obtain ⟨x1, hx1⟩ : ∃ x1, x1 = f_fill (s_i (s_b σ 26 6 false) 26 5 (0 : Int32)) 28 (0 : Int32) := ⟨_, rfl⟩
  rw [lt_eq, ← hx1] at h
  refine go_call (r := none) (σc := (s_i (s_b σ 26 6 false) 26 5 (0 : Int32))) (σ1 := x1) (mi := 28) (vs := [.ref 28, .int (0 : Int32)]) (k' := 10) (L' := [some (.ref 26)]) (S' := []) 7 (fun P9 h9 => c_fill (d + 0) (s_i (s_b σ 26 6 false) 26 5 (0 : Int32)) 28 rfl rfl (0 : Int32) (by rw [← hx1]; exact h9)) (fun n h => h) ?_
  obtain ⟨x2, hx2⟩ : ∃ x2, x2 = f_store x1 27 (0 : Int32) (1000 : Int32) := ⟨_, rfl⟩
  rw [lt_eq, ← hx2] at h
  refine go_call (r := none) (σc := x1) (σ1 := x2) (mi := 1) (vs := [.ref 27, .int (0 : Int32), .int (1000 : Int32)]) (k' := 15) (L' := [some (.ref 26)]) (S' := []) 5 (fun P9 h9 => c_store (d + 0) x1 27 rfl rfl (0 : Int32) (1000 : Int32) (by rw [← hx2]; exact h9)) (fun n h => h) ?_
  exact go_ret 4 (fun _ => h)
def f_PointList_shown_11 (σ : aSt) : Int32 :=
  (imin (σ.1 11 5) (120 : Int32))
set_option maxRecDepth 20000 in
set_option maxHeartbeats 4000000 in
theorem c_PointList_shown_11 (d : Nat) (σ : aSt) {P : Option Value → aSt → Prop} (h : P (some (.int ((f_PointList_shown_11 σ)))) σ) : aCall MT (d + 1) 44 [.ref 11] σ P := by
  unfold f_PointList_shown_11 at h
  refine call_of (code := mc_PointList_shown) (L := [some (.ref 11)]) rfl rfl rfl rfl ?_
  exact go_ret 5 (fun _ => h)
def f_PrimeGroup_renew (p0 : Int32) (p1 : Int32) (σ : aSt) : aSt :=
  (lt (f_fill (s_i (s_i (s_i σ 34 6 p0) 34 7 p1) 34 10 (0 : Int32)) 40 (0 : Int32)) fun x1 => x1)
set_option maxRecDepth 20000 in
set_option maxHeartbeats 4000000 in
theorem c_PrimeGroup_renew (d : Nat) (p0 : Int32) (p1 : Int32) (σ : aSt) {P : Option Value → aSt → Prop} (h : P none (f_PrimeGroup_renew p0 p1 σ)) : aCall MT (d + 2) 29 [.ref 34, .int p0, .int p1] σ P := by
  unfold f_PrimeGroup_renew at h
  refine call_of (code := mc_PrimeGroup_renew) (L := [some (.ref 34), some (.int p0), some (.int p1)]) rfl rfl rfl rfl ?_
  obtain ⟨x1, hx1⟩ : ∃ x1, x1 = f_fill (s_i (s_i (s_i σ 34 6 p0) 34 7 p1) 34 10 (0 : Int32)) 40 (0 : Int32) := ⟨_, rfl⟩
  rw [lt_eq, ← hx1] at h
  refine go_call (r := none) (σc := (s_i (s_i (s_i σ 34 6 p0) 34 7 p1) 34 10 (0 : Int32))) (σ1 := x1) (mi := 28) (vs := [.ref 40, .int (0 : Int32)]) (k' := 13) (L' := [some (.ref 34), some (.int p0), some (.int p1)]) (S' := []) 13 (fun P9 h9 => c_fill (d + 0) (s_i (s_i (s_i σ 34 6 p0) 34 7 p1) 34 10 (0 : Int32)) 40 rfl rfl (0 : Int32) (by rw [← hx1]; exact h9)) (fun n h => h) ?_
  exact go_ret 1 (fun _ => h)
def f_PointList_b_11 (σ : aSt) : Int32 :=
  (σ.1 11 7)
set_option maxRecDepth 20000 in
set_option maxHeartbeats 4000000 in
theorem c_PointList_b_11 (d : Nat) (σ : aSt) {P : Option Value → aSt → Prop} (h : P (some (.int ((f_PointList_b_11 σ)))) σ) : aCall MT (d + 1) 27 [.ref 11] σ P := by
  unfold f_PointList_b_11 at h
  refine call_of (code := mc_PointList_b) (L := [some (.ref 11)]) rfl rfl rfl rfl ?_
  exact go_ret 3 (fun _ => h)
