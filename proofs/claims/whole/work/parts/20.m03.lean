def f_ClassTable_makeProducts_49_l8 (N : Nat) : Nat → Int32 → Int32 → aSt → Option aSt
  | 0, _, _, _ => none
  | n + 1, v1, v2, σ => (if (64 : Int32) ≤ v2 then some σ else (if (f_pick σ 55 v2) = 0 then f_ClassTable_makeProducts_49_l8 N n v1 (v2 + (1 : Int32)) σ else (lt (f_store σ 55 (v2 ^^^ v1) (1 : Int32)) fun x4 => f_ClassTable_makeProducts_49_l8 N n v1 (v2 + (1 : Int32)) x4)))
set_option maxRecDepth 20000 in
set_option maxHeartbeats 4000000 in
theorem t_ClassTable_makeProducts_49_l8 (d : Nat) {N : Nat} {x : aSt} {P : Option Value → aSt → Prop} (hp : P none x) : ∀ (n : Nat) (v1 : Int32) (v2 : Int32) (σ : aSt), f_ClassTable_makeProducts_49_l8 N n v1 v2 σ = some x → aGo (aCall MT (d + 1)) P mc_ClassTable_makeProducts 8 [some (.ref 49), some (.int v1), some (.int v2)] [] σ := by
  intro n
  induction n with
  | zero => intro v1 v2 σ h; cases h
  | succ n ih =>
    intro v1 v2 σ h
    rw [f_ClassTable_makeProducts_49_l8] at h
    refine go_if (c := (64 : Int32) ≤ v2) (k1 := 25) (L1 := [some (.ref 49), some (.int v1), some (.int v2)]) (S1 := []) (σ1 := σ) (k2 := 11) (L2 := [some (.ref 49), some (.int v1), some (.int v2)]) (S2 := []) (σ2 := σ) 3 (fun n h => h) (fun hc2 => ?_) (fun hc2 => ?_)
    · rw [if_pos hc2] at h
      cases h
      exact go_ret 1 (fun _ => hp)
    · rw [if_neg hc2] at h
      refine go_call (r := some (.int (f_pick σ 55 v2))) (σc := σ) (σ1 := σ) (mi := 9) (vs := [.ref 55, .int v2]) (k' := 15) (L' := [some (.ref 49), some (.int v1), some (.int v2)]) (S' := []) 4 (fun P9 h9 => c_pick (d + 0) σ 55 rfl v2 h9) (fun n h => h) ?_
      refine go_if (c := (f_pick σ 55 v2) = 0) (k1 := 23) (L1 := [some (.ref 49), some (.int v1), some (.int v2)]) (S1 := []) (σ1 := σ) (k2 := 16) (L2 := [some (.ref 49), some (.int v1), some (.int v2)]) (S2 := []) (σ2 := σ) 1 (fun n h => h) (fun hc3 => ?_) (fun hc3 => ?_)
      · rw [if_pos hc3] at h
        refine go_st (k' := 8) (L' := [some (.ref 49), some (.int v1), some (.int (v2 + (1 : Int32)))]) (S' := []) (σ' := σ) 2 (fun n h => h) ?_
        exact ih v1 (v2 + (1 : Int32)) σ h
      · rw [if_neg hc3] at h
        obtain ⟨x4, hx4, h⟩ := lt_of h
        refine go_call (r := none) (σc := σ) (σ1 := x4) (mi := 1) (vs := [.ref 55, .int (v2 ^^^ v1), .int (1 : Int32)]) (k' := 23) (L' := [some (.ref 49), some (.int v1), some (.int v2)]) (S' := []) 7 (fun P9 h9 => c_store (d + 0) σ 55 rfl rfl (v2 ^^^ v1) (1 : Int32) (by rw [← hx4]; exact h9)) (fun n h => h) ?_
        refine go_st (k' := 8) (L' := [some (.ref 49), some (.int v1), some (.int (v2 + (1 : Int32)))]) (S' := []) (σ' := x4) 2 (fun n h => h) ?_
        exact ih v1 (v2 + (1 : Int32)) x4 h
def f_ClassTable_makeProducts_49 (N : Nat) (p0 : Int32) (σ : aSt) : Option aSt :=
  (if (f_pick σ 55 p0) = 0 then f_ClassTable_makeProducts_49_l8 N N p0 (0 : Int32) σ else some σ)
set_option maxRecDepth 20000 in
set_option maxHeartbeats 4000000 in
theorem c_ClassTable_makeProducts_49 (d : Nat) {N : Nat} (p0 : Int32) (σ : aSt) {P : Option Value → aSt → Prop} {x : aSt} (h : f_ClassTable_makeProducts_49 N p0 σ = some x) (hp : P none x) : aCall MT (d + 2) 176 [.ref 49, .int p0] σ P := by
  unfold f_ClassTable_makeProducts_49 at h
  refine call_of (code := mc_ClassTable_makeProducts) (L := [some (.ref 49), some (.int p0), none]) rfl rfl rfl rfl ?_
  refine go_call (r := some (.int (f_pick σ 55 p0))) (σc := σ) (σ1 := σ) (mi := 9) (vs := [.ref 55, .int p0]) (k' := 4) (L' := [some (.ref 49), some (.int p0), none]) (S' := []) 4 (fun P9 h9 => c_pick (d + 0) σ 55 rfl p0 h9) (fun n h => h) ?_
  refine go_if (c := (f_pick σ 55 p0) = 0) (k1 := 6) (L1 := [some (.ref 49), some (.int p0), none]) (S1 := []) (σ1 := σ) (k2 := 5) (L2 := [some (.ref 49), some (.int p0), none]) (S2 := []) (σ2 := σ) 1 (fun n h => h) (fun hc1 => ?_) (fun hc1 => ?_)
  · rw [if_pos hc1] at h
    refine go_st (k' := 8) (L' := [some (.ref 49), some (.int p0), some (.int (0 : Int32))]) (S' := []) (σ' := σ) 2 (fun n h => h) ?_
    exact t_ClassTable_makeProducts_49_l8 d hp N p0 (0 : Int32) σ h
  · rw [if_neg hc1] at h
    cases h
    exact go_ret 1 (fun _ => hp)
def f_ClassTable_judge_49_b16 (N : Nat) (v1 : Int32) (v2 : Int32) (v3 : Bool) (s1 : Int32) (s2 : Int32) (σ : aSt) : Option aSt :=
  (lt (f_store σ 52 s1 s2) fun x3 => (lt (f_store x3 53 v1 (-1 : Int32)) fun x4 => (if v3 = true then (lt (f_store x4 56 (2 : Int32) ((f_ClassTable_tally_49 (2 : Int32) x4) + (1 : Int32))) fun x6 => ((f_ClassTable_search_49 N v1 v2 x6).bind fun x7 => (if (f_ClassTable_isFound_49 v1 x7) = true then (lt (f_store x7 56 (1 : Int32) ((f_ClassTable_tally_49 (1 : Int32) x7) + (1 : Int32))) fun x9 => ((f_ClassTable_makeProducts_49 N (f_ClassTable_mask_49 v1 x9) x9).bind fun x10 => some x10)) else some x7))) else some x4)))
set_option maxRecDepth 20000 in
set_option maxHeartbeats 4000000 in
theorem t_ClassTable_judge_49_b16 (d : Nat) {N : Nat} (v1 : Int32) (v2 : Int32) (v3 : Bool) (s1 : Int32) (s2 : Int32) (σ : aSt) {P : Option Value → aSt → Prop} {x : aSt} (h : f_ClassTable_judge_49_b16 N v1 v2 v3 s1 s2 σ = some x) (hp : P none x) : aGo (aCall MT (d + 4)) P mc_ClassTable_judge 16 [some (.ref 49), some (.int v1), some (.int v2), some (.int (b2i v3))] [.int s2, .int s1, .ref 52] σ := by
  unfold f_ClassTable_judge_49_b16 at h
  obtain ⟨x3, hx3, h⟩ := lt_of h
  refine go_call (r := none) (σc := σ) (σ1 := x3) (mi := 1) (vs := [.ref 52, .int s1, .int s2]) (k' := 17) (L' := [some (.ref 49), some (.int v1), some (.int v2), some (.int (b2i v3))]) (S' := []) 1 (fun P9 h9 => c_store (d + 3) σ 52 rfl rfl s1 s2 (by rw [← hx3]; exact h9)) (fun n h => h) ?_
  obtain ⟨x4, hx4, h⟩ := lt_of h
  refine go_call (r := none) (σc := x3) (σ1 := x4) (mi := 1) (vs := [.ref 53, .int v1, .int (-1 : Int32)]) (k' := 22) (L' := [some (.ref 49), some (.int v1), some (.int v2), some (.int (b2i v3))]) (S' := []) 5 (fun P9 h9 => c_store (d + 3) x3 53 rfl rfl v1 (-1 : Int32) (by rw [← hx4]; exact h9)) (fun n h => h) ?_
  refine go_ifn (b := v3) (k1 := 25) (L1 := [some (.ref 49), some (.int v1), some (.int v2), some (.int (b2i v3))]) (S1 := []) (σ1 := x4) (k2 := 24) (L2 := [some (.ref 49), some (.int v1), some (.int v2), some (.int (b2i v3))]) (S2 := []) (σ2 := x4) 2 (fun n h => h) (fun hc5 => ?_) (fun hc5 => ?_)
  · rw [if_pos hc5] at h
    refine go_call (r := some (.int (f_ClassTable_tally_49 (2 : Int32) x4))) (σc := x4) (σ1 := x4) (mi := 172) (vs := [.ref 49, .int (2 : Int32)]) (k' := 31) (L' := [some (.ref 49), some (.int v1), some (.int v2), some (.int (b2i v3))]) (S' := [.int (2 : Int32), .ref 56]) 6 (fun P9 h9 => c_ClassTable_tally_49 (d + 2) (2 : Int32) x4 h9) (fun n h => h) ?_
    obtain ⟨x6, hx6, h⟩ := lt_of h
    refine go_call (r := none) (σc := x4) (σ1 := x6) (mi := 1) (vs := [.ref 56, .int (2 : Int32), .int ((f_ClassTable_tally_49 (2 : Int32) x4) + (1 : Int32))]) (k' := 34) (L' := [some (.ref 49), some (.int v1), some (.int v2), some (.int (b2i v3))]) (S' := []) 3 (fun P9 h9 => c_store (d + 3) x4 56 rfl rfl (2 : Int32) ((f_ClassTable_tally_49 (2 : Int32) x4) + (1 : Int32)) (by rw [← hx6]; exact h9)) (fun n h => h) ?_
    obtain ⟨x7, hx7, h⟩ := bind_of h
    refine go_call (r := none) (σc := x6) (σ1 := x7) (mi := 173) (vs := [.ref 49, .int v1, .int v2]) (k' := 38) (L' := [some (.ref 49), some (.int v1), some (.int v2), some (.int (b2i v3))]) (S' := []) 4 (fun P9 h9 => c_ClassTable_search_49 (d + 0) v1 v2 x6 hx7 h9) (fun n h => h) ?_
    refine go_call (r := some (.int (b2i (f_ClassTable_isFound_49 v1 x7)))) (σc := x7) (σ1 := x7) (mi := 174) (vs := [.ref 49, .int v1]) (k' := 41) (L' := [some (.ref 49), some (.int v1), some (.int v2), some (.int (b2i v3))]) (S' := []) 3 (fun P9 h9 => c_ClassTable_isFound_49 (d + 2) v1 x7 h9) (fun n h => h) ?_
    refine go_ifn (b := (f_ClassTable_isFound_49 v1 x7)) (k1 := 43) (L1 := [some (.ref 49), some (.int v1), some (.int v2), some (.int (b2i v3))]) (S1 := []) (σ1 := x7) (k2 := 42) (L2 := [some (.ref 49), some (.int v1), some (.int v2), some (.int (b2i v3))]) (S2 := []) (σ2 := x7) 1 (fun n h => h) (fun hc8 => ?_) (fun hc8 => ?_)
    · rw [if_pos hc8] at h
      refine go_call (r := some (.int (f_ClassTable_tally_49 (1 : Int32) x7))) (σc := x7) (σ1 := x7) (mi := 172) (vs := [.ref 49, .int (1 : Int32)]) (k' := 49) (L' := [some (.ref 49), some (.int v1), some (.int v2), some (.int (b2i v3))]) (S' := [.int (1 : Int32), .ref 56]) 6 (fun P9 h9 => c_ClassTable_tally_49 (d + 2) (1 : Int32) x7 h9) (fun n h => h) ?_
      obtain ⟨x9, hx9, h⟩ := lt_of h
      refine go_call (r := none) (σc := x7) (σ1 := x9) (mi := 1) (vs := [.ref 56, .int (1 : Int32), .int ((f_ClassTable_tally_49 (1 : Int32) x7) + (1 : Int32))]) (k' := 52) (L' := [some (.ref 49), some (.int v1), some (.int v2), some (.int (b2i v3))]) (S' := []) 3 (fun P9 h9 => c_store (d + 3) x7 56 rfl rfl (1 : Int32) ((f_ClassTable_tally_49 (1 : Int32) x7) + (1 : Int32)) (by rw [← hx9]; exact h9)) (fun n h => h) ?_
      refine go_call (r := some (.int (f_ClassTable_mask_49 v1 x9))) (σc := x9) (σ1 := x9) (mi := 175) (vs := [.ref 49, .int v1]) (k' := 56) (L' := [some (.ref 49), some (.int v1), some (.int v2), some (.int (b2i v3))]) (S' := [.ref 49]) 4 (fun P9 h9 => c_ClassTable_mask_49 (d + 2) v1 x9 h9) (fun n h => h) ?_
      obtain ⟨x10, hx10, h⟩ := bind_of h
      refine go_call (r := none) (σc := x9) (σ1 := x10) (mi := 176) (vs := [.ref 49, .int (f_ClassTable_mask_49 v1 x9)]) (k' := 57) (L' := [some (.ref 49), some (.int v1), some (.int v2), some (.int (b2i v3))]) (S' := []) 1 (fun P9 h9 => c_ClassTable_makeProducts_49 (d + 2) (f_ClassTable_mask_49 v1 x9) x9 hx10 h9) (fun n h => h) ?_
      cases h
      exact go_ret 1 (fun _ => hp)
    · rw [if_neg hc8] at h
      cases h
      exact go_ret 1 (fun _ => hp)
  · rw [if_neg hc5] at h
    cases h
    exact go_ret 1 (fun _ => hp)
def f_ClassTable_judge_49 (N : Nat) (p0 : Int32) (σ : aSt) : Option aSt :=
  ((f_ClassTable_mayBe_49 N (f_ClassTable_divisor_49 p0 σ) σ).bind fun x1 => (if x1 = true then f_ClassTable_judge_49_b16 N p0 (f_ClassTable_divisor_49 p0 σ) x1 p0 (1 : Int32) σ else f_ClassTable_judge_49_b16 N p0 (f_ClassTable_divisor_49 p0 σ) x1 p0 (0 : Int32) σ))
set_option maxRecDepth 20000 in
set_option maxHeartbeats 4000000 in
theorem c_ClassTable_judge_49 (d : Nat) {N : Nat} (p0 : Int32) (σ : aSt) {P : Option Value → aSt → Prop} {x : aSt} (h : f_ClassTable_judge_49 N p0 σ = some x) (hp : P none x) : aCall MT (d + 5) 177 [.ref 49, .int p0] σ P := by
  unfold f_ClassTable_judge_49 at h
  refine call_of (code := mc_ClassTable_judge) (L := [some (.ref 49), some (.int p0), none, none]) rfl rfl rfl rfl ?_
  refine go_call (r := some (.int (f_ClassTable_divisor_49 p0 σ))) (σc := σ) (σ1 := σ) (mi := 168) (vs := [.ref 49, .int p0]) (k' := 3) (L' := [some (.ref 49), some (.int p0), none, none]) (S' := []) 3 (fun P9 h9 => c_ClassTable_divisor_49 (d + 2) p0 σ h9) (fun n h => h) ?_
  obtain ⟨x1, hx1, h⟩ := bind_of h
  refine go_call (r := some (.int (b2i x1))) (σc := σ) (σ1 := σ) (mi := 171) (vs := [.ref 49, .int (f_ClassTable_divisor_49 p0 σ)]) (k' := 7) (L' := [some (.ref 49), some (.int p0), some (.int (f_ClassTable_divisor_49 p0 σ)), none]) (S' := []) 4 (fun P9 h9 => c_ClassTable_mayBe_49 (d + 1) (f_ClassTable_divisor_49 p0 σ) σ hx1 h9) (fun n h => h) ?_
  refine go_ifz (b := x1) (k1 := 15) (L1 := [some (.ref 49), some (.int p0), some (.int (f_ClassTable_divisor_49 p0 σ)), some (.int (b2i x1))]) (S1 := [.int p0, .ref 52]) (σ1 := σ) (k2 := 13) (L2 := [some (.ref 49), some (.int p0), some (.int (f_ClassTable_divisor_49 p0 σ)), some (.int (b2i x1))]) (S2 := [.int p0, .ref 52]) (σ2 := σ) 6 (fun n h => h) (fun hc2 => ?_) (fun hc2 => ?_)
  · rw [if_neg hc2] at h
    refine go_st (k' := 16) (L' := [some (.ref 49), some (.int p0), some (.int (f_ClassTable_divisor_49 p0 σ)), some (.int (b2i x1))]) (S' := [.int (0 : Int32), .int p0, .ref 52]) (σ' := σ) 1 (fun n h => h) ?_
    exact t_ClassTable_judge_49_b16 d p0 (f_ClassTable_divisor_49 p0 σ) x1 p0 (0 : Int32) σ h hp
  · rw [if_pos hc2] at h
    refine go_st (k' := 16) (L' := [some (.ref 49), some (.int p0), some (.int (f_ClassTable_divisor_49 p0 σ)), some (.int (b2i x1))]) (S' := [.int (1 : Int32), .int p0, .ref 52]) (σ' := σ) 2 (fun n h => h) ?_
    exact t_ClassTable_judge_49_b16 d p0 (f_ClassTable_divisor_49 p0 σ) x1 p0 (1 : Int32) σ h hp
def f_ClassTable_prepare_49_l51 (N : Nat) : Nat → Int32 → Int32 → Int32 → aSt → Option aSt
  | 0, _, _, _, _ => none
  | n + 1, v3, v5, v6, σ => (if v5 ≤ v6 then (lt (f_store σ 56 (0 : Int32) (f_ClassTable_size_49 σ)) fun x8 => (lt (f_store x8 56 (3 : Int32) v3) fun x9 => some x9)) else (if 0 ≤ v6 ∧ v6 < (64 : Int32) then f_ClassTable_prepare_49_l51 N n (v3 + (σ.1 55 v6.toNatClampNeg)) v5 (v6 + (1 : Int32)) σ else none))
set_option maxRecDepth 20000 in
set_option maxHeartbeats 4000000 in
theorem t_ClassTable_prepare_49_l51 (d : Nat) {N : Nat} {x : aSt} {P : Option Value → aSt → Prop} (hp : P none x) : ∀ (n : Nat) (d1 d2 d7 : Option Value) (v3 : Int32) (v5 : Int32) (v6 : Int32) (σ : aSt), f_ClassTable_prepare_49_l51 N n v3 v5 v6 σ = some x → aGo (aCall MT (d + 5)) P mc_ClassTable_prepare 51 [some (.ref 49), d1, d2, some (.int v3), some (.ref 55), some (.int v5), some (.int v6), d7] [] σ := by
  intro n
  induction n with
  | zero => intro d1 d2 d7 v3 v5 v6 σ h; cases h
  | succ n ih =>
    intro d1 d2 d7 v3 v5 v6 σ h
    rw [f_ClassTable_prepare_49_l51] at h
    refine go_if (c := v5 ≤ v6) (k1 := 64) (L1 := [some (.ref 49), d1, d2, some (.int v3), some (.ref 55), some (.int v5), some (.int v6), d7]) (S1 := []) (σ1 := σ) (k2 := 54) (L2 := [some (.ref 49), d1, d2, some (.int v3), some (.ref 55), some (.int v5), some (.int v6), d7]) (S2 := []) (σ2 := σ) 3 (fun n h => h) (fun hc7 => ?_) (fun hc7 => ?_)
    · rw [if_pos hc7] at h
      refine go_call (r := some (.int (f_ClassTable_size_49 σ))) (σc := σ) (σ1 := σ) (mi := 167) (vs := [.ref 49]) (k' := 69) (L' := [some (.ref 49), d1, d2, some (.int v3), some (.ref 55), some (.int v5), some (.int v6), d7]) (S' := [.int (0 : Int32), .ref 56]) 5 (fun P9 h9 => c_ClassTable_size_49 (d + 4) σ h9) (fun n h => h) ?_
      obtain ⟨x8, hx8, h⟩ := lt_of h
      refine go_call (r := none) (σc := σ) (σ1 := x8) (mi := 1) (vs := [.ref 56, .int (0 : Int32), .int (f_ClassTable_size_49 σ)]) (k' := 70) (L' := [some (.ref 49), d1, d2, some (.int v3), some (.ref 55), some (.int v5), some (.int v6), d7]) (S' := []) 1 (fun P9 h9 => c_store (d + 4) σ 56 rfl rfl (0 : Int32) (f_ClassTable_size_49 σ) (by rw [← hx8]; exact h9)) (fun n h => h) ?_
      obtain ⟨x9, hx9, h⟩ := lt_of h
      refine go_call (r := none) (σc := x8) (σ1 := x9) (mi := 1) (vs := [.ref 56, .int (3 : Int32), .int v3]) (k' := 75) (L' := [some (.ref 49), d1, d2, some (.int v3), some (.ref 55), some (.int v5), some (.int v6), d7]) (S' := []) 5 (fun P9 h9 => c_store (d + 4) x8 56 rfl rfl (3 : Int32) v3 (by rw [← hx9]; exact h9)) (fun n h => h) ?_
      cases h
      exact go_ret 1 (fun _ => hp)
    · rw [if_neg hc7] at h
      obtain ⟨hc10, h⟩ := ite_of h
      refine go_q (Q := inb 0 σ 55 v6) (k' := 57) (L' := [some (.ref 49), d1, d2, some (.int v3), some (.ref 55), some (.int v5), some (.int v6), d7]) (S' := [.int (σ.1 55 v6.toNatClampNeg)]) (σ' := σ) 3 (inb_mk rfl hc10.1 hc10.2) (fun n h => h) ?_
      refine go_st (k' := 51) (L' := [some (.ref 49), d1, none, some (.int (v3 + (σ.1 55 v6.toNatClampNeg))), some (.ref 55), some (.int v5), some (.int (v6 + (1 : Int32))), some (.int (σ.1 55 v6.toNatClampNeg))]) (S' := []) (σ' := σ) 7 (fun n h => h) ?_
      exact ih _ _ _ (v3 + (σ.1 55 v6.toNatClampNeg)) v5 (v6 + (1 : Int32)) σ h
def f_ClassTable_prepare_49_l32 (N : Nat) : Nat → Int32 → aSt → Option aSt
  | 0, _, _ => none
  | n + 1, v3, σ => (if (f_ClassTable_size_49 σ) ≤ v3 then f_ClassTable_prepare_49_l51 N N (0 : Int32) (64 : Int32) (0 : Int32) σ else ((f_ClassTable_judge_49 N v3 σ).bind fun x11 => f_ClassTable_prepare_49_l32 N n (v3 + (1 : Int32)) x11))
set_option maxRecDepth 20000 in
set_option maxHeartbeats 4000000 in
theorem t_ClassTable_prepare_49_l32 (d : Nat) {N : Nat} {x : aSt} {P : Option Value → aSt → Prop} (hp : P none x) : ∀ (n : Nat) (d1 d2 d4 d5 d6 d7 : Option Value) (v3 : Int32) (σ : aSt), f_ClassTable_prepare_49_l32 N n v3 σ = some x → aGo (aCall MT (d + 5)) P mc_ClassTable_prepare 32 [some (.ref 49), d1, d2, some (.int v3), d4, d5, d6, d7] [] σ := by
  intro n
  induction n with
  | zero => intro d1 d2 d4 d5 d6 d7 v3 σ h; cases h
  | succ n ih =>
    intro d1 d2 d4 d5 d6 d7 v3 σ h
    rw [f_ClassTable_prepare_49_l32] at h
    refine go_call (r := some (.int (f_ClassTable_size_49 σ))) (σc := σ) (σ1 := σ) (mi := 167) (vs := [.ref 49]) (k' := 35) (L' := [some (.ref 49), d1, d2, some (.int v3), d4, d5, d6, d7]) (S' := [.int v3]) 3 (fun P9 h9 => c_ClassTable_size_49 (d + 4) σ h9) (fun n h => h) ?_
    refine go_if (c := (f_ClassTable_size_49 σ) ≤ v3) (k1 := 41) (L1 := [some (.ref 49), d1, d2, some (.int v3), d4, d5, d6, d7]) (S1 := []) (σ1 := σ) (k2 := 36) (L2 := [some (.ref 49), d1, d2, some (.int v3), d4, d5, d6, d7]) (S2 := []) (σ2 := σ) 1 (fun n h => h) (fun hc6 => ?_) (fun hc6 => ?_)
    · rw [if_pos hc6] at h
      refine go_st (k' := 51) (L' := [some (.ref 49), d1, none, some (.int (0 : Int32)), some (.ref 55), some (.int (64 : Int32)), some (.int (0 : Int32)), d7]) (S' := []) (σ' := σ) 10 (fun n h => h) ?_
      exact t_ClassTable_prepare_49_l51 d hp N _ _ _ (0 : Int32) (64 : Int32) (0 : Int32) σ h
    · rw [if_neg hc6] at h
      obtain ⟨x11, hx11, h⟩ := bind_of h
      refine go_call (r := none) (σc := σ) (σ1 := x11) (mi := 177) (vs := [.ref 49, .int v3]) (k' := 39) (L' := [some (.ref 49), d1, d2, some (.int v3), d4, d5, d6, d7]) (S' := []) 3 (fun P9 h9 => c_ClassTable_judge_49 (d + 0) v3 σ hx11 h9) (fun n h => h) ?_
      refine go_st (k' := 32) (L' := [some (.ref 49), d1, d2, some (.int (v3 + (1 : Int32))), d4, d5, d6, d7]) (S' := []) (σ' := x11) 2 (fun n h => h) ?_
      exact ih _ _ _ _ _ _ (v3 + (1 : Int32)) x11 h
def f_ClassTable_prepare_49_b9 (N : Nat) (v1 : Int32) (v2 : Int32) (σ : aSt) : Option aSt :=
  ((f_ClassTable_gatherDivisors_49 N (s_i (s_i σ 49 8 v1) 49 9 v2)).bind fun x2 => (lt (f_fill x2 56 (0 : Int32)) fun x3 => (lt (f_fill x3 55 (0 : Int32)) fun x4 => (lt (f_store x4 55 (0 : Int32) (1 : Int32)) fun x5 => f_ClassTable_prepare_49_l32 N N (0 : Int32) x5))))
set_option maxRecDepth 20000 in
set_option maxHeartbeats 4000000 in
theorem t_ClassTable_prepare_49_b9 (d : Nat) {N : Nat} (d3 d4 d5 d6 d7 : Option Value) (v1 : Int32) (v2 : Int32) (σ : aSt) {P : Option Value → aSt → Prop} {x : aSt} (h : f_ClassTable_prepare_49_b9 N v1 v2 σ = some x) (hp : P none x) : aGo (aCall MT (d + 5)) P mc_ClassTable_prepare 9 [some (.ref 49), some (.int v1), some (.int v2), d3, d4, d5, d6, d7] [] σ := by
  unfold f_ClassTable_prepare_49_b9 at h
  obtain ⟨x2, hx2, h⟩ := bind_of h
  refine go_call (r := none) (σc := (s_i (s_i σ 49 8 v1) 49 9 v2)) (σ1 := x2) (mi := 166) (vs := [.ref 49]) (k' := 17) (L' := [some (.ref 49), some (.int v1), some (.int v2), d3, d4, d5, d6, d7]) (S' := []) 8 (fun P9 h9 => c_ClassTable_gatherDivisors_49 (d + 1) (s_i (s_i σ 49 8 v1) 49 9 v2) hx2 h9) (fun n h => h) ?_
  obtain ⟨x3, hx3, h⟩ := lt_of h
  refine go_call (r := none) (σc := x2) (σ1 := x3) (mi := 28) (vs := [.ref 56, .int (0 : Int32)]) (k' := 21) (L' := [some (.ref 49), some (.int v1), some (.int v2), d3, d4, d5, d6, d7]) (S' := []) 4 (fun P9 h9 => c_fill (d + 4) x2 56 rfl rfl (0 : Int32) (by rw [← hx3]; exact h9)) (fun n h => h) ?_
  obtain ⟨x4, hx4, h⟩ := lt_of h
  refine go_call (r := none) (σc := x3) (σ1 := x4) (mi := 28) (vs := [.ref 55, .int (0 : Int32)]) (k' := 25) (L' := [some (.ref 49), some (.int v1), some (.int v2), d3, d4, d5, d6, d7]) (S' := []) 4 (fun P9 h9 => c_fill (d + 4) x3 55 rfl rfl (0 : Int32) (by rw [← hx4]; exact h9)) (fun n h => h) ?_
  obtain ⟨x5, hx5, h⟩ := lt_of h
  refine go_call (r := none) (σc := x4) (σ1 := x5) (mi := 1) (vs := [.ref 55, .int (0 : Int32), .int (1 : Int32)]) (k' := 30) (L' := [some (.ref 49), some (.int v1), some (.int v2), d3, d4, d5, d6, d7]) (S' := []) 5 (fun P9 h9 => c_store (d + 4) x4 55 rfl rfl (0 : Int32) (1 : Int32) (by rw [← hx5]; exact h9)) (fun n h => h) ?_
  refine go_st (k' := 32) (L' := [some (.ref 49), some (.int v1), none, some (.int (0 : Int32)), d4, d5, d6, d7]) (S' := []) (σ' := x5) 2 (fun n h => h) ?_
  exact t_ClassTable_prepare_49_l32 d hp N _ _ _ _ _ _ (0 : Int32) x5 h
def f_ClassTable_prepare_49 (N : Nat) (p0 : Int32) (p1 : Int32) (σ : aSt) : Option aSt :=
  (if p0 ≠ (σ.1 49 8) then f_ClassTable_prepare_49_b9 N p0 p1 σ else (if p1 ≠ (σ.1 49 9) then f_ClassTable_prepare_49_b9 N p0 p1 σ else some σ))
set_option maxRecDepth 20000 in
set_option maxHeartbeats 4000000 in
theorem c_ClassTable_prepare_49 (d : Nat) {N : Nat} (p0 : Int32) (p1 : Int32) (σ : aSt) {P : Option Value → aSt → Prop} {x : aSt} (h : f_ClassTable_prepare_49 N p0 p1 σ = some x) (hp : P none x) : aCall MT (d + 6) 178 [.ref 49, .int p0, .int p1] σ P := by
  unfold f_ClassTable_prepare_49 at h
  refine call_of (code := mc_ClassTable_prepare) (L := [some (.ref 49), some (.int p0), some (.int p1), none, none, none, none, none]) rfl rfl rfl rfl ?_
  refine go_if (c := p0 ≠ (σ.1 49 8)) (k1 := 9) (L1 := [some (.ref 49), some (.int p0), some (.int p1), none, none, none, none, none]) (S1 := []) (σ1 := σ) (k2 := 4) (L2 := [some (.ref 49), some (.int p0), some (.int p1), none, none, none, none, none]) (S2 := []) (σ2 := σ) 4 (fun n h => h) (fun hc1 => ?_) (fun hc1 => ?_)
  · rw [if_pos hc1] at h
    exact t_ClassTable_prepare_49_b9 d _ _ _ _ _ p0 p1 σ h hp
  · rw [if_neg hc1] at h
    refine go_if (c := p1 ≠ (σ.1 49 9)) (k1 := 9) (L1 := [some (.ref 49), some (.int p0), some (.int p1), none, none, none, none, none]) (S1 := []) (σ1 := σ) (k2 := 8) (L2 := [some (.ref 49), some (.int p0), some (.int p1), none, none, none, none, none]) (S2 := []) (σ2 := σ) 4 (fun n h => h) (fun hc12 => ?_) (fun hc12 => ?_)
    · rw [if_pos hc12] at h
      exact t_ClassTable_prepare_49_b9 d _ _ _ _ _ p0 p1 σ h hp
    · rw [if_neg hc12] at h
      cases h
      exact go_ret 1 (fun _ => hp)
def f_ClassTable_sortDivisors_41_l18 (N : Nat) (k50 : Int32 → Int32 → Int32 → Int32 → aSt → Option aSt) : Nat → Int32 → Int32 → Int32 → Int32 → aSt → Option aSt
  | 0, _, _, _, _, _ => none
  | n + 1, v1, v2, v3, v4, σ => (if v4 ≤ 0 then k50 v1 v2 v3 v4 σ else (if (f_pick σ 42 (v4 - (1 : Int32))) ≤ v2 then k50 v1 v2 v3 v4 σ else (lt (f_store σ 42 v4 (f_pick σ 42 (v4 - (1 : Int32)))) fun x4 => (lt (f_store x4 43 v4 (f_pick x4 43 (v4 - (1 : Int32)))) fun x5 => f_ClassTable_sortDivisors_41_l18 N k50 n v1 v2 v3 (v4 + (-1 : Int32)) x5))))
set_option maxRecDepth 20000 in
set_option maxHeartbeats 4000000 in
theorem t_ClassTable_sortDivisors_41_l18 (d : Nat) {N : Nat} (k50 : Int32 → Int32 → Int32 → Int32 → aSt → Option aSt) {x : aSt} {P : Option Value → aSt → Prop} (hp : P none x) (hk50 : ∀ (v1 : Int32) (v2 : Int32) (v3 : Int32) (v4 : Int32) (σ : aSt), k50 v1 v2 v3 v4 σ = some x → aGo (aCall MT (d + 1)) P mc_ClassTable_sortDivisors 50 [some (.ref 41), some (.int v1), some (.int v2), some (.int v3), some (.int v4)] [] σ) : ∀ (n : Nat) (v1 : Int32) (v2 : Int32) (v3 : Int32) (v4 : Int32) (σ : aSt), f_ClassTable_sortDivisors_41_l18 N k50 n v1 v2 v3 v4 σ = some x → aGo (aCall MT (d + 1)) P mc_ClassTable_sortDivisors 18 [some (.ref 41), some (.int v1), some (.int v2), some (.int v3), some (.int v4)] [] σ := by
  intro n
  induction n with
  | zero => intro v1 v2 v3 v4 σ h; cases h
  | succ n ih =>
    intro v1 v2 v3 v4 σ h
    rw [f_ClassTable_sortDivisors_41_l18] at h
    refine go_if (c := v4 ≤ 0) (k1 := 50) (L1 := [some (.ref 41), some (.int v1), some (.int v2), some (.int v3), some (.int v4)]) (S1 := []) (σ1 := σ) (k2 := 20) (L2 := [some (.ref 41), some (.int v1), some (.int v2), some (.int v3), some (.int v4)]) (S2 := []) (σ2 := σ) 2 (fun n h => h) (fun hc2 => ?_) (fun hc2 => ?_)
    · rw [if_pos hc2] at h
      exact hk50 v1 v2 v3 v4 σ h
    · rw [if_neg hc2] at h
      refine go_call (r := some (.int (f_pick σ 42 (v4 - (1 : Int32))))) (σc := σ) (σ1 := σ) (mi := 9) (vs := [.ref 42, .int (v4 - (1 : Int32))]) (k' := 26) (L' := [some (.ref 41), some (.int v1), some (.int v2), some (.int v3), some (.int v4)]) (S' := []) 6 (fun P9 h9 => c_pick (d + 0) σ 42 rfl (v4 - (1 : Int32)) h9) (fun n h => h) ?_
      refine go_if (c := (f_pick σ 42 (v4 - (1 : Int32))) ≤ v2) (k1 := 50) (L1 := [some (.ref 41), some (.int v1), some (.int v2), some (.int v3), some (.int v4)]) (S1 := []) (σ1 := σ) (k2 := 28) (L2 := [some (.ref 41), some (.int v1), some (.int v2), some (.int v3), some (.int v4)]) (S2 := []) (σ2 := σ) 2 (fun n h => h) (fun hc3 => ?_) (fun hc3 => ?_)
      · rw [if_pos hc3] at h
        exact hk50 v1 v2 v3 v4 σ h
      · rw [if_neg hc3] at h
        refine go_call (r := some (.int (f_pick σ 42 (v4 - (1 : Int32))))) (σc := σ) (σ1 := σ) (mi := 9) (vs := [.ref 42, .int (v4 - (1 : Int32))]) (k' := 37) (L' := [some (.ref 41), some (.int v1), some (.int v2), some (.int v3), some (.int v4)]) (S' := [.int v4, .ref 42]) 9 (fun P9 h9 => c_pick (d + 0) σ 42 rfl (v4 - (1 : Int32)) h9) (fun n h => h) ?_
        obtain ⟨x4, hx4, h⟩ := lt_of h
        refine go_call (r := none) (σc := σ) (σ1 := x4) (mi := 1) (vs := [.ref 42, .int v4, .int (f_pick σ 42 (v4 - (1 : Int32)))]) (k' := 38) (L' := [some (.ref 41), some (.int v1), some (.int v2), some (.int v3), some (.int v4)]) (S' := []) 1 (fun P9 h9 => c_store (d + 0) σ 42 rfl rfl v4 (f_pick σ 42 (v4 - (1 : Int32))) (by rw [← hx4]; exact h9)) (fun n h => h) ?_
        refine go_call (r := some (.int (f_pick x4 43 (v4 - (1 : Int32))))) (σc := x4) (σ1 := x4) (mi := 9) (vs := [.ref 43, .int (v4 - (1 : Int32))]) (k' := 47) (L' := [some (.ref 41), some (.int v1), some (.int v2), some (.int v3), some (.int v4)]) (S' := [.int v4, .ref 43]) 9 (fun P9 h9 => c_pick (d + 0) x4 43 rfl (v4 - (1 : Int32)) h9) (fun n h => h) ?_
        obtain ⟨x5, hx5, h⟩ := lt_of h
        refine go_call (r := none) (σc := x4) (σ1 := x5) (mi := 1) (vs := [.ref 43, .int v4, .int (f_pick x4 43 (v4 - (1 : Int32)))]) (k' := 48) (L' := [some (.ref 41), some (.int v1), some (.int v2), some (.int v3), some (.int v4)]) (S' := []) 1 (fun P9 h9 => c_store (d + 0) x4 43 rfl rfl v4 (f_pick x4 43 (v4 - (1 : Int32))) (by rw [← hx5]; exact h9)) (fun n h => h) ?_
        refine go_st (k' := 18) (L' := [some (.ref 41), some (.int v1), some (.int v2), some (.int v3), some (.int (v4 + (-1 : Int32)))]) (S' := []) (σ' := x5) 2 (fun n h => h) ?_
        exact ih v1 v2 v3 (v4 + (-1 : Int32)) x5 h
def f_ClassTable_sortDivisors_41_l2 (N : Nat) : Nat → Int32 → aSt → Option aSt
  | 0, _, _ => none
  | n + 1, v1, σ => (if (σ.1 41 7) ≤ v1 then some σ else f_ClassTable_sortDivisors_41_l18 N (fun (y6 : Int32) (y7 : Int32) (y8 : Int32) (y9 : Int32) σ10 => (lt (f_store σ10 42 y9 y7) fun x11 => (lt (f_store x11 43 y9 y8) fun x12 => f_ClassTable_sortDivisors_41_l2 N n (y6 + (1 : Int32)) x12))) N v1 (f_pick σ 42 v1) (f_pick σ 43 v1) v1 σ)
set_option maxRecDepth 20000 in
set_option maxHeartbeats 4000000 in
theorem t_ClassTable_sortDivisors_41_l2 (d : Nat) {N : Nat} {x : aSt} {P : Option Value → aSt → Prop} (hp : P none x) : ∀ (n : Nat) (d2 d3 d4 : Option Value) (v1 : Int32) (σ : aSt), f_ClassTable_sortDivisors_41_l2 N n v1 σ = some x → aGo (aCall MT (d + 1)) P mc_ClassTable_sortDivisors 2 [some (.ref 41), some (.int v1), d2, d3, d4] [] σ := by
  intro n
  induction n with
  | zero => intro d2 d3 d4 v1 σ h; cases h
  | succ n ih =>
    intro d2 d3 d4 v1 σ h
    rw [f_ClassTable_sortDivisors_41_l2] at h
    refine go_if (c := (σ.1 41 7) ≤ v1) (k1 := 62) (L1 := [some (.ref 41), some (.int v1), d2, d3, d4]) (S1 := []) (σ1 := σ) (k2 := 6) (L2 := [some (.ref 41), some (.int v1), d2, d3, d4]) (S2 := []) (σ2 := σ) 4 (fun n h => h) (fun hc1 => ?_) (fun hc1 => ?_)
    · rw [if_pos hc1] at h
      cases h
      exact go_ret 1 (fun _ => hp)
    · rw [if_neg hc1] at h
      refine go_call (r := some (.int (f_pick σ 42 v1))) (σc := σ) (σ1 := σ) (mi := 9) (vs := [.ref 42, .int v1]) (k' := 10) (L' := [some (.ref 41), some (.int v1), d2, d3, d4]) (S' := []) 4 (fun P9 h9 => c_pick (d + 0) σ 42 rfl v1 h9) (fun n h => h) ?_
      refine go_call (r := some (.int (f_pick σ 43 v1))) (σc := σ) (σ1 := σ) (mi := 9) (vs := [.ref 43, .int v1]) (k' := 15) (L' := [some (.ref 41), some (.int v1), some (.int (f_pick σ 42 v1)), d3, d4]) (S' := []) 5 (fun P9 h9 => c_pick (d + 0) σ 43 rfl v1 h9) (fun n h => h) ?_
      refine go_st (k' := 18) (L' := [some (.ref 41), some (.int v1), some (.int (f_pick σ 42 v1)), some (.int (f_pick σ 43 v1)), some (.int v1)]) (S' := []) (σ' := σ) 3 (fun n h => h) ?_
      refine t_ClassTable_sortDivisors_41_l18 d _ hp (fun y6 y7 y8 y9 σ10 h => ?_) N v1 (f_pick σ 42 v1) (f_pick σ 43 v1) v1 σ h
      · obtain ⟨x11, hx11, h⟩ := lt_of h
        refine go_call (r := none) (σc := σ10) (σ1 := x11) (mi := 1) (vs := [.ref 42, .int y9, .int y7]) (k' := 55) (L' := [some (.ref 41), some (.int y6), some (.int y7), some (.int y8), some (.int y9)]) (S' := []) 5 (fun P9 h9 => c_store (d + 0) σ10 42 rfl rfl y9 y7 (by rw [← hx11]; exact h9)) (fun n h => h) ?_
        obtain ⟨x12, hx12, h⟩ := lt_of h
        refine go_call (r := none) (σc := x11) (σ1 := x12) (mi := 1) (vs := [.ref 43, .int y9, .int y8]) (k' := 60) (L' := [some (.ref 41), some (.int y6), some (.int y7), some (.int y8), some (.int y9)]) (S' := []) 5 (fun P9 h9 => c_store (d + 0) x11 43 rfl rfl y9 y8 (by rw [← hx12]; exact h9)) (fun n h => h) ?_
        refine go_st (k' := 2) (L' := [some (.ref 41), some (.int (y6 + (1 : Int32))), some (.int y7), some (.int y8), some (.int y9)]) (S' := []) (σ' := x12) 2 (fun n h => h) ?_
        exact ih _ _ _ (y6 + (1 : Int32)) x12 h
def f_ClassTable_sortDivisors_41 (N : Nat) (σ : aSt) : Option aSt :=
  f_ClassTable_sortDivisors_41_l2 N N (1 : Int32) σ
set_option maxRecDepth 20000 in
set_option maxHeartbeats 4000000 in
theorem c_ClassTable_sortDivisors_41 (d : Nat) {N : Nat} (σ : aSt) {P : Option Value → aSt → Prop} {x : aSt} (h : f_ClassTable_sortDivisors_41 N σ = some x) (hp : P none x) : aCall MT (d + 2) 164 [.ref 41] σ P := by
  unfold f_ClassTable_sortDivisors_41 at h
  refine call_of (code := mc_ClassTable_sortDivisors) (L := [some (.ref 41), none, none, none, none]) rfl rfl rfl rfl ?_
  refine go_st (k' := 2) (L' := [some (.ref 41), some (.int (1 : Int32)), none, none, none]) (S' := []) (σ' := σ) 2 (fun n h => h) ?_
  exact t_ClassTable_sortDivisors_41_l2 d hp N _ _ _ (1 : Int32) σ h
def f_ClassTable_addPrime_41_l11 (N : Nat) : Nat → Int32 → Int32 → Int32 → Int32 → aSt → Option aSt
  | 0, _, _, _, _, _ => none
  | n + 1, v1, v2, v3, v4, σ => (if v3 ≤ v4 then ((f_ClassTable_sortDivisors_41 N (s_i σ 41 7 ((2 : Int32) * v3))).bind fun x3 => some x3) else (lt (f_store σ 42 (v3 + v4) ((f_pick σ 42 v4) * v1)) fun x4 => (lt (f_store x4 43 (v3 + v4) ((f_pick x4 43 v4) + v2)) fun x5 => f_ClassTable_addPrime_41_l11 N n v1 v2 v3 (v4 + (1 : Int32)) x5)))
set_option maxRecDepth 20000 in
set_option maxHeartbeats 4000000 in
theorem t_ClassTable_addPrime_41_l11 (d : Nat) {N : Nat} {x : aSt} {P : Option Value → aSt → Prop} (hp : P none x) : ∀ (n : Nat) (v1 : Int32) (v2 : Int32) (v3 : Int32) (v4 : Int32) (σ : aSt), f_ClassTable_addPrime_41_l11 N n v1 v2 v3 v4 σ = some x → aGo (aCall MT (d + 2)) P mc_ClassTable_addPrime 11 [some (.ref 41), some (.int v1), some (.int v2), some (.int v3), some (.int v4)] [] σ := by
  intro n
  induction n with
  | zero => intro v1 v2 v3 v4 σ h; cases h
  | succ n ih =>
    intro v1 v2 v3 v4 σ h
    rw [f_ClassTable_addPrime_41_l11] at h
    refine go_if (c := v3 ≤ v4) (k1 := 40) (L1 := [some (.ref 41), some (.int v1), some (.int v2), some (.int v3), some (.int v4)]) (S1 := []) (σ1 := σ) (k2 := 14) (L2 := [some (.ref 41), some (.int v1), some (.int v2), some (.int v3), some (.int v4)]) (S2 := []) (σ2 := σ) 3 (fun n h => h) (fun hc2 => ?_) (fun hc2 => ?_)
    · rw [if_pos hc2] at h
      obtain ⟨x3, hx3, h⟩ := bind_of h
      refine go_call (r := none) (σc := (s_i σ 41 7 ((2 : Int32) * v3))) (σ1 := x3) (mi := 164) (vs := [.ref 41]) (k' := 47) (L' := [some (.ref 41), some (.int v1), some (.int v2), some (.int v3), some (.int v4)]) (S' := []) 7 (fun P9 h9 => c_ClassTable_sortDivisors_41 (d + 0) (s_i σ 41 7 ((2 : Int32) * v3)) hx3 h9) (fun n h => h) ?_
      cases h
      exact go_ret 1 (fun _ => hp)
    · rw [if_neg hc2] at h
      refine go_call (r := some (.int (f_pick σ 42 v4))) (σc := σ) (σ1 := σ) (mi := 9) (vs := [.ref 42, .int v4]) (k' := 23) (L' := [some (.ref 41), some (.int v1), some (.int v2), some (.int v3), some (.int v4)]) (S' := [.int (v3 + v4), .ref 42]) 9 (fun P9 h9 => c_pick (d + 1) σ 42 rfl v4 h9) (fun n h => h) ?_
      obtain ⟨x4, hx4, h⟩ := lt_of h
      refine go_call (r := none) (σc := σ) (σ1 := x4) (mi := 1) (vs := [.ref 42, .int (v3 + v4), .int ((f_pick σ 42 v4) * v1)]) (k' := 26) (L' := [some (.ref 41), some (.int v1), some (.int v2), some (.int v3), some (.int v4)]) (S' := []) 3 (fun P9 h9 => c_store (d + 1) σ 42 rfl rfl (v3 + v4) ((f_pick σ 42 v4) * v1) (by rw [← hx4]; exact h9)) (fun n h => h) ?_
      refine go_call (r := some (.int (f_pick x4 43 v4))) (σc := x4) (σ1 := x4) (mi := 9) (vs := [.ref 43, .int v4]) (k' := 35) (L' := [some (.ref 41), some (.int v1), some (.int v2), some (.int v3), some (.int v4)]) (S' := [.int (v3 + v4), .ref 43]) 9 (fun P9 h9 => c_pick (d + 1) x4 43 rfl v4 h9) (fun n h => h) ?_
      obtain ⟨x5, hx5, h⟩ := lt_of h
      refine go_call (r := none) (σc := x4) (σ1 := x5) (mi := 1) (vs := [.ref 43, .int (v3 + v4), .int ((f_pick x4 43 v4) + v2)]) (k' := 38) (L' := [some (.ref 41), some (.int v1), some (.int v2), some (.int v3), some (.int v4)]) (S' := []) 3 (fun P9 h9 => c_store (d + 1) x4 43 rfl rfl (v3 + v4) ((f_pick x4 43 v4) + v2) (by rw [← hx5]; exact h9)) (fun n h => h) ?_
      refine go_st (k' := 11) (L' := [some (.ref 41), some (.int v1), some (.int v2), some (.int v3), some (.int (v4 + (1 : Int32)))]) (S' := []) (σ' := x5) 2 (fun n h => h) ?_
      exact ih v1 v2 v3 (v4 + (1 : Int32)) x5 h
def f_ClassTable_addPrime_41 (N : Nat) (p0 : Int32) (p1 : Int32) (σ : aSt) : Option aSt :=
  (if ((2 : Int32) * (σ.1 41 7)) ≤ (32 : Int32) then f_ClassTable_addPrime_41_l11 N N p0 p1 (σ.1 41 7) (0 : Int32) σ else some σ)
set_option maxRecDepth 20000 in
set_option maxHeartbeats 4000000 in
theorem c_ClassTable_addPrime_41 (d : Nat) {N : Nat} (p0 : Int32) (p1 : Int32) (σ : aSt) {P : Option Value → aSt → Prop} {x : aSt} (h : f_ClassTable_addPrime_41 N p0 p1 σ = some x) (hp : P none x) : aCall MT (d + 3) 165 [.ref 41, .int p0, .int p1] σ P := by
  unfold f_ClassTable_addPrime_41 at h
  refine call_of (code := mc_ClassTable_addPrime) (L := [some (.ref 41), some (.int p0), some (.int p1), none, none]) rfl rfl rfl rfl ?_
  refine go_if (c := ((2 : Int32) * (σ.1 41 7)) ≤ (32 : Int32)) (k1 := 9) (L1 := [some (.ref 41), some (.int p0), some (.int p1), some (.int (σ.1 41 7)), none]) (S1 := []) (σ1 := σ) (k2 := 8) (L2 := [some (.ref 41), some (.int p0), some (.int p1), some (.int (σ.1 41 7)), none]) (S2 := []) (σ2 := σ) 8 (fun n h => h) (fun hc1 => ?_) (fun hc1 => ?_)
  · rw [if_pos hc1] at h
    refine go_st (k' := 11) (L' := [some (.ref 41), some (.int p0), some (.int p1), some (.int (σ.1 41 7)), some (.int (0 : Int32))]) (S' := []) (σ' := σ) 2 (fun n h => h) ?_
    exact t_ClassTable_addPrime_41_l11 d hp N p0 p1 (σ.1 41 7) (0 : Int32) σ h
  · rw [if_neg hc1] at h
    cases h
    exact go_ret 1 (fun _ => hp)
def f_ClassTable_gatherDivisors_41_l33 (N : Nat) (k46 : Int32 → Int32 → Int32 → aSt → Option aSt) : Nat → Int32 → Int32 → Int32 → Int32 → aSt → Option aSt
  | 0, _, _, _, _, _ => none
  | n + 1, v1, v2, v3, v4, σ => (if (32 : Int32) ≤ v4 then k46 v1 v2 v3 σ else (if ¬ v3 = 0 then (if (irem v1 v3) ≠ 0 then k46 v1 v2 v3 σ else f_ClassTable_gatherDivisors_41_l33 N k46 n (v1 / v3) v2 v3 (v4 + (1 : Int32)) σ) else none))
set_option maxRecDepth 20000 in
set_option maxHeartbeats 4000000 in
theorem t_ClassTable_gatherDivisors_41_l33 (d : Nat) {N : Nat} (k46 : Int32 → Int32 → Int32 → aSt → Option aSt) {x : aSt} {P : Option Value → aSt → Prop} (hp : P none x) (hk46 : ∀ (d4 : Option Value) (v1 : Int32) (v2 : Int32) (v3 : Int32) (σ : aSt), k46 v1 v2 v3 σ = some x → aGo (aCall MT (d + 3)) P mc_ClassTable_gatherDivisors 46 [some (.ref 41), some (.int v1), some (.int v2), some (.int v3), d4] [] σ) : ∀ (n : Nat) (v1 : Int32) (v2 : Int32) (v3 : Int32) (v4 : Int32) (σ : aSt), f_ClassTable_gatherDivisors_41_l33 N k46 n v1 v2 v3 v4 σ = some x → aGo (aCall MT (d + 3)) P mc_ClassTable_gatherDivisors 33 [some (.ref 41), some (.int v1), some (.int v2), some (.int v3), some (.int v4)] [] σ := by
  intro n
  induction n with
  | zero => intro v1 v2 v3 v4 σ h; cases h
  | succ n ih =>
    intro v1 v2 v3 v4 σ h
    rw [f_ClassTable_gatherDivisors_41_l33] at h
    refine go_if (c := (32 : Int32) ≤ v4) (k1 := 46) (L1 := [some (.ref 41), some (.int v1), some (.int v2), some (.int v3), some (.int v4)]) (S1 := []) (σ1 := σ) (k2 := 36) (L2 := [some (.ref 41), some (.int v1), some (.int v2), some (.int v3), some (.int v4)]) (S2 := []) (σ2 := σ) 3 (fun n h => h) (fun hc8 => ?_) (fun hc8 => ?_)
    · rw [if_pos hc8] at h
      exact hk46 _ v1 v2 v3 σ h
    · rw [if_neg hc8] at h
      obtain ⟨hc9, h⟩ := ite_of h
      refine go_q (Q := ¬ v3 = 0) (k' := 39) (L' := [some (.ref 41), some (.int v1), some (.int v2), some (.int v3), some (.int v4)]) (S' := [.int (irem v1 v3)]) (σ' := σ) 3 hc9 (fun n h => h) ?_
      refine go_if (c := (irem v1 v3) ≠ 0) (k1 := 46) (L1 := [some (.ref 41), some (.int v1), some (.int v2), some (.int v3), some (.int v4)]) (S1 := []) (σ1 := σ) (k2 := 40) (L2 := [some (.ref 41), some (.int v1), some (.int v2), some (.int v3), some (.int v4)]) (S2 := []) (σ2 := σ) 1 (fun n h => h) (fun hc10 => ?_) (fun hc10 => ?_)
      · rw [if_pos hc10] at h
        exact hk46 _ v1 v2 v3 σ h
      · rw [if_neg hc10] at h
        refine go_q (Q := ¬ v3 = 0) (k' := 43) (L' := [some (.ref 41), some (.int v1), some (.int v2), some (.int v3), some (.int v4)]) (S' := [.int (v1 / v3)]) (σ' := σ) 3 (hc9) (fun n h => h) ?_
        refine go_st (k' := 33) (L' := [some (.ref 41), some (.int (v1 / v3)), some (.int v2), some (.int v3), some (.int (v4 + (1 : Int32)))]) (S' := []) (σ' := σ) 3 (fun n h => h) ?_
        exact ih (v1 / v3) v2 v3 (v4 + (1 : Int32)) σ h
def f_ClassTable_gatherDivisors_41_l21 (N : Nat) : Nat → Int32 → Int32 → Int32 → aSt → Option aSt
  | 0, _, _, _, _ => none
  | n + 1, v1, v2, v3, σ => (if v1 < (v3 * v3) then (if v1 ≤ (1 : Int32) then some σ else ((f_ClassTable_addPrime_41 N v1 v2 σ).bind fun x5 => some x5)) else (if ¬ v3 = 0 then (if (irem v1 v3) = 0 then f_ClassTable_gatherDivisors_41_l33 N (fun (y11 : Int32) (y12 : Int32) (y13 : Int32) σ14 => ((f_ClassTable_addPrime_41 N y13 y12 σ14).bind fun x15 => f_ClassTable_gatherDivisors_41_l21 N n y11 (y12 * (2 : Int32)) (y13 + (1 : Int32)) x15)) N v1 v2 v3 (0 : Int32) σ else f_ClassTable_gatherDivisors_41_l21 N n v1 v2 (v3 + (1 : Int32)) σ) else none))
set_option maxRecDepth 20000 in
set_option maxHeartbeats 4000000 in
theorem t_ClassTable_gatherDivisors_41_l21 (d : Nat) {N : Nat} {x : aSt} {P : Option Value → aSt → Prop} (hp : P none x) : ∀ (n : Nat) (d4 : Option Value) (v1 : Int32) (v2 : Int32) (v3 : Int32) (σ : aSt), f_ClassTable_gatherDivisors_41_l21 N n v1 v2 v3 σ = some x → aGo (aCall MT (d + 3)) P mc_ClassTable_gatherDivisors 21 [some (.ref 41), some (.int v1), some (.int v2), some (.int v3), d4] [] σ := by
  intro n
  induction n with
  | zero => intro d4 v1 v2 v3 σ h; cases h
  | succ n ih =>
    intro d4 v1 v2 v3 σ h
    rw [f_ClassTable_gatherDivisors_41_l21] at h
    refine go_if (c := v1 < (v3 * v3)) (k1 := 56) (L1 := [some (.ref 41), some (.int v1), some (.int v2), some (.int v3), d4]) (S1 := []) (σ1 := σ) (k2 := 26) (L2 := [some (.ref 41), some (.int v1), some (.int v2), some (.int v3), d4]) (S2 := []) (σ2 := σ) 5 (fun n h => h) (fun hc3 => ?_) (fun hc3 => ?_)
    · rw [if_pos hc3] at h
      refine go_if (c := v1 ≤ (1 : Int32)) (k1 := 63) (L1 := [some (.ref 41), some (.int v1), some (.int v2), some (.int v3), d4]) (S1 := []) (σ1 := σ) (k2 := 59) (L2 := [some (.ref 41), some (.int v1), some (.int v2), some (.int v3), d4]) (S2 := []) (σ2 := σ) 3 (fun n h => h) (fun hc4 => ?_) (fun hc4 => ?_)
      · rw [if_pos hc4] at h
        cases h
        exact go_ret 1 (fun _ => hp)
      · rw [if_neg hc4] at h
        obtain ⟨x5, hx5, h⟩ := bind_of h
        refine go_call (r := none) (σc := σ) (σ1 := x5) (mi := 165) (vs := [.ref 41, .int v1, .int v2]) (k' := 63) (L' := [some (.ref 41), some (.int v1), some (.int v2), some (.int v3), d4]) (S' := []) 4 (fun P9 h9 => c_ClassTable_addPrime_41 (d + 0) v1 v2 σ hx5 h9) (fun n h => h) ?_
        cases h
        exact go_ret 1 (fun _ => hp)
    · rw [if_neg hc3] at h
      obtain ⟨hc6, h⟩ := ite_of h
      refine go_q (Q := ¬ v3 = 0) (k' := 29) (L' := [some (.ref 41), some (.int v1), some (.int v2), some (.int v3), d4]) (S' := [.int (irem v1 v3)]) (σ' := σ) 3 hc6 (fun n h => h) ?_
      refine go_if (c := (irem v1 v3) = 0) (k1 := 31) (L1 := [some (.ref 41), some (.int v1), some (.int v2), some (.int v3), d4]) (S1 := []) (σ1 := σ) (k2 := 30) (L2 := [some (.ref 41), some (.int v1), some (.int v2), some (.int v3), d4]) (S2 := []) (σ2 := σ) 1 (fun n h => h) (fun hc7 => ?_) (fun hc7 => ?_)
      · rw [if_pos hc7] at h
        refine go_st (k' := 33) (L' := [some (.ref 41), some (.int v1), some (.int v2), some (.int v3), some (.int (0 : Int32))]) (S' := []) (σ' := σ) 2 (fun n h => h) ?_
        refine t_ClassTable_gatherDivisors_41_l33 d _ hp (fun d4 y11 y12 y13 σ14 h => ?_) N v1 v2 v3 (0 : Int32) σ h
        · obtain ⟨x15, hx15, h⟩ := bind_of h
          refine go_call (r := none) (σc := σ14) (σ1 := x15) (mi := 165) (vs := [.ref 41, .int y13, .int y12]) (k' := 50) (L' := [some (.ref 41), some (.int y11), some (.int y12), some (.int y13), d4]) (S' := []) 4 (fun P9 h9 => c_ClassTable_addPrime_41 (d + 0) y13 y12 σ14 hx15 h9) (fun n h => h) ?_
          refine go_st (k' := 21) (L' := [some (.ref 41), some (.int y11), some (.int (y12 * (2 : Int32))), some (.int (y13 + (1 : Int32))), d4]) (S' := []) (σ' := x15) 6 (fun n h => h) ?_
          exact ih _ y11 (y12 * (2 : Int32)) (y13 + (1 : Int32)) x15 h
      · rw [if_neg hc7] at h
        refine go_st (k' := 21) (L' := [some (.ref 41), some (.int v1), some (.int v2), some (.int (v3 + (1 : Int32))), d4]) (S' := []) (σ' := σ) 3 (fun n h => h) ?_
        exact ih _ v1 v2 (v3 + (1 : Int32)) σ h
def f_ClassTable_gatherDivisors_41 (N : Nat) (σ : aSt) : Option aSt :=
  (lt (f_store σ 42 (0 : Int32) (1 : Int32)) fun x1 => (lt (f_store x1 43 (0 : Int32) (0 : Int32)) fun x2 => f_ClassTable_gatherDivisors_41_l21 N N (iabs (x2.1 41 9)) (1 : Int32) (2 : Int32) (s_i x2 41 7 (1 : Int32))))
set_option maxRecDepth 20000 in
set_option maxHeartbeats 4000000 in
theorem c_ClassTable_gatherDivisors_41 (d : Nat) {N : Nat} (σ : aSt) {P : Option Value → aSt → Prop} {x : aSt} (h : f_ClassTable_gatherDivisors_41 N σ = some x) (hp : P none x) : aCall MT (d + 4) 166 [.ref 41] σ P := by
  unfold f_ClassTable_gatherDivisors_41 at h
  refine call_of (code := mc_ClassTable_gatherDivisors) (L := [some (.ref 41), none, none, none, none]) rfl rfl rfl rfl ?_
  obtain ⟨x1, hx1, h⟩ := lt_of h
  refine go_call (r := none) (σc := σ) (σ1 := x1) (mi := 1) (vs := [.ref 42, .int (0 : Int32), .int (1 : Int32)]) (k' := 5) (L' := [some (.ref 41), none, none, none, none]) (S' := []) 5 (fun P9 h9 => c_store (d + 2) σ 42 rfl rfl (0 : Int32) (1 : Int32) (by rw [← hx1]; exact h9)) (fun n h => h) ?_
  obtain ⟨x2, hx2, h⟩ := lt_of h
  refine go_call (r := none) (σc := x1) (σ1 := x2) (mi := 1) (vs := [.ref 43, .int (0 : Int32), .int (0 : Int32)]) (k' := 10) (L' := [some (.ref 41), none, none, none, none]) (S' := []) 5 (fun P9 h9 => c_store (d + 2) x1 43 rfl rfl (0 : Int32) (0 : Int32) (by rw [← hx2]; exact h9)) (fun n h => h) ?_
  refine go_st (k' := 21) (L' := [some (.ref 41), some (.int (iabs (x2.1 41 9))), some (.int (1 : Int32)), some (.int (2 : Int32)), none]) (S' := []) (σ' := (s_i x2 41 7 (1 : Int32))) 11 (fun n h => h) ?_
  exact t_ClassTable_gatherDivisors_41_l21 d hp N _ (iabs (x2.1 41 9)) (1 : Int32) (2 : Int32) (s_i x2 41 7 (1 : Int32)) h
def f_ClassTable_size_41 (σ : aSt) : Int32 :=
  ((2 : Int32) * (σ.1 41 7))
set_option maxRecDepth 20000 in
set_option maxHeartbeats 4000000 in
theorem c_ClassTable_size_41 (d : Nat) (σ : aSt) {P : Option Value → aSt → Prop} (h : P (some (.int ((f_ClassTable_size_41 σ)))) σ) : aCall MT (d + 1) 167 [.ref 41] σ P := by
  unfold f_ClassTable_size_41 at h
  refine call_of (code := mc_ClassTable_size) (L := [some (.ref 41)]) rfl rfl rfl rfl ?_
  exact go_ret 5 (fun _ => h)
def f_ClassTable_divisor_41 (p0 : Int32) (σ : aSt) : Int32 :=
  (if (irem p0 (2 : Int32)) ≠ 0 then (-(f_pick σ 42 (p0 / (2 : Int32)))) else (f_pick σ 42 (p0 / (2 : Int32))))
set_option maxRecDepth 20000 in
set_option maxHeartbeats 4000000 in
theorem c_ClassTable_divisor_41 (d : Nat) (p0 : Int32) (σ : aSt) {P : Option Value → aSt → Prop} (h : P (some (.int ((f_ClassTable_divisor_41 p0 σ)))) σ) : aCall MT (d + 2) 168 [.ref 41, .int p0] σ P := by
  unfold f_ClassTable_divisor_41 at h
  refine call_of (code := mc_ClassTable_divisor) (L := [some (.ref 41), some (.int p0), none]) rfl rfl rfl rfl ?_
  refine go_q (Q := ¬ (2 : Int32) = 0) (k' := 5) (L' := [some (.ref 41), some (.int p0), none]) (S' := [.int (p0 / (2 : Int32)), .ref 42]) (σ' := σ) 5 (by decide) (fun n h => h) ?_
  refine go_call (r := some (.int (f_pick σ 42 (p0 / (2 : Int32))))) (σc := σ) (σ1 := σ) (mi := 9) (vs := [.ref 42, .int (p0 / (2 : Int32))]) (k' := 6) (L' := [some (.ref 41), some (.int p0), none]) (S' := []) 1 (fun P9 h9 => c_pick (d + 0) σ 42 rfl (p0 / (2 : Int32)) h9) (fun n h => h) ?_
  refine go_q (Q := ¬ (2 : Int32) = 0) (k' := 10) (L' := [some (.ref 41), some (.int p0), some (.int (f_pick σ 42 (p0 / (2 : Int32))))]) (S' := [.int (irem p0 (2 : Int32))]) (σ' := σ) 4 (by decide) (fun n h => h) ?_
  refine go_if (c := (irem p0 (2 : Int32)) ≠ 0) (k1 := 13) (L1 := [some (.ref 41), some (.int p0), some (.int (f_pick σ 42 (p0 / (2 : Int32))))]) (S1 := []) (σ1 := σ) (k2 := 11) (L2 := [some (.ref 41), some (.int p0), some (.int (f_pick σ 42 (p0 / (2 : Int32))))]) (S2 := []) (σ2 := σ) 1 (fun n h => h) (fun hc1 => ?_) (fun hc1 => ?_)
  · rw [if_pos hc1] at h
    exact go_ret 3 (fun _ => h)
  · rw [if_neg hc1] at h
    exact go_ret 3 (fun _ => h)
def f_ClassTable_valueAt_41 (p0 : Int64) (p1 : Int64) (p2 : Int64) (p3 : Int64) (σ : aSt) : Int64 :=
  ((((p0 * p2) * p2) + (((σ.1 41 8).toInt64 * p2) * p3)) + ((p1 * p3) * p3))
set_option maxRecDepth 20000 in
set_option maxHeartbeats 4000000 in
theorem c_ClassTable_valueAt_41 (d : Nat) (p0 : Int64) (p1 : Int64) (p2 : Int64) (p3 : Int64) (σ : aSt) {P : Option Value → aSt → Prop} (h : P (some (.long ((f_ClassTable_valueAt_41 p0 p1 p2 p3 σ)))) σ) : aCall MT (d + 1) 169 [.ref 41, .long p0, .long p1, .long p2, .long p3] σ P := by
  unfold f_ClassTable_valueAt_41 at h
  refine call_of (code := mc_ClassTable_valueAt) (L := [some (.ref 41), some (.long p0), none, some (.long p1), none, some (.long p2), none, some (.long p3), none]) rfl rfl rfl rfl ?_
  exact go_ret 20 (fun _ => h)
def f_ClassTable_mayBeBy_41_l56 (N : Nat) (σ : aSt) : Nat → Int32 → Int32 → Int32 → Int32 → Int64 → Int32 → Option Bool
  | 0, _, _, _, _, _, _ => none
  | n + 1, v1, v2, v3, v4, v5, v7 => (if v4 ≤ v7 then some false else ((f_Whole_residue N (f_ClassTable_valueAt_41 v1.toInt64 v2.toInt64 (v7.toInt64 * v7.toInt64) (1 : Int64) σ) v4).bind fun x7 => (if ((lushr v5 x7) &&& (1 : Int64)) = (0 : Int64) then (if 0 ≤ v3 ∧ v3 < (6 : Int32) then f_ClassTable_mayBeBy_41_l56 N σ n v1 v2 v3 v4 v5 (v7 + (σ.1 89 v3.toNatClampNeg)) else none) else some true)))
set_option maxRecDepth 20000 in
set_option maxHeartbeats 4000000 in
theorem t_ClassTable_mayBeBy_41_l56 (d : Nat) {N : Nat} (σ : aSt) {x : Bool} {P : Option Value → aSt → Prop} (hp : P (some (.int (b2i x))) σ) : ∀ (n : Nat) (d8 : Option Value) (v1 : Int32) (v2 : Int32) (v3 : Int32) (v4 : Int32) (v5 : Int64) (v7 : Int32), f_ClassTable_mayBeBy_41_l56 N σ n v1 v2 v3 v4 v5 v7 = some x → aGo (aCall MT (d + 1)) P mc_ClassTable_mayBeBy 56 [some (.ref 41), some (.int v1), some (.int v2), some (.int v3), some (.int v4), some (.long v5), none, some (.int v7), d8] [] σ := by
  intro n
  induction n with
  | zero => intro d8 v1 v2 v3 v4 v5 v7 h; cases h
  | succ n ih =>
    intro d8 v1 v2 v3 v4 v5 v7 h
    rw [f_ClassTable_mayBeBy_41_l56] at h
    refine go_if (c := v4 ≤ v7) (k1 := 91) (L1 := [some (.ref 41), some (.int v1), some (.int v2), some (.int v3), some (.int v4), some (.long v5), none, some (.int v7), d8]) (S1 := []) (σ1 := σ) (k2 := 59) (L2 := [some (.ref 41), some (.int v1), some (.int v2), some (.int v3), some (.int v4), some (.long v5), none, some (.int v7), d8]) (S2 := []) (σ2 := σ) 3 (fun n h => h) (fun hc6 => ?_) (fun hc6 => ?_)
    · rw [if_pos hc6] at h
      cases h
      exact go_ret 2 (fun _ => And.intro (Or.inl rfl) hp)
    · rw [if_neg hc6] at h
      refine go_call (r := some (.long (f_ClassTable_valueAt_41 v1.toInt64 v2.toInt64 (v7.toInt64 * v7.toInt64) (1 : Int64) σ))) (σc := σ) (σ1 := σ) (mi := 169) (vs := [.ref 41, .long v1.toInt64, .long v2.toInt64, .long (v7.toInt64 * v7.toInt64), .long (1 : Int64)]) (k' := 71) (L' := [some (.ref 41), some (.int v1), some (.int v2), some (.int v3), some (.int v4), some (.long v5), none, some (.int v7), d8]) (S' := []) 12 (fun P9 h9 => c_ClassTable_valueAt_41 (d + 0) v1.toInt64 v2.toInt64 (v7.toInt64 * v7.toInt64) (1 : Int64) σ h9) (fun n h => h) ?_
      obtain ⟨x7, hx7, h⟩ := bind_of h
      refine go_call (r := some (.int x7)) (σc := σ) (σ1 := σ) (mi := 137) (vs := [.long (f_ClassTable_valueAt_41 v1.toInt64 v2.toInt64 (v7.toInt64 * v7.toInt64) (1 : Int64) σ), .int v4]) (k' := 73) (L' := [some (.ref 41), some (.int v1), some (.int v2), some (.int v3), some (.int v4), some (.long v5), none, some (.int v7), d8]) (S' := []) 2 (fun P9 h9 => c_Whole_residue (d + 0) (f_ClassTable_valueAt_41 v1.toInt64 v2.toInt64 (v7.toInt64 * v7.toInt64) (1 : Int64) σ) v4 σ hx7 h9) (fun n h => h) ?_
      refine go_iff (lcmp_eq ((lushr v5 x7) &&& (1 : Int64)) (0 : Int64)) (k1 := 84) (L1 := [some (.ref 41), some (.int v1), some (.int v2), some (.int v3), some (.int v4), some (.long v5), none, some (.int v7), some (.int x7)]) (S1 := []) (σ1 := σ) (k2 := 82) (L2 := [some (.ref 41), some (.int v1), some (.int v2), some (.int v3), some (.int v4), some (.long v5), none, some (.int v7), some (.int x7)]) (S2 := []) (σ2 := σ) 9 (fun n h => h) (fun hc8 => ?_) (fun hc8 => ?_)
      · rw [if_pos hc8] at h
        obtain ⟨hc9, h⟩ := ite_of h
        refine go_q (Q := inb 0 σ 89 v3) (k' := 88) (L' := [some (.ref 41), some (.int v1), some (.int v2), some (.int v3), some (.int v4), some (.long v5), none, some (.int v7), some (.int x7)]) (S' := [.int (σ.1 89 v3.toNatClampNeg), .int v7]) (σ' := σ) 4 (inb_mk rfl hc9.1 hc9.2) (fun n h => h) ?_
        refine go_st (k' := 56) (L' := [some (.ref 41), some (.int v1), some (.int v2), some (.int v3), some (.int v4), some (.long v5), none, some (.int (v7 + (σ.1 89 v3.toNatClampNeg))), some (.int x7)]) (S' := []) (σ' := σ) 3 (fun n h => h) ?_
        exact ih _ v1 v2 v3 v4 v5 (v7 + (σ.1 89 v3.toNatClampNeg)) h
      · rw [if_neg hc8] at h
        cases h
        exact go_ret 2 (fun _ => And.intro (Or.inr rfl) hp)
def f_ClassTable_mayBeBy_41_l24 (N : Nat) (σ : aSt) : Nat → Int32 → Int32 → Int32 → Int32 → Int64 → Int32 → Option Bool
  | 0, _, _, _, _, _, _ => none
  | n + 1, v1, v2, v3, v4, v5, v7 => (if v4 ≤ v7 then f_ClassTable_mayBeBy_41_l56 N σ N v1 v2 v3 v4 v5 (0 : Int32) else ((f_Whole_residue N (f_ClassTable_valueAt_41 v1.toInt64 v2.toInt64 (1 : Int64) (v7.toInt64 * v7.toInt64) σ) v4).bind fun x10 => (if ((lushr v5 x10) &&& (1 : Int64)) = (0 : Int64) then f_ClassTable_mayBeBy_41_l24 N σ n v1 v2 v3 v4 v5 (v7 + (1 : Int32)) else some true)))
set_option maxRecDepth 20000 in
set_option maxHeartbeats 4000000 in
theorem t_ClassTable_mayBeBy_41_l24 (d : Nat) {N : Nat} (σ : aSt) {x : Bool} {P : Option Value → aSt → Prop} (hp : P (some (.int (b2i x))) σ) : ∀ (n : Nat) (d8 : Option Value) (v1 : Int32) (v2 : Int32) (v3 : Int32) (v4 : Int32) (v5 : Int64) (v7 : Int32), f_ClassTable_mayBeBy_41_l24 N σ n v1 v2 v3 v4 v5 v7 = some x → aGo (aCall MT (d + 1)) P mc_ClassTable_mayBeBy 24 [some (.ref 41), some (.int v1), some (.int v2), some (.int v3), some (.int v4), some (.long v5), none, some (.int v7), d8] [] σ := by
  intro n
  induction n with
  | zero => intro d8 v1 v2 v3 v4 v5 v7 h; cases h
  | succ n ih =>
    intro d8 v1 v2 v3 v4 v5 v7 h
    rw [f_ClassTable_mayBeBy_41_l24] at h
    refine go_if (c := v4 ≤ v7) (k1 := 54) (L1 := [some (.ref 41), some (.int v1), some (.int v2), some (.int v3), some (.int v4), some (.long v5), none, some (.int v7), d8]) (S1 := []) (σ1 := σ) (k2 := 27) (L2 := [some (.ref 41), some (.int v1), some (.int v2), some (.int v3), some (.int v4), some (.long v5), none, some (.int v7), d8]) (S2 := []) (σ2 := σ) 3 (fun n h => h) (fun hc5 => ?_) (fun hc5 => ?_)
    · rw [if_pos hc5] at h
      refine go_st (k' := 56) (L' := [some (.ref 41), some (.int v1), some (.int v2), some (.int v3), some (.int v4), some (.long v5), none, some (.int (0 : Int32)), d8]) (S' := []) (σ' := σ) 2 (fun n h => h) ?_
      exact t_ClassTable_mayBeBy_41_l56 d σ hp N _ v1 v2 v3 v4 v5 (0 : Int32) h
    · rw [if_neg hc5] at h
      refine go_call (r := some (.long (f_ClassTable_valueAt_41 v1.toInt64 v2.toInt64 (1 : Int64) (v7.toInt64 * v7.toInt64) σ))) (σc := σ) (σ1 := σ) (mi := 169) (vs := [.ref 41, .long v1.toInt64, .long v2.toInt64, .long (1 : Int64), .long (v7.toInt64 * v7.toInt64)]) (k' := 39) (L' := [some (.ref 41), some (.int v1), some (.int v2), some (.int v3), some (.int v4), some (.long v5), none, some (.int v7), d8]) (S' := []) 12 (fun P9 h9 => c_ClassTable_valueAt_41 (d + 0) v1.toInt64 v2.toInt64 (1 : Int64) (v7.toInt64 * v7.toInt64) σ h9) (fun n h => h) ?_
      obtain ⟨x10, hx10, h⟩ := bind_of h
      refine go_call (r := some (.int x10)) (σc := σ) (σ1 := σ) (mi := 137) (vs := [.long (f_ClassTable_valueAt_41 v1.toInt64 v2.toInt64 (1 : Int64) (v7.toInt64 * v7.toInt64) σ), .int v4]) (k' := 41) (L' := [some (.ref 41), some (.int v1), some (.int v2), some (.int v3), some (.int v4), some (.long v5), none, some (.int v7), d8]) (S' := []) 2 (fun P9 h9 => c_Whole_residue (d + 0) (f_ClassTable_valueAt_41 v1.toInt64 v2.toInt64 (1 : Int64) (v7.toInt64 * v7.toInt64) σ) v4 σ hx10 h9) (fun n h => h) ?_
      refine go_iff (lcmp_eq ((lushr v5 x10) &&& (1 : Int64)) (0 : Int64)) (k1 := 52) (L1 := [some (.ref 41), some (.int v1), some (.int v2), some (.int v3), some (.int v4), some (.long v5), none, some (.int v7), some (.int x10)]) (S1 := []) (σ1 := σ) (k2 := 50) (L2 := [some (.ref 41), some (.int v1), some (.int v2), some (.int v3), some (.int v4), some (.long v5), none, some (.int v7), some (.int x10)]) (S2 := []) (σ2 := σ) 9 (fun n h => h) (fun hc11 => ?_) (fun hc11 => ?_)
      · rw [if_pos hc11] at h
        refine go_st (k' := 24) (L' := [some (.ref 41), some (.int v1), some (.int v2), some (.int v3), some (.int v4), some (.long v5), none, some (.int (v7 + (1 : Int32))), some (.int x10)]) (S' := []) (σ' := σ) 2 (fun n h => h) ?_
        exact ih _ v1 v2 v3 v4 v5 (v7 + (1 : Int32)) h
      · rw [if_neg hc11] at h
        cases h
        exact go_ret 2 (fun _ => And.intro (Or.inr rfl) hp)
def f_ClassTable_mayBeBy_41 (N : Nat) (p0 : Int32) (p1 : Int32) (p2 : Int32) (σ : aSt) : Option Bool :=
  (if (6 : Int32) ≤ p2 then some false else (if (6 : Int32) ≤ p2 then some false else (if p2 < (6 : Int32) then (if 0 ≤ p2 ∧ p2 < (6 : Int32) then f_ClassTable_mayBeBy_41_l24 N σ N p0 p1 p2 (σ.1 88 p2.toNatClampNeg) (σ.2.1 90 p2.toNatClampNeg) (0 : Int32) else none) else some false)))
set_option maxRecDepth 20000 in
set_option maxHeartbeats 4000000 in
theorem c_ClassTable_mayBeBy_41 (d : Nat) {N : Nat} (p0 : Int32) (p1 : Int32) (p2 : Int32) (σ : aSt) {P : Option Value → aSt → Prop} {x : Bool} (h : f_ClassTable_mayBeBy_41 N p0 p1 p2 σ = some x) (hp : P (some (.int (b2i x))) σ) : aCall MT (d + 2) 170 [.ref 41, .int p0, .int p1, .int p2] σ P := by
  unfold f_ClassTable_mayBeBy_41 at h
  refine call_of (code := mc_ClassTable_mayBeBy) (L := [some (.ref 41), some (.int p0), some (.int p1), some (.int p2), none, none, none, none, none]) rfl rfl rfl rfl ?_
  refine go_if (c := (6 : Int32) ≤ p2) (k1 := 12) (L1 := [some (.ref 41), some (.int p0), some (.int p1), some (.int p2), none, none, none, none, none]) (S1 := []) (σ1 := σ) (k2 := 4) (L2 := [some (.ref 41), some (.int p0), some (.int p1), some (.int p2), none, none, none, none, none]) (S2 := []) (σ2 := σ) 4 (fun n h => h) (fun hc1 => ?_) (fun hc1 => ?_)
  · rw [if_pos hc1] at h
    cases h
    exact go_ret 2 (fun _ => And.intro (Or.inl rfl) hp)
  · rw [if_neg hc1] at h
    refine go_if (c := (6 : Int32) ≤ p2) (k1 := 12) (L1 := [some (.ref 41), some (.int p0), some (.int p1), some (.int p2), none, none, none, none, none]) (S1 := []) (σ1 := σ) (k2 := 8) (L2 := [some (.ref 41), some (.int p0), some (.int p1), some (.int p2), none, none, none, none, none]) (S2 := []) (σ2 := σ) 4 (fun n h => h) (fun hc2 => ?_) (fun hc2 => ?_)
    · rw [if_pos hc2] at h
      cases h
      exact go_ret 2 (fun _ => And.intro (Or.inl rfl) hp)
    · rw [if_neg hc2] at h
      refine go_if (c := p2 < (6 : Int32)) (k1 := 14) (L1 := [some (.ref 41), some (.int p0), some (.int p1), some (.int p2), none, none, none, none, none]) (S1 := []) (σ1 := σ) (k2 := 12) (L2 := [some (.ref 41), some (.int p0), some (.int p1), some (.int p2), none, none, none, none, none]) (S2 := []) (σ2 := σ) 4 (fun n h => h) (fun hc3 => ?_) (fun hc3 => ?_)
      · rw [if_pos hc3] at h
        obtain ⟨hc4, h⟩ := ite_of h
        refine go_q (Q := inb 0 σ 88 p2) (k' := 17) (L' := [some (.ref 41), some (.int p0), some (.int p1), some (.int p2), none, none, none, none, none]) (S' := [.int (σ.1 88 p2.toNatClampNeg)]) (σ' := σ) 3 (inb_mk rfl hc4.1 hc4.2) (fun n h => h) ?_
        refine go_q (Q := inb 1 σ 90 p2) (k' := 21) (L' := [some (.ref 41), some (.int p0), some (.int p1), some (.int p2), some (.int (σ.1 88 p2.toNatClampNeg)), none, none, none, none]) (S' := [.long (σ.2.1 90 p2.toNatClampNeg)]) (σ' := σ) 4 (inb_mk rfl hc4.1 hc4.2) (fun n h => h) ?_
        refine go_st (k' := 24) (L' := [some (.ref 41), some (.int p0), some (.int p1), some (.int p2), some (.int (σ.1 88 p2.toNatClampNeg)), some (.long (σ.2.1 90 p2.toNatClampNeg)), none, some (.int (0 : Int32)), none]) (S' := []) (σ' := σ) 3 (fun n h => h) ?_
        exact t_ClassTable_mayBeBy_41_l24 d σ hp N _ p0 p1 p2 (σ.1 88 p2.toNatClampNeg) (σ.2.1 90 p2.toNatClampNeg) (0 : Int32) h
      · rw [if_neg hc3] at h
        cases h
        exact go_ret 2 (fun _ => And.intro (Or.inl rfl) hp)
def f_ClassTable_mayBe_41_l30 (N : Nat) (σ : aSt) : Nat → Int32 → Int32 → Int32 → Option Bool
  | 0, _, _, _ => none
  | n + 1, v1, v2, v3 => (if (6 : Int32) ≤ v3 then some true else ((f_ClassTable_mayBeBy_41 N v1 v2 v3 σ).bind fun x3 => (if x3 = true then f_ClassTable_mayBe_41_l30 N σ n v1 v2 (v3 + (1 : Int32)) else some false)))
set_option maxRecDepth 20000 in
set_option maxHeartbeats 4000000 in
theorem t_ClassTable_mayBe_41_l30 (d : Nat) {N : Nat} (σ : aSt) {x : Bool} {P : Option Value → aSt → Prop} (hp : P (some (.int (b2i x))) σ) : ∀ (n : Nat) (v1 : Int32) (v2 : Int32) (v3 : Int32), f_ClassTable_mayBe_41_l30 N σ n v1 v2 v3 = some x → aGo (aCall MT (d + 2)) P mc_ClassTable_mayBe 30 [some (.ref 41), some (.int v1), some (.int v2), some (.int v3)] [] σ := by
  intro n
  induction n with
  | zero => intro v1 v2 v3 h; cases h
  | succ n ih =>
    intro v1 v2 v3 h
    rw [f_ClassTable_mayBe_41_l30] at h
    refine go_if (c := (6 : Int32) ≤ v3) (k1 := 44) (L1 := [some (.ref 41), some (.int v1), some (.int v2), some (.int v3)]) (S1 := []) (σ1 := σ) (k2 := 34) (L2 := [some (.ref 41), some (.int v1), some (.int v2), some (.int v3)]) (S2 := []) (σ2 := σ) 4 (fun n h => h) (fun hc2 => ?_) (fun hc2 => ?_)
    · rw [if_pos hc2] at h
      cases h
      exact go_ret 2 (fun _ => And.intro (Or.inr rfl) hp)
    · rw [if_neg hc2] at h
      obtain ⟨x3, hx3, h⟩ := bind_of h
      refine go_call (r := some (.int (b2i x3))) (σc := σ) (σ1 := σ) (mi := 170) (vs := [.ref 41, .int v1, .int v2, .int v3]) (k' := 39) (L' := [some (.ref 41), some (.int v1), some (.int v2), some (.int v3)]) (S' := []) 5 (fun P9 h9 => c_ClassTable_mayBeBy_41 (d + 0) v1 v2 v3 σ hx3 h9) (fun n h => h) ?_
      refine go_ifn (b := x3) (k1 := 42) (L1 := [some (.ref 41), some (.int v1), some (.int v2), some (.int v3)]) (S1 := []) (σ1 := σ) (k2 := 40) (L2 := [some (.ref 41), some (.int v1), some (.int v2), some (.int v3)]) (S2 := []) (σ2 := σ) 1 (fun n h => h) (fun hc4 => ?_) (fun hc4 => ?_)
      · rw [if_pos hc4] at h
        refine go_st (k' := 30) (L' := [some (.ref 41), some (.int v1), some (.int v2), some (.int (v3 + (1 : Int32)))]) (S' := []) (σ' := σ) 2 (fun n h => h) ?_
        exact ih v1 v2 (v3 + (1 : Int32)) h
      · rw [if_neg hc4] at h
        cases h
        exact go_ret 2 (fun _ => And.intro (Or.inl rfl) hp)
def f_ClassTable_mayBe_41_b28 (N : Nat) (v1 : Int32) (v2 : Int32) (σ : aSt) : Option Bool :=
  f_ClassTable_mayBe_41_l30 N σ N v1 v2 (0 : Int32)
set_option maxRecDepth 20000 in
set_option maxHeartbeats 4000000 in
theorem t_ClassTable_mayBe_41_b28 (d : Nat) {N : Nat} (d3 : Option Value) (v1 : Int32) (v2 : Int32) (σ : aSt) {P : Option Value → aSt → Prop} {x : Bool} (h : f_ClassTable_mayBe_41_b28 N v1 v2 σ = some x) (hp : P (some (.int (b2i x))) σ) : aGo (aCall MT (d + 2)) P mc_ClassTable_mayBe 28 [some (.ref 41), some (.int v1), some (.int v2), d3] [] σ := by
  unfold f_ClassTable_mayBe_41_b28 at h
  refine go_st (k' := 30) (L' := [some (.ref 41), some (.int v1), some (.int v2), some (.int (0 : Int32))]) (S' := []) (σ' := σ) 2 (fun n h => h) ?_
  exact t_ClassTable_mayBe_41_l30 d σ hp N v1 v2 (0 : Int32) h
def f_ClassTable_mayBe_41 (N : Nat) (p0 : Int32) (σ : aSt) : Option Bool :=
  (if 0 ≤ p0 then f_ClassTable_mayBe_41_b28 N p0 (f_Whole_quotient (σ.1 41 9).toInt64 p0.toInt64).toInt32 σ else (if 0 ≤ (f_Whole_quotient (σ.1 41 9).toInt64 p0.toInt64).toInt32 then f_ClassTable_mayBe_41_b28 N p0 (f_Whole_quotient (σ.1 41 9).toInt64 p0.toInt64).toInt32 σ else (if (σ.1 41 8) ≤ 0 then some false else (if 0 < (((σ.1 41 8) * (σ.1 41 8)) - ((4 : Int32) * (σ.1 41 9))) then f_ClassTable_mayBe_41_b28 N p0 (f_Whole_quotient (σ.1 41 9).toInt64 p0.toInt64).toInt32 σ else some false))))
set_option maxRecDepth 20000 in
set_option maxHeartbeats 4000000 in
theorem c_ClassTable_mayBe_41 (d : Nat) {N : Nat} (p0 : Int32) (σ : aSt) {P : Option Value → aSt → Prop} {x : Bool} (h : f_ClassTable_mayBe_41 N p0 σ = some x) (hp : P (some (.int (b2i x))) σ) : aCall MT (d + 3) 171 [.ref 41, .int p0] σ P := by
  unfold f_ClassTable_mayBe_41 at h
  refine call_of (code := mc_ClassTable_mayBe) (L := [some (.ref 41), some (.int p0), none, none]) rfl rfl rfl rfl ?_
  refine go_call (r := some (.long (f_Whole_quotient (σ.1 41 9).toInt64 p0.toInt64))) (σc := σ) (σ1 := σ) (mi := 97) (vs := [.long (σ.1 41 9).toInt64, .long p0.toInt64]) (k' := 6) (L' := [some (.ref 41), some (.int p0), none, none]) (S' := []) 6 (fun P9 h9 => c_Whole_quotient (d + 1) (σ.1 41 9).toInt64 p0.toInt64 σ h9) (fun n h => h) ?_
  refine go_if (c := 0 ≤ p0) (k1 := 28) (L1 := [some (.ref 41), some (.int p0), some (.int (f_Whole_quotient (σ.1 41 9).toInt64 p0.toInt64).toInt32), none]) (S1 := []) (σ1 := σ) (k2 := 10) (L2 := [some (.ref 41), some (.int p0), some (.int (f_Whole_quotient (σ.1 41 9).toInt64 p0.toInt64).toInt32), none]) (S2 := []) (σ2 := σ) 4 (fun n h => h) (fun hc1 => ?_) (fun hc1 => ?_)
  · rw [if_pos hc1] at h
    exact t_ClassTable_mayBe_41_b28 d _ p0 (f_Whole_quotient (σ.1 41 9).toInt64 p0.toInt64).toInt32 σ h hp
  · rw [if_neg hc1] at h
    refine go_if (c := 0 ≤ (f_Whole_quotient (σ.1 41 9).toInt64 p0.toInt64).toInt32) (k1 := 28) (L1 := [some (.ref 41), some (.int p0), some (.int (f_Whole_quotient (σ.1 41 9).toInt64 p0.toInt64).toInt32), none]) (S1 := []) (σ1 := σ) (k2 := 12) (L2 := [some (.ref 41), some (.int p0), some (.int (f_Whole_quotient (σ.1 41 9).toInt64 p0.toInt64).toInt32), none]) (S2 := []) (σ2 := σ) 2 (fun n h => h) (fun hc5 => ?_) (fun hc5 => ?_)
    · rw [if_pos hc5] at h
      exact t_ClassTable_mayBe_41_b28 d _ p0 (f_Whole_quotient (σ.1 41 9).toInt64 p0.toInt64).toInt32 σ h hp
    · rw [if_neg hc5] at h
      refine go_if (c := (σ.1 41 8) ≤ 0) (k1 := 26) (L1 := [some (.ref 41), some (.int p0), some (.int (f_Whole_quotient (σ.1 41 9).toInt64 p0.toInt64).toInt32), none]) (S1 := []) (σ1 := σ) (k2 := 15) (L2 := [some (.ref 41), some (.int p0), some (.int (f_Whole_quotient (σ.1 41 9).toInt64 p0.toInt64).toInt32), none]) (S2 := []) (σ2 := σ) 3 (fun n h => h) (fun hc6 => ?_) (fun hc6 => ?_)
      · rw [if_pos hc6] at h
        cases h
        exact go_ret 2 (fun _ => And.intro (Or.inl rfl) hp)
      · rw [if_neg hc6] at h
        refine go_if (c := 0 < (((σ.1 41 8) * (σ.1 41 8)) - ((4 : Int32) * (σ.1 41 9)))) (k1 := 28) (L1 := [some (.ref 41), some (.int p0), some (.int (f_Whole_quotient (σ.1 41 9).toInt64 p0.toInt64).toInt32), none]) (S1 := []) (σ1 := σ) (k2 := 26) (L2 := [some (.ref 41), some (.int p0), some (.int (f_Whole_quotient (σ.1 41 9).toInt64 p0.toInt64).toInt32), none]) (S2 := []) (σ2 := σ) 11 (fun n h => h) (fun hc7 => ?_) (fun hc7 => ?_)
        · rw [if_pos hc7] at h
          exact t_ClassTable_mayBe_41_b28 d _ p0 (f_Whole_quotient (σ.1 41 9).toInt64 p0.toInt64).toInt32 σ h hp
        · rw [if_neg hc7] at h
          cases h
          exact go_ret 2 (fun _ => And.intro (Or.inl rfl) hp)
def f_ClassTable_tally_41 (p0 : Int32) (σ : aSt) : Int32 :=
  (f_pick σ 48 p0)
set_option maxRecDepth 20000 in
set_option maxHeartbeats 4000000 in
theorem c_ClassTable_tally_41 (d : Nat) (p0 : Int32) (σ : aSt) {P : Option Value → aSt → Prop} (h : P (some (.int ((f_ClassTable_tally_41 p0 σ)))) σ) : aCall MT (d + 2) 172 [.ref 41, .int p0] σ P := by
  unfold f_ClassTable_tally_41 at h
  refine call_of (code := mc_ClassTable_tally) (L := [some (.ref 41), some (.int p0)]) rfl rfl rfl rfl ?_
  refine go_call (r := some (.int (f_pick σ 48 p0))) (σc := σ) (σ1 := σ) (mi := 9) (vs := [.ref 48, .int p0]) (k' := 4) (L' := [some (.ref 41), some (.int p0)]) (S' := []) 4 (fun P9 h9 => c_pick (d + 0) σ 48 rfl p0 h9) (fun n h => h) ?_
  exact go_ret 1 (fun _ => h)
def f_ClassTable_search_41_l19 (N : Nat) (k66 : Int32 → Int32 → Int32 → Int32 → aSt → Option aSt) : Nat → Int32 → Int32 → Int32 → Int32 → Int32 → Int32 → aSt → Option aSt
  | 0, _, _, _, _, _, _, _ => none
  | n + 1, v1, v2, v3, v4, v5, v6, σ => (if (20 : Int32) < v6 then k66 v1 v2 v3 v4 σ else (if (f_ClassTable_valueAt_41 v2.toInt64 v3.toInt64 (v6 * v6).toInt64 v5.toInt64 σ) < (0 : Int64) then f_ClassTable_search_41_l19 N k66 n v1 v2 v3 v4 v5 (v6 + (1 : Int32)) σ else ((f_Whole_rootOf N (f_ClassTable_valueAt_41 v2.toInt64 v3.toInt64 (v6 * v6).toInt64 v5.toInt64 σ)).bind fun x4 => (if x4 < (0 : Int64) then f_ClassTable_search_41_l19 N k66 n v1 v2 v3 v4 v5 (v6 + (1 : Int32)) σ else ((f_Whole_gcd N v6.toInt64 v4.toInt64).bind fun x6 => (if x6 = (1 : Int64) then (lt (f_store σ 45 v1 v6) fun x8 => (lt (f_store x8 46 v1 v4) fun x9 => some x9)) else f_ClassTable_search_41_l19 N k66 n v1 v2 v3 v4 v5 (v6 + (1 : Int32)) σ))))))
set_option maxRecDepth 20000 in
set_option maxHeartbeats 4000000 in
theorem t_ClassTable_search_41_l19 (d : Nat) {N : Nat} (k66 : Int32 → Int32 → Int32 → Int32 → aSt → Option aSt) {x : aSt} {P : Option Value → aSt → Prop} (hp : P none x) (hk66 : ∀ (d5 d6 d7 d8 : Option Value) (v1 : Int32) (v2 : Int32) (v3 : Int32) (v4 : Int32) (σ : aSt), k66 v1 v2 v3 v4 σ = some x → aGo (aCall MT (d + 3)) P mc_ClassTable_search 66 [some (.ref 41), some (.int v1), some (.int v2), some (.int v3), some (.int v4), d5, d6, d7, d8] [] σ) : ∀ (n : Nat) (d7 d8 : Option Value) (v1 : Int32) (v2 : Int32) (v3 : Int32) (v4 : Int32) (v5 : Int32) (v6 : Int32) (σ : aSt), f_ClassTable_search_41_l19 N k66 n v1 v2 v3 v4 v5 v6 σ = some x → aGo (aCall MT (d + 3)) P mc_ClassTable_search 19 [some (.ref 41), some (.int v1), some (.int v2), some (.int v3), some (.int v4), some (.int v5), some (.int v6), d7, d8] [] σ := by
  intro n
  induction n with
  | zero => intro d7 d8 v1 v2 v3 v4 v5 v6 σ h; cases h
  | succ n ih =>
    intro d7 d8 v1 v2 v3 v4 v5 v6 σ h
    rw [f_ClassTable_search_41_l19] at h
    refine go_if (c := (20 : Int32) < v6) (k1 := 66) (L1 := [some (.ref 41), some (.int v1), some (.int v2), some (.int v3), some (.int v4), some (.int v5), some (.int v6), d7, d8]) (S1 := []) (σ1 := σ) (k2 := 22) (L2 := [some (.ref 41), some (.int v1), some (.int v2), some (.int v3), some (.int v4), some (.int v5), some (.int v6), d7, d8]) (S2 := []) (σ2 := σ) 3 (fun n h => h) (fun hc2 => ?_) (fun hc2 => ?_)
    · rw [if_pos hc2] at h
      exact hk66 _ _ _ _ v1 v2 v3 v4 σ h
    · rw [if_neg hc2] at h
      refine go_call (r := some (.long (f_ClassTable_valueAt_41 v2.toInt64 v3.toInt64 (v6 * v6).toInt64 v5.toInt64 σ))) (σc := σ) (σ1 := σ) (mi := 169) (vs := [.ref 41, .long v2.toInt64, .long v3.toInt64, .long (v6 * v6).toInt64, .long v5.toInt64]) (k' := 34) (L' := [some (.ref 41), some (.int v1), some (.int v2), some (.int v3), some (.int v4), some (.int v5), some (.int v6), d7, d8]) (S' := []) 12 (fun P9 h9 => c_ClassTable_valueAt_41 (d + 2) v2.toInt64 v3.toInt64 (v6 * v6).toInt64 v5.toInt64 σ h9) (fun n h => h) ?_
      refine go_iff (lcmp_lt (f_ClassTable_valueAt_41 v2.toInt64 v3.toInt64 (v6 * v6).toInt64 v5.toInt64 σ) (0 : Int64)) (k1 := 64) (L1 := [some (.ref 41), some (.int v1), some (.int v2), some (.int v3), some (.int v4), some (.int v5), some (.int v6), some (.long (f_ClassTable_valueAt_41 v2.toInt64 v3.toInt64 (v6 * v6).toInt64 v5.toInt64 σ)), none]) (S1 := []) (σ1 := σ) (k2 := 39) (L2 := [some (.ref 41), some (.int v1), some (.int v2), some (.int v3), some (.int v4), some (.int v5), some (.int v6), some (.long (f_ClassTable_valueAt_41 v2.toInt64 v3.toInt64 (v6 * v6).toInt64 v5.toInt64 σ)), none]) (S2 := []) (σ2 := σ) 5 (fun n h => h) (fun hc3 => ?_) (fun hc3 => ?_)
      · rw [if_pos hc3] at h
        refine go_st (k' := 19) (L' := [some (.ref 41), some (.int v1), some (.int v2), some (.int v3), some (.int v4), some (.int v5), some (.int (v6 + (1 : Int32))), some (.long (f_ClassTable_valueAt_41 v2.toInt64 v3.toInt64 (v6 * v6).toInt64 v5.toInt64 σ)), none]) (S' := []) (σ' := σ) 2 (fun n h => h) ?_
        exact ih _ _ v1 v2 v3 v4 v5 (v6 + (1 : Int32)) σ h
      · rw [if_neg hc3] at h
        obtain ⟨x4, hx4, h⟩ := bind_of h
        refine go_call (r := some (.long x4)) (σc := σ) (σ1 := σ) (mi := 37) (vs := [.long (f_ClassTable_valueAt_41 v2.toInt64 v3.toInt64 (v6 * v6).toInt64 v5.toInt64 σ)]) (k' := 41) (L' := [some (.ref 41), some (.int v1), some (.int v2), some (.int v3), some (.int v4), some (.int v5), some (.int v6), some (.long (f_ClassTable_valueAt_41 v2.toInt64 v3.toInt64 (v6 * v6).toInt64 v5.toInt64 σ)), none]) (S' := []) 2 (fun P9 h9 => c_Whole_rootOf (d + 0) (f_ClassTable_valueAt_41 v2.toInt64 v3.toInt64 (v6 * v6).toInt64 v5.toInt64 σ) σ hx4 h9) (fun n h => h) ?_
        refine go_iff (lcmp_lt x4 (0 : Int64)) (k1 := 64) (L1 := [some (.ref 41), some (.int v1), some (.int v2), some (.int v3), some (.int v4), some (.int v5), some (.int v6), some (.long (f_ClassTable_valueAt_41 v2.toInt64 v3.toInt64 (v6 * v6).toInt64 v5.toInt64 σ)), none]) (S1 := []) (σ1 := σ) (k2 := 44) (L2 := [some (.ref 41), some (.int v1), some (.int v2), some (.int v3), some (.int v4), some (.int v5), some (.int v6), some (.long (f_ClassTable_valueAt_41 v2.toInt64 v3.toInt64 (v6 * v6).toInt64 v5.toInt64 σ)), none]) (S2 := []) (σ2 := σ) 3 (fun n h => h) (fun hc5 => ?_) (fun hc5 => ?_)
        · rw [if_pos hc5] at h
          refine go_st (k' := 19) (L' := [some (.ref 41), some (.int v1), some (.int v2), some (.int v3), some (.int v4), some (.int v5), some (.int (v6 + (1 : Int32))), some (.long (f_ClassTable_valueAt_41 v2.toInt64 v3.toInt64 (v6 * v6).toInt64 v5.toInt64 σ)), none]) (S' := []) (σ' := σ) 2 (fun n h => h) ?_
          exact ih _ _ v1 v2 v3 v4 v5 (v6 + (1 : Int32)) σ h
        · rw [if_neg hc5] at h
          obtain ⟨x6, hx6, h⟩ := bind_of h
          refine go_call (r := some (.long x6)) (σc := σ) (σ1 := σ) (mi := 38) (vs := [.long v6.toInt64, .long v4.toInt64]) (k' := 49) (L' := [some (.ref 41), some (.int v1), some (.int v2), some (.int v3), some (.int v4), some (.int v5), some (.int v6), some (.long (f_ClassTable_valueAt_41 v2.toInt64 v3.toInt64 (v6 * v6).toInt64 v5.toInt64 σ)), none]) (S' := []) 5 (fun P9 h9 => c_Whole_gcd (d + 2) v6.toInt64 v4.toInt64 σ hx6 h9) (fun n h => h) ?_
          refine go_iff (lcmp_eq x6 (1 : Int64)) (k1 := 53) (L1 := [some (.ref 41), some (.int v1), some (.int v2), some (.int v3), some (.int v4), some (.int v5), some (.int v6), some (.long (f_ClassTable_valueAt_41 v2.toInt64 v3.toInt64 (v6 * v6).toInt64 v5.toInt64 σ)), none]) (S1 := []) (σ1 := σ) (k2 := 52) (L2 := [some (.ref 41), some (.int v1), some (.int v2), some (.int v3), some (.int v4), some (.int v5), some (.int v6), some (.long (f_ClassTable_valueAt_41 v2.toInt64 v3.toInt64 (v6 * v6).toInt64 v5.toInt64 σ)), none]) (S2 := []) (σ2 := σ) 3 (fun n h => h) (fun hc7 => ?_) (fun hc7 => ?_)
          · rw [if_pos hc7] at h
            obtain ⟨x8, hx8, h⟩ := lt_of h
            refine go_call (r := none) (σc := σ) (σ1 := x8) (mi := 1) (vs := [.ref 45, .int v1, .int v6]) (k' := 58) (L' := [some (.ref 41), some (.int v1), some (.int v2), some (.int v3), some (.int v4), some (.int v5), some (.int v6), some (.long (f_ClassTable_valueAt_41 v2.toInt64 v3.toInt64 (v6 * v6).toInt64 v5.toInt64 σ)), none]) (S' := []) 5 (fun P9 h9 => c_store (d + 2) σ 45 rfl rfl v1 v6 (by rw [← hx8]; exact h9)) (fun n h => h) ?_
            obtain ⟨x9, hx9, h⟩ := lt_of h
            refine go_call (r := none) (σc := x8) (σ1 := x9) (mi := 1) (vs := [.ref 46, .int v1, .int v4]) (k' := 63) (L' := [some (.ref 41), some (.int v1), some (.int v2), some (.int v3), some (.int v4), some (.int v5), some (.int v6), some (.long (f_ClassTable_valueAt_41 v2.toInt64 v3.toInt64 (v6 * v6).toInt64 v5.toInt64 σ)), none]) (S' := []) 5 (fun P9 h9 => c_store (d + 2) x8 46 rfl rfl v1 v4 (by rw [← hx9]; exact h9)) (fun n h => h) ?_
            cases h
            exact go_ret 1 (fun _ => hp)
          · rw [if_neg hc7] at h
            refine go_st (k' := 19) (L' := [some (.ref 41), some (.int v1), some (.int v2), some (.int v3), some (.int v4), some (.int v5), some (.int (v6 + (1 : Int32))), some (.long (f_ClassTable_valueAt_41 v2.toInt64 v3.toInt64 (v6 * v6).toInt64 v5.toInt64 σ)), none]) (S' := []) (σ' := σ) 3 (fun n h => h) ?_
            exact ih _ _ v1 v2 v3 v4 v5 (v6 + (1 : Int32)) σ h
def f_ClassTable_search_41_l10 (N : Nat) : Nat → Int32 → Int32 → Int32 → Int32 → aSt → Option aSt
  | 0, _, _, _, _, _ => none
  | n + 1, v1, v2, v3, v4, σ => (if (20 : Int32) < v4 then some σ else f_ClassTable_search_41_l19 N (fun (y10 : Int32) (y11 : Int32) (y12 : Int32) (y13 : Int32) σ14 => f_ClassTable_search_41_l10 N n y10 y11 y12 (y13 + (1 : Int32)) σ14) N v1 v2 v3 v4 (v4 * v4) (0 : Int32) σ)
set_option maxRecDepth 20000 in
set_option maxHeartbeats 4000000 in
theorem t_ClassTable_search_41_l10 (d : Nat) {N : Nat} {x : aSt} {P : Option Value → aSt → Prop} (hp : P none x) : ∀ (n : Nat) (d5 d6 d7 d8 : Option Value) (v1 : Int32) (v2 : Int32) (v3 : Int32) (v4 : Int32) (σ : aSt), f_ClassTable_search_41_l10 N n v1 v2 v3 v4 σ = some x → aGo (aCall MT (d + 3)) P mc_ClassTable_search 10 [some (.ref 41), some (.int v1), some (.int v2), some (.int v3), some (.int v4), d5, d6, d7, d8] [] σ := by
  intro n
  induction n with
  | zero => intro d5 d6 d7 d8 v1 v2 v3 v4 σ h; cases h
  | succ n ih =>
    intro d5 d6 d7 d8 v1 v2 v3 v4 σ h
    rw [f_ClassTable_search_41_l10] at h
    refine go_if (c := (20 : Int32) < v4) (k1 := 68) (L1 := [some (.ref 41), some (.int v1), some (.int v2), some (.int v3), some (.int v4), d5, d6, d7, d8]) (S1 := []) (σ1 := σ) (k2 := 13) (L2 := [some (.ref 41), some (.int v1), some (.int v2), some (.int v3), some (.int v4), d5, d6, d7, d8]) (S2 := []) (σ2 := σ) 3 (fun n h => h) (fun hc1 => ?_) (fun hc1 => ?_)
    · rw [if_pos hc1] at h
      cases h
      exact go_ret 1 (fun _ => hp)
    · rw [if_neg hc1] at h
      refine go_st (k' := 19) (L' := [some (.ref 41), some (.int v1), some (.int v2), some (.int v3), some (.int v4), some (.int (v4 * v4)), some (.int (0 : Int32)), d7, d8]) (S' := []) (σ' := σ) 6 (fun n h => h) ?_
      refine t_ClassTable_search_41_l19 d _ hp (fun d5 d6 d7 d8 y10 y11 y12 y13 σ14 h => ?_) N _ _ v1 v2 v3 v4 (v4 * v4) (0 : Int32) σ h
      · refine go_st (k' := 10) (L' := [some (.ref 41), some (.int y10), some (.int y11), some (.int y12), some (.int (y13 + (1 : Int32))), d5, d6, d7, d8]) (S' := []) (σ' := σ14) 2 (fun n h => h) ?_
        exact ih _ _ _ _ y10 y11 y12 (y13 + (1 : Int32)) σ14 h
def f_ClassTable_search_41 (N : Nat) (p0 : Int32) (p1 : Int32) (σ : aSt) : Option aSt :=
  f_ClassTable_search_41_l10 N N p0 p1 (f_Whole_quotient (σ.1 41 9).toInt64 p1.toInt64).toInt32 (0 : Int32) σ
set_option maxRecDepth 20000 in
set_option maxHeartbeats 4000000 in
theorem c_ClassTable_search_41 (d : Nat) {N : Nat} (p0 : Int32) (p1 : Int32) (σ : aSt) {P : Option Value → aSt → Prop} {x : aSt} (h : f_ClassTable_search_41 N p0 p1 σ = some x) (hp : P none x) : aCall MT (d + 4) 173 [.ref 41, .int p0, .int p1] σ P := by
  unfold f_ClassTable_search_41 at h
  refine call_of (code := mc_ClassTable_search) (L := [some (.ref 41), some (.int p0), some (.int p1), none, none, none, none, none, none]) rfl rfl rfl rfl ?_
  refine go_call (r := some (.long (f_Whole_quotient (σ.1 41 9).toInt64 p1.toInt64))) (σc := σ) (σ1 := σ) (mi := 97) (vs := [.long (σ.1 41 9).toInt64, .long p1.toInt64]) (k' := 6) (L' := [some (.ref 41), some (.int p0), some (.int p1), none, none, none, none, none, none]) (S' := []) 6 (fun P9 h9 => c_Whole_quotient (d + 2) (σ.1 41 9).toInt64 p1.toInt64 σ h9) (fun n h => h) ?_
  refine go_st (k' := 10) (L' := [some (.ref 41), some (.int p0), some (.int p1), some (.int (f_Whole_quotient (σ.1 41 9).toInt64 p1.toInt64).toInt32), some (.int (0 : Int32)), none, none, none, none]) (S' := []) (σ' := σ) 4 (fun n h => h) ?_
  exact t_ClassTable_search_41_l10 d hp N _ _ _ _ p0 p1 (f_Whole_quotient (σ.1 41 9).toInt64 p1.toInt64).toInt32 (0 : Int32) σ h
def f_ClassTable_isFound_41 (p0 : Int32) (σ : aSt) : Bool :=
  (if (f_pick σ 45 p0) < 0 then false else true)
set_option maxRecDepth 20000 in
set_option maxHeartbeats 4000000 in
theorem c_ClassTable_isFound_41 (d : Nat) (p0 : Int32) (σ : aSt) {P : Option Value → aSt → Prop} (h : P (some (.int (b2i ((f_ClassTable_isFound_41 p0 σ))))) σ) : aCall MT (d + 2) 174 [.ref 41, .int p0] σ P := by
  unfold f_ClassTable_isFound_41 at h
  refine call_of (code := mc_ClassTable_isFound) (L := [some (.ref 41), some (.int p0)]) rfl rfl rfl rfl ?_
  refine go_call (r := some (.int (f_pick σ 45 p0))) (σc := σ) (σ1 := σ) (mi := 9) (vs := [.ref 45, .int p0]) (k' := 4) (L' := [some (.ref 41), some (.int p0)]) (S' := []) 4 (fun P9 h9 => c_pick (d + 0) σ 45 rfl p0 h9) (fun n h => h) ?_
  refine go_if (c := (f_pick σ 45 p0) < 0) (k1 := 7) (L1 := [some (.ref 41), some (.int p0)]) (S1 := []) (σ1 := σ) (k2 := 5) (L2 := [some (.ref 41), some (.int p0)]) (S2 := []) (σ2 := σ) 1 (fun n h => h) (fun hc1 => ?_) (fun hc1 => ?_)
  · rw [if_pos hc1] at h
    exact go_ret 2 (fun _ => And.intro (Or.inl rfl) h)
  · rw [if_neg hc1] at h
    exact go_ret 3 (fun _ => And.intro (Or.inr rfl) h)
def f_ClassTable_mask_41 (p0 : Int32) (σ : aSt) : Int32 :=
  (if (irem p0 (2 : Int32)) ≠ 0 then ((f_pick σ 43 (p0 / (2 : Int32))) + (32 : Int32)) else ((f_pick σ 43 (p0 / (2 : Int32))) + (0 : Int32)))
set_option maxRecDepth 20000 in
set_option maxHeartbeats 4000000 in
theorem c_ClassTable_mask_41 (d : Nat) (p0 : Int32) (σ : aSt) {P : Option Value → aSt → Prop} (h : P (some (.int ((f_ClassTable_mask_41 p0 σ)))) σ) : aCall MT (d + 2) 175 [.ref 41, .int p0] σ P := by
  unfold f_ClassTable_mask_41 at h
  refine call_of (code := mc_ClassTable_mask) (L := [some (.ref 41), some (.int p0)]) rfl rfl rfl rfl ?_
  refine go_q (Q := ¬ (2 : Int32) = 0) (k' := 5) (L' := [some (.ref 41), some (.int p0)]) (S' := [.int (p0 / (2 : Int32)), .ref 43]) (σ' := σ) 5 (by decide) (fun n h => h) ?_
  refine go_call (r := some (.int (f_pick σ 43 (p0 / (2 : Int32))))) (σc := σ) (σ1 := σ) (mi := 9) (vs := [.ref 43, .int (p0 / (2 : Int32))]) (k' := 6) (L' := [some (.ref 41), some (.int p0)]) (S' := []) 1 (fun P9 h9 => c_pick (d + 0) σ 43 rfl (p0 / (2 : Int32)) h9) (fun n h => h) ?_
  refine go_q (Q := ¬ (2 : Int32) = 0) (k' := 9) (L' := [some (.ref 41), some (.int p0)]) (S' := [.int (irem p0 (2 : Int32)), .int (f_pick σ 43 (p0 / (2 : Int32)))]) (σ' := σ) 3 (by decide) (fun n h => h) ?_
  refine go_if (c := (irem p0 (2 : Int32)) ≠ 0) (k1 := 12) (L1 := [some (.ref 41), some (.int p0)]) (S1 := [.int (f_pick σ 43 (p0 / (2 : Int32)))]) (σ1 := σ) (k2 := 10) (L2 := [some (.ref 41), some (.int p0)]) (S2 := [.int (f_pick σ 43 (p0 / (2 : Int32)))]) (σ2 := σ) 1 (fun n h => h) (fun hc1 => ?_) (fun hc1 => ?_)
  · rw [if_pos hc1] at h
    exact go_ret 3 (fun _ => h)
  · rw [if_neg hc1] at h
    exact go_ret 4 (fun _ => h)
def f_ClassTable_makeProducts_41_l8 (N : Nat) : Nat → Int32 → Int32 → aSt → Option aSt
  | 0, _, _, _ => none
  | n + 1, v1, v2, σ => (if (64 : Int32) ≤ v2 then some σ else (if (f_pick σ 47 v2) = 0 then f_ClassTable_makeProducts_41_l8 N n v1 (v2 + (1 : Int32)) σ else (lt (f_store σ 47 (v2 ^^^ v1) (1 : Int32)) fun x4 => f_ClassTable_makeProducts_41_l8 N n v1 (v2 + (1 : Int32)) x4)))
set_option maxRecDepth 20000 in
set_option maxHeartbeats 4000000 in
theorem t_ClassTable_makeProducts_41_l8 (d : Nat) {N : Nat} {x : aSt} {P : Option Value → aSt → Prop} (hp : P none x) : ∀ (n : Nat) (v1 : Int32) (v2 : Int32) (σ : aSt), f_ClassTable_makeProducts_41_l8 N n v1 v2 σ = some x → aGo (aCall MT (d + 1)) P mc_ClassTable_makeProducts 8 [some (.ref 41), some (.int v1), some (.int v2)] [] σ := by
  intro n
  induction n with
  | zero => intro v1 v2 σ h; cases h
  | succ n ih =>
    intro v1 v2 σ h
    rw [f_ClassTable_makeProducts_41_l8] at h
    refine go_if (c := (64 : Int32) ≤ v2) (k1 := 25) (L1 := [some (.ref 41), some (.int v1), some (.int v2)]) (S1 := []) (σ1 := σ) (k2 := 11) (L2 := [some (.ref 41), some (.int v1), some (.int v2)]) (S2 := []) (σ2 := σ) 3 (fun n h => h) (fun hc2 => ?_) (fun hc2 => ?_)
    · rw [if_pos hc2] at h
      cases h
      exact go_ret 1 (fun _ => hp)
    · rw [if_neg hc2] at h
      refine go_call (r := some (.int (f_pick σ 47 v2))) (σc := σ) (σ1 := σ) (mi := 9) (vs := [.ref 47, .int v2]) (k' := 15) (L' := [some (.ref 41), some (.int v1), some (.int v2)]) (S' := []) 4 (fun P9 h9 => c_pick (d + 0) σ 47 rfl v2 h9) (fun n h => h) ?_
      refine go_if (c := (f_pick σ 47 v2) = 0) (k1 := 23) (L1 := [some (.ref 41), some (.int v1), some (.int v2)]) (S1 := []) (σ1 := σ) (k2 := 16) (L2 := [some (.ref 41), some (.int v1), some (.int v2)]) (S2 := []) (σ2 := σ) 1 (fun n h => h) (fun hc3 => ?_) (fun hc3 => ?_)
      · rw [if_pos hc3] at h
        refine go_st (k' := 8) (L' := [some (.ref 41), some (.int v1), some (.int (v2 + (1 : Int32)))]) (S' := []) (σ' := σ) 2 (fun n h => h) ?_
        exact ih v1 (v2 + (1 : Int32)) σ h
      · rw [if_neg hc3] at h
        obtain ⟨x4, hx4, h⟩ := lt_of h
        refine go_call (r := none) (σc := σ) (σ1 := x4) (mi := 1) (vs := [.ref 47, .int (v2 ^^^ v1), .int (1 : Int32)]) (k' := 23) (L' := [some (.ref 41), some (.int v1), some (.int v2)]) (S' := []) 7 (fun P9 h9 => c_store (d + 0) σ 47 rfl rfl (v2 ^^^ v1) (1 : Int32) (by rw [← hx4]; exact h9)) (fun n h => h) ?_
        refine go_st (k' := 8) (L' := [some (.ref 41), some (.int v1), some (.int (v2 + (1 : Int32)))]) (S' := []) (σ' := x4) 2 (fun n h => h) ?_
        exact ih v1 (v2 + (1 : Int32)) x4 h
def f_ClassTable_makeProducts_41 (N : Nat) (p0 : Int32) (σ : aSt) : Option aSt :=
  (if (f_pick σ 47 p0) = 0 then f_ClassTable_makeProducts_41_l8 N N p0 (0 : Int32) σ else some σ)
set_option maxRecDepth 20000 in
set_option maxHeartbeats 4000000 in
theorem c_ClassTable_makeProducts_41 (d : Nat) {N : Nat} (p0 : Int32) (σ : aSt) {P : Option Value → aSt → Prop} {x : aSt} (h : f_ClassTable_makeProducts_41 N p0 σ = some x) (hp : P none x) : aCall MT (d + 2) 176 [.ref 41, .int p0] σ P := by
  unfold f_ClassTable_makeProducts_41 at h
  refine call_of (code := mc_ClassTable_makeProducts) (L := [some (.ref 41), some (.int p0), none]) rfl rfl rfl rfl ?_
  refine go_call (r := some (.int (f_pick σ 47 p0))) (σc := σ) (σ1 := σ) (mi := 9) (vs := [.ref 47, .int p0]) (k' := 4) (L' := [some (.ref 41), some (.int p0), none]) (S' := []) 4 (fun P9 h9 => c_pick (d + 0) σ 47 rfl p0 h9) (fun n h => h) ?_
  refine go_if (c := (f_pick σ 47 p0) = 0) (k1 := 6) (L1 := [some (.ref 41), some (.int p0), none]) (S1 := []) (σ1 := σ) (k2 := 5) (L2 := [some (.ref 41), some (.int p0), none]) (S2 := []) (σ2 := σ) 1 (fun n h => h) (fun hc1 => ?_) (fun hc1 => ?_)
  · rw [if_pos hc1] at h
    refine go_st (k' := 8) (L' := [some (.ref 41), some (.int p0), some (.int (0 : Int32))]) (S' := []) (σ' := σ) 2 (fun n h => h) ?_
    exact t_ClassTable_makeProducts_41_l8 d hp N p0 (0 : Int32) σ h
  · rw [if_neg hc1] at h
    cases h
    exact go_ret 1 (fun _ => hp)
def f_ClassTable_judge_41_b16 (N : Nat) (v1 : Int32) (v2 : Int32) (v3 : Bool) (s1 : Int32) (s2 : Int32) (σ : aSt) : Option aSt :=
  (lt (f_store σ 44 s1 s2) fun x3 => (lt (f_store x3 45 v1 (-1 : Int32)) fun x4 => (if v3 = true then (lt (f_store x4 48 (2 : Int32) ((f_ClassTable_tally_41 (2 : Int32) x4) + (1 : Int32))) fun x6 => ((f_ClassTable_search_41 N v1 v2 x6).bind fun x7 => (if (f_ClassTable_isFound_41 v1 x7) = true then (lt (f_store x7 48 (1 : Int32) ((f_ClassTable_tally_41 (1 : Int32) x7) + (1 : Int32))) fun x9 => ((f_ClassTable_makeProducts_41 N (f_ClassTable_mask_41 v1 x9) x9).bind fun x10 => some x10)) else some x7))) else some x4)))
set_option maxRecDepth 20000 in
set_option maxHeartbeats 4000000 in
theorem t_ClassTable_judge_41_b16 (d : Nat) {N : Nat} (v1 : Int32) (v2 : Int32) (v3 : Bool) (s1 : Int32) (s2 : Int32) (σ : aSt) {P : Option Value → aSt → Prop} {x : aSt} (h : f_ClassTable_judge_41_b16 N v1 v2 v3 s1 s2 σ = some x) (hp : P none x) : aGo (aCall MT (d + 4)) P mc_ClassTable_judge 16 [some (.ref 41), some (.int v1), some (.int v2), some (.int (b2i v3))] [.int s2, .int s1, .ref 44] σ := by
  unfold f_ClassTable_judge_41_b16 at h
  obtain ⟨x3, hx3, h⟩ := lt_of h
  refine go_call (r := none) (σc := σ) (σ1 := x3) (mi := 1) (vs := [.ref 44, .int s1, .int s2]) (k' := 17) (L' := [some (.ref 41), some (.int v1), some (.int v2), some (.int (b2i v3))]) (S' := []) 1 (fun P9 h9 => c_store (d + 3) σ 44 rfl rfl s1 s2 (by rw [← hx3]; exact h9)) (fun n h => h) ?_
  obtain ⟨x4, hx4, h⟩ := lt_of h
  refine go_call (r := none) (σc := x3) (σ1 := x4) (mi := 1) (vs := [.ref 45, .int v1, .int (-1 : Int32)]) (k' := 22) (L' := [some (.ref 41), some (.int v1), some (.int v2), some (.int (b2i v3))]) (S' := []) 5 (fun P9 h9 => c_store (d + 3) x3 45 rfl rfl v1 (-1 : Int32) (by rw [← hx4]; exact h9)) (fun n h => h) ?_
  refine go_ifn (b := v3) (k1 := 25) (L1 := [some (.ref 41), some (.int v1), some (.int v2), some (.int (b2i v3))]) (S1 := []) (σ1 := x4) (k2 := 24) (L2 := [some (.ref 41), some (.int v1), some (.int v2), some (.int (b2i v3))]) (S2 := []) (σ2 := x4) 2 (fun n h => h) (fun hc5 => ?_) (fun hc5 => ?_)
  · rw [if_pos hc5] at h
    refine go_call (r := some (.int (f_ClassTable_tally_41 (2 : Int32) x4))) (σc := x4) (σ1 := x4) (mi := 172) (vs := [.ref 41, .int (2 : Int32)]) (k' := 31) (L' := [some (.ref 41), some (.int v1), some (.int v2), some (.int (b2i v3))]) (S' := [.int (2 : Int32), .ref 48]) 6 (fun P9 h9 => c_ClassTable_tally_41 (d + 2) (2 : Int32) x4 h9) (fun n h => h) ?_
    obtain ⟨x6, hx6, h⟩ := lt_of h
    refine go_call (r := none) (σc := x4) (σ1 := x6) (mi := 1) (vs := [.ref 48, .int (2 : Int32), .int ((f_ClassTable_tally_41 (2 : Int32) x4) + (1 : Int32))]) (k' := 34) (L' := [some (.ref 41), some (.int v1), some (.int v2), some (.int (b2i v3))]) (S' := []) 3 (fun P9 h9 => c_store (d + 3) x4 48 rfl rfl (2 : Int32) ((f_ClassTable_tally_41 (2 : Int32) x4) + (1 : Int32)) (by rw [← hx6]; exact h9)) (fun n h => h) ?_
    obtain ⟨x7, hx7, h⟩ := bind_of h
    refine go_call (r := none) (σc := x6) (σ1 := x7) (mi := 173) (vs := [.ref 41, .int v1, .int v2]) (k' := 38) (L' := [some (.ref 41), some (.int v1), some (.int v2), some (.int (b2i v3))]) (S' := []) 4 (fun P9 h9 => c_ClassTable_search_41 (d + 0) v1 v2 x6 hx7 h9) (fun n h => h) ?_
    refine go_call (r := some (.int (b2i (f_ClassTable_isFound_41 v1 x7)))) (σc := x7) (σ1 := x7) (mi := 174) (vs := [.ref 41, .int v1]) (k' := 41) (L' := [some (.ref 41), some (.int v1), some (.int v2), some (.int (b2i v3))]) (S' := []) 3 (fun P9 h9 => c_ClassTable_isFound_41 (d + 2) v1 x7 h9) (fun n h => h) ?_
    refine go_ifn (b := (f_ClassTable_isFound_41 v1 x7)) (k1 := 43) (L1 := [some (.ref 41), some (.int v1), some (.int v2), some (.int (b2i v3))]) (S1 := []) (σ1 := x7) (k2 := 42) (L2 := [some (.ref 41), some (.int v1), some (.int v2), some (.int (b2i v3))]) (S2 := []) (σ2 := x7) 1 (fun n h => h) (fun hc8 => ?_) (fun hc8 => ?_)
    · rw [if_pos hc8] at h
      refine go_call (r := some (.int (f_ClassTable_tally_41 (1 : Int32) x7))) (σc := x7) (σ1 := x7) (mi := 172) (vs := [.ref 41, .int (1 : Int32)]) (k' := 49) (L' := [some (.ref 41), some (.int v1), some (.int v2), some (.int (b2i v3))]) (S' := [.int (1 : Int32), .ref 48]) 6 (fun P9 h9 => c_ClassTable_tally_41 (d + 2) (1 : Int32) x7 h9) (fun n h => h) ?_
      obtain ⟨x9, hx9, h⟩ := lt_of h
      refine go_call (r := none) (σc := x7) (σ1 := x9) (mi := 1) (vs := [.ref 48, .int (1 : Int32), .int ((f_ClassTable_tally_41 (1 : Int32) x7) + (1 : Int32))]) (k' := 52) (L' := [some (.ref 41), some (.int v1), some (.int v2), some (.int (b2i v3))]) (S' := []) 3 (fun P9 h9 => c_store (d + 3) x7 48 rfl rfl (1 : Int32) ((f_ClassTable_tally_41 (1 : Int32) x7) + (1 : Int32)) (by rw [← hx9]; exact h9)) (fun n h => h) ?_
      refine go_call (r := some (.int (f_ClassTable_mask_41 v1 x9))) (σc := x9) (σ1 := x9) (mi := 175) (vs := [.ref 41, .int v1]) (k' := 56) (L' := [some (.ref 41), some (.int v1), some (.int v2), some (.int (b2i v3))]) (S' := [.ref 41]) 4 (fun P9 h9 => c_ClassTable_mask_41 (d + 2) v1 x9 h9) (fun n h => h) ?_
      obtain ⟨x10, hx10, h⟩ := bind_of h
      refine go_call (r := none) (σc := x9) (σ1 := x10) (mi := 176) (vs := [.ref 41, .int (f_ClassTable_mask_41 v1 x9)]) (k' := 57) (L' := [some (.ref 41), some (.int v1), some (.int v2), some (.int (b2i v3))]) (S' := []) 1 (fun P9 h9 => c_ClassTable_makeProducts_41 (d + 2) (f_ClassTable_mask_41 v1 x9) x9 hx10 h9) (fun n h => h) ?_
      cases h
      exact go_ret 1 (fun _ => hp)
    · rw [if_neg hc8] at h
      cases h
      exact go_ret 1 (fun _ => hp)
  · rw [if_neg hc5] at h
    cases h
    exact go_ret 1 (fun _ => hp)
def f_ClassTable_judge_41 (N : Nat) (p0 : Int32) (σ : aSt) : Option aSt :=
  ((f_ClassTable_mayBe_41 N (f_ClassTable_divisor_41 p0 σ) σ).bind fun x1 => (if x1 = true then f_ClassTable_judge_41_b16 N p0 (f_ClassTable_divisor_41 p0 σ) x1 p0 (1 : Int32) σ else f_ClassTable_judge_41_b16 N p0 (f_ClassTable_divisor_41 p0 σ) x1 p0 (0 : Int32) σ))
set_option maxRecDepth 20000 in
set_option maxHeartbeats 4000000 in
theorem c_ClassTable_judge_41 (d : Nat) {N : Nat} (p0 : Int32) (σ : aSt) {P : Option Value → aSt → Prop} {x : aSt} (h : f_ClassTable_judge_41 N p0 σ = some x) (hp : P none x) : aCall MT (d + 5) 177 [.ref 41, .int p0] σ P := by
  unfold f_ClassTable_judge_41 at h
  refine call_of (code := mc_ClassTable_judge) (L := [some (.ref 41), some (.int p0), none, none]) rfl rfl rfl rfl ?_
  refine go_call (r := some (.int (f_ClassTable_divisor_41 p0 σ))) (σc := σ) (σ1 := σ) (mi := 168) (vs := [.ref 41, .int p0]) (k' := 3) (L' := [some (.ref 41), some (.int p0), none, none]) (S' := []) 3 (fun P9 h9 => c_ClassTable_divisor_41 (d + 2) p0 σ h9) (fun n h => h) ?_
  obtain ⟨x1, hx1, h⟩ := bind_of h
  refine go_call (r := some (.int (b2i x1))) (σc := σ) (σ1 := σ) (mi := 171) (vs := [.ref 41, .int (f_ClassTable_divisor_41 p0 σ)]) (k' := 7) (L' := [some (.ref 41), some (.int p0), some (.int (f_ClassTable_divisor_41 p0 σ)), none]) (S' := []) 4 (fun P9 h9 => c_ClassTable_mayBe_41 (d + 1) (f_ClassTable_divisor_41 p0 σ) σ hx1 h9) (fun n h => h) ?_
  refine go_ifz (b := x1) (k1 := 15) (L1 := [some (.ref 41), some (.int p0), some (.int (f_ClassTable_divisor_41 p0 σ)), some (.int (b2i x1))]) (S1 := [.int p0, .ref 44]) (σ1 := σ) (k2 := 13) (L2 := [some (.ref 41), some (.int p0), some (.int (f_ClassTable_divisor_41 p0 σ)), some (.int (b2i x1))]) (S2 := [.int p0, .ref 44]) (σ2 := σ) 6 (fun n h => h) (fun hc2 => ?_) (fun hc2 => ?_)
  · rw [if_neg hc2] at h
    refine go_st (k' := 16) (L' := [some (.ref 41), some (.int p0), some (.int (f_ClassTable_divisor_41 p0 σ)), some (.int (b2i x1))]) (S' := [.int (0 : Int32), .int p0, .ref 44]) (σ' := σ) 1 (fun n h => h) ?_
    exact t_ClassTable_judge_41_b16 d p0 (f_ClassTable_divisor_41 p0 σ) x1 p0 (0 : Int32) σ h hp
  · rw [if_pos hc2] at h
    refine go_st (k' := 16) (L' := [some (.ref 41), some (.int p0), some (.int (f_ClassTable_divisor_41 p0 σ)), some (.int (b2i x1))]) (S' := [.int (1 : Int32), .int p0, .ref 44]) (σ' := σ) 2 (fun n h => h) ?_
    exact t_ClassTable_judge_41_b16 d p0 (f_ClassTable_divisor_41 p0 σ) x1 p0 (1 : Int32) σ h hp
def f_ClassTable_prepare_41_l51 (N : Nat) : Nat → Int32 → Int32 → Int32 → aSt → Option aSt
  | 0, _, _, _, _ => none
  | n + 1, v3, v5, v6, σ => (if v5 ≤ v6 then (lt (f_store σ 48 (0 : Int32) (f_ClassTable_size_41 σ)) fun x8 => (lt (f_store x8 48 (3 : Int32) v3) fun x9 => some x9)) else (if 0 ≤ v6 ∧ v6 < (64 : Int32) then f_ClassTable_prepare_41_l51 N n (v3 + (σ.1 47 v6.toNatClampNeg)) v5 (v6 + (1 : Int32)) σ else none))
set_option maxRecDepth 20000 in
set_option maxHeartbeats 4000000 in
theorem t_ClassTable_prepare_41_l51 (d : Nat) {N : Nat} {x : aSt} {P : Option Value → aSt → Prop} (hp : P none x) : ∀ (n : Nat) (d1 d2 d7 : Option Value) (v3 : Int32) (v5 : Int32) (v6 : Int32) (σ : aSt), f_ClassTable_prepare_41_l51 N n v3 v5 v6 σ = some x → aGo (aCall MT (d + 5)) P mc_ClassTable_prepare 51 [some (.ref 41), d1, d2, some (.int v3), some (.ref 47), some (.int v5), some (.int v6), d7] [] σ := by
  intro n
  induction n with
  | zero => intro d1 d2 d7 v3 v5 v6 σ h; cases h
  | succ n ih =>
    intro d1 d2 d7 v3 v5 v6 σ h
    rw [f_ClassTable_prepare_41_l51] at h
    refine go_if (c := v5 ≤ v6) (k1 := 64) (L1 := [some (.ref 41), d1, d2, some (.int v3), some (.ref 47), some (.int v5), some (.int v6), d7]) (S1 := []) (σ1 := σ) (k2 := 54) (L2 := [some (.ref 41), d1, d2, some (.int v3), some (.ref 47), some (.int v5), some (.int v6), d7]) (S2 := []) (σ2 := σ) 3 (fun n h => h) (fun hc7 => ?_) (fun hc7 => ?_)
    · rw [if_pos hc7] at h
      refine go_call (r := some (.int (f_ClassTable_size_41 σ))) (σc := σ) (σ1 := σ) (mi := 167) (vs := [.ref 41]) (k' := 69) (L' := [some (.ref 41), d1, d2, some (.int v3), some (.ref 47), some (.int v5), some (.int v6), d7]) (S' := [.int (0 : Int32), .ref 48]) 5 (fun P9 h9 => c_ClassTable_size_41 (d + 4) σ h9) (fun n h => h) ?_
      obtain ⟨x8, hx8, h⟩ := lt_of h
      refine go_call (r := none) (σc := σ) (σ1 := x8) (mi := 1) (vs := [.ref 48, .int (0 : Int32), .int (f_ClassTable_size_41 σ)]) (k' := 70) (L' := [some (.ref 41), d1, d2, some (.int v3), some (.ref 47), some (.int v5), some (.int v6), d7]) (S' := []) 1 (fun P9 h9 => c_store (d + 4) σ 48 rfl rfl (0 : Int32) (f_ClassTable_size_41 σ) (by rw [← hx8]; exact h9)) (fun n h => h) ?_
      obtain ⟨x9, hx9, h⟩ := lt_of h
      refine go_call (r := none) (σc := x8) (σ1 := x9) (mi := 1) (vs := [.ref 48, .int (3 : Int32), .int v3]) (k' := 75) (L' := [some (.ref 41), d1, d2, some (.int v3), some (.ref 47), some (.int v5), some (.int v6), d7]) (S' := []) 5 (fun P9 h9 => c_store (d + 4) x8 48 rfl rfl (3 : Int32) v3 (by rw [← hx9]; exact h9)) (fun n h => h) ?_
      cases h
      exact go_ret 1 (fun _ => hp)
    · rw [if_neg hc7] at h
      obtain ⟨hc10, h⟩ := ite_of h
      refine go_q (Q := inb 0 σ 47 v6) (k' := 57) (L' := [some (.ref 41), d1, d2, some (.int v3), some (.ref 47), some (.int v5), some (.int v6), d7]) (S' := [.int (σ.1 47 v6.toNatClampNeg)]) (σ' := σ) 3 (inb_mk rfl hc10.1 hc10.2) (fun n h => h) ?_
      refine go_st (k' := 51) (L' := [some (.ref 41), d1, none, some (.int (v3 + (σ.1 47 v6.toNatClampNeg))), some (.ref 47), some (.int v5), some (.int (v6 + (1 : Int32))), some (.int (σ.1 47 v6.toNatClampNeg))]) (S' := []) (σ' := σ) 7 (fun n h => h) ?_
      exact ih _ _ _ (v3 + (σ.1 47 v6.toNatClampNeg)) v5 (v6 + (1 : Int32)) σ h
def f_ClassTable_prepare_41_l32 (N : Nat) : Nat → Int32 → aSt → Option aSt
  | 0, _, _ => none
  | n + 1, v3, σ => (if (f_ClassTable_size_41 σ) ≤ v3 then f_ClassTable_prepare_41_l51 N N (0 : Int32) (64 : Int32) (0 : Int32) σ else ((f_ClassTable_judge_41 N v3 σ).bind fun x11 => f_ClassTable_prepare_41_l32 N n (v3 + (1 : Int32)) x11))
set_option maxRecDepth 20000 in
set_option maxHeartbeats 4000000 in
theorem t_ClassTable_prepare_41_l32 (d : Nat) {N : Nat} {x : aSt} {P : Option Value → aSt → Prop} (hp : P none x) : ∀ (n : Nat) (d1 d2 d4 d5 d6 d7 : Option Value) (v3 : Int32) (σ : aSt), f_ClassTable_prepare_41_l32 N n v3 σ = some x → aGo (aCall MT (d + 5)) P mc_ClassTable_prepare 32 [some (.ref 41), d1, d2, some (.int v3), d4, d5, d6, d7] [] σ := by
  intro n
  induction n with
  | zero => intro d1 d2 d4 d5 d6 d7 v3 σ h; cases h
  | succ n ih =>
    intro d1 d2 d4 d5 d6 d7 v3 σ h
    rw [f_ClassTable_prepare_41_l32] at h
    refine go_call (r := some (.int (f_ClassTable_size_41 σ))) (σc := σ) (σ1 := σ) (mi := 167) (vs := [.ref 41]) (k' := 35) (L' := [some (.ref 41), d1, d2, some (.int v3), d4, d5, d6, d7]) (S' := [.int v3]) 3 (fun P9 h9 => c_ClassTable_size_41 (d + 4) σ h9) (fun n h => h) ?_
    refine go_if (c := (f_ClassTable_size_41 σ) ≤ v3) (k1 := 41) (L1 := [some (.ref 41), d1, d2, some (.int v3), d4, d5, d6, d7]) (S1 := []) (σ1 := σ) (k2 := 36) (L2 := [some (.ref 41), d1, d2, some (.int v3), d4, d5, d6, d7]) (S2 := []) (σ2 := σ) 1 (fun n h => h) (fun hc6 => ?_) (fun hc6 => ?_)
    · rw [if_pos hc6] at h
      refine go_st (k' := 51) (L' := [some (.ref 41), d1, none, some (.int (0 : Int32)), some (.ref 47), some (.int (64 : Int32)), some (.int (0 : Int32)), d7]) (S' := []) (σ' := σ) 10 (fun n h => h) ?_
      exact t_ClassTable_prepare_41_l51 d hp N _ _ _ (0 : Int32) (64 : Int32) (0 : Int32) σ h
    · rw [if_neg hc6] at h
      obtain ⟨x11, hx11, h⟩ := bind_of h
      refine go_call (r := none) (σc := σ) (σ1 := x11) (mi := 177) (vs := [.ref 41, .int v3]) (k' := 39) (L' := [some (.ref 41), d1, d2, some (.int v3), d4, d5, d6, d7]) (S' := []) 3 (fun P9 h9 => c_ClassTable_judge_41 (d + 0) v3 σ hx11 h9) (fun n h => h) ?_
      refine go_st (k' := 32) (L' := [some (.ref 41), d1, d2, some (.int (v3 + (1 : Int32))), d4, d5, d6, d7]) (S' := []) (σ' := x11) 2 (fun n h => h) ?_
      exact ih _ _ _ _ _ _ (v3 + (1 : Int32)) x11 h
def f_ClassTable_prepare_41_b9 (N : Nat) (v1 : Int32) (v2 : Int32) (σ : aSt) : Option aSt :=
  ((f_ClassTable_gatherDivisors_41 N (s_i (s_i σ 41 8 v1) 41 9 v2)).bind fun x2 => (lt (f_fill x2 48 (0 : Int32)) fun x3 => (lt (f_fill x3 47 (0 : Int32)) fun x4 => (lt (f_store x4 47 (0 : Int32) (1 : Int32)) fun x5 => f_ClassTable_prepare_41_l32 N N (0 : Int32) x5))))
set_option maxRecDepth 20000 in
set_option maxHeartbeats 4000000 in
theorem t_ClassTable_prepare_41_b9 (d : Nat) {N : Nat} (d3 d4 d5 d6 d7 : Option Value) (v1 : Int32) (v2 : Int32) (σ : aSt) {P : Option Value → aSt → Prop} {x : aSt} (h : f_ClassTable_prepare_41_b9 N v1 v2 σ = some x) (hp : P none x) : aGo (aCall MT (d + 5)) P mc_ClassTable_prepare 9 [some (.ref 41), some (.int v1), some (.int v2), d3, d4, d5, d6, d7] [] σ := by
  unfold f_ClassTable_prepare_41_b9 at h
  obtain ⟨x2, hx2, h⟩ := bind_of h
  refine go_call (r := none) (σc := (s_i (s_i σ 41 8 v1) 41 9 v2)) (σ1 := x2) (mi := 166) (vs := [.ref 41]) (k' := 17) (L' := [some (.ref 41), some (.int v1), some (.int v2), d3, d4, d5, d6, d7]) (S' := []) 8 (fun P9 h9 => c_ClassTable_gatherDivisors_41 (d + 1) (s_i (s_i σ 41 8 v1) 41 9 v2) hx2 h9) (fun n h => h) ?_
  obtain ⟨x3, hx3, h⟩ := lt_of h
  refine go_call (r := none) (σc := x2) (σ1 := x3) (mi := 28) (vs := [.ref 48, .int (0 : Int32)]) (k' := 21) (L' := [some (.ref 41), some (.int v1), some (.int v2), d3, d4, d5, d6, d7]) (S' := []) 4 (fun P9 h9 => c_fill (d + 4) x2 48 rfl rfl (0 : Int32) (by rw [← hx3]; exact h9)) (fun n h => h) ?_
  obtain ⟨x4, hx4, h⟩ := lt_of h
  refine go_call (r := none) (σc := x3) (σ1 := x4) (mi := 28) (vs := [.ref 47, .int (0 : Int32)]) (k' := 25) (L' := [some (.ref 41), some (.int v1), some (.int v2), d3, d4, d5, d6, d7]) (S' := []) 4 (fun P9 h9 => c_fill (d + 4) x3 47 rfl rfl (0 : Int32) (by rw [← hx4]; exact h9)) (fun n h => h) ?_
  obtain ⟨x5, hx5, h⟩ := lt_of h
  refine go_call (r := none) (σc := x4) (σ1 := x5) (mi := 1) (vs := [.ref 47, .int (0 : Int32), .int (1 : Int32)]) (k' := 30) (L' := [some (.ref 41), some (.int v1), some (.int v2), d3, d4, d5, d6, d7]) (S' := []) 5 (fun P9 h9 => c_store (d + 4) x4 47 rfl rfl (0 : Int32) (1 : Int32) (by rw [← hx5]; exact h9)) (fun n h => h) ?_
  refine go_st (k' := 32) (L' := [some (.ref 41), some (.int v1), none, some (.int (0 : Int32)), d4, d5, d6, d7]) (S' := []) (σ' := x5) 2 (fun n h => h) ?_
  exact t_ClassTable_prepare_41_l32 d hp N _ _ _ _ _ _ (0 : Int32) x5 h
def f_ClassTable_prepare_41 (N : Nat) (p0 : Int32) (p1 : Int32) (σ : aSt) : Option aSt :=
  (if p0 ≠ (σ.1 41 8) then f_ClassTable_prepare_41_b9 N p0 p1 σ else (if p1 ≠ (σ.1 41 9) then f_ClassTable_prepare_41_b9 N p0 p1 σ else some σ))
set_option maxRecDepth 20000 in
set_option maxHeartbeats 4000000 in
theorem c_ClassTable_prepare_41 (d : Nat) {N : Nat} (p0 : Int32) (p1 : Int32) (σ : aSt) {P : Option Value → aSt → Prop} {x : aSt} (h : f_ClassTable_prepare_41 N p0 p1 σ = some x) (hp : P none x) : aCall MT (d + 6) 178 [.ref 41, .int p0, .int p1] σ P := by
  unfold f_ClassTable_prepare_41 at h
  refine call_of (code := mc_ClassTable_prepare) (L := [some (.ref 41), some (.int p0), some (.int p1), none, none, none, none, none]) rfl rfl rfl rfl ?_
  refine go_if (c := p0 ≠ (σ.1 41 8)) (k1 := 9) (L1 := [some (.ref 41), some (.int p0), some (.int p1), none, none, none, none, none]) (S1 := []) (σ1 := σ) (k2 := 4) (L2 := [some (.ref 41), some (.int p0), some (.int p1), none, none, none, none, none]) (S2 := []) (σ2 := σ) 4 (fun n h => h) (fun hc1 => ?_) (fun hc1 => ?_)
  · rw [if_pos hc1] at h
    exact t_ClassTable_prepare_41_b9 d _ _ _ _ _ p0 p1 σ h hp
  · rw [if_neg hc1] at h
    refine go_if (c := p1 ≠ (σ.1 41 9)) (k1 := 9) (L1 := [some (.ref 41), some (.int p0), some (.int p1), none, none, none, none, none]) (S1 := []) (σ1 := σ) (k2 := 8) (L2 := [some (.ref 41), some (.int p0), some (.int p1), none, none, none, none, none]) (S2 := []) (σ2 := σ) 4 (fun n h => h) (fun hc12 => ?_) (fun hc12 => ?_)
    · rw [if_pos hc12] at h
      exact t_ClassTable_prepare_41_b9 d _ _ _ _ _ p0 p1 σ h hp
    · rw [if_neg hc12] at h
      cases h
      exact go_ret 1 (fun _ => hp)
def f_X_side (N : Nat) (p0 : Int32) (σ : aSt) : Option (Nat × aSt) :=
  (if p0 ≠ 0 then ((f_ClassTable_prepare_49 N ((-2 : Int32) * (f_PointList_a_11 σ)) (f_X_besideB σ) σ).bind fun x2 => some (49, x2)) else ((f_ClassTable_prepare_41 N (f_PointList_a_11 σ) (f_PointList_b_11 σ) σ).bind fun x3 => some (41, x3)))
set_option maxRecDepth 20000 in
set_option maxHeartbeats 4000000 in
theorem c_X_side (d : Nat) {N : Nat} (p0 : Int32) (σ : aSt) {P : Option Value → aSt → Prop} {x : (Nat × aSt)} (h : f_X_side N p0 σ = some x) (hp : P (some (.ref x.1)) x.2) : aCall MT (d + 7) 179 [.ref 0, .int p0] σ P := by
  unfold f_X_side at h
  refine call_of (code := mc_X_side) (L := [some (.ref 0), some (.int p0)]) rfl rfl rfl rfl ?_
  refine go_if (c := p0 ≠ 0) (k1 := 14) (L1 := [some (.ref 0), some (.int p0)]) (S1 := []) (σ1 := σ) (k2 := 2) (L2 := [some (.ref 0), some (.int p0)]) (S2 := []) (σ2 := σ) 2 (fun n h => h) (fun hc1 => ?_) (fun hc1 => ?_)
  · rw [if_pos hc1] at h
    refine go_call (r := some (.int (f_PointList_a_11 σ))) (σc := σ) (σ1 := σ) (mi := 26) (vs := [.ref 11]) (k' := 20) (L' := [some (.ref 0), some (.int p0)]) (S' := [.int (-2 : Int32), .ref 49]) 6 (fun P9 h9 => c_PointList_a_11 (d + 5) σ h9) (fun n h => h) ?_
    refine go_call (r := some (.int (f_X_besideB σ))) (σc := σ) (σ1 := σ) (mi := 138) (vs := [.ref 0]) (k' := 23) (L' := [some (.ref 0), some (.int p0)]) (S' := [.int ((-2 : Int32) * (f_PointList_a_11 σ)), .ref 49]) 3 (fun P9 h9 => c_X_besideB (d + 4) σ h9) (fun n h => h) ?_
    obtain ⟨x2, hx2, h⟩ := bind_of h
    refine go_call (r := none) (σc := σ) (σ1 := x2) (mi := 178) (vs := [.ref 49, .int ((-2 : Int32) * (f_PointList_a_11 σ)), .int (f_X_besideB σ)]) (k' := 24) (L' := [some (.ref 0), some (.int p0)]) (S' := []) 1 (fun P9 h9 => c_ClassTable_prepare_49 (d + 0) ((-2 : Int32) * (f_PointList_a_11 σ)) (f_X_besideB σ) σ hx2 h9) (fun n h => h) ?_
    cases h
    exact go_ret 3 (fun _ => hp)
  · rw [if_neg hc1] at h
    refine go_call (r := some (.int (f_PointList_a_11 σ))) (σc := σ) (σ1 := σ) (mi := 26) (vs := [.ref 11]) (k' := 7) (L' := [some (.ref 0), some (.int p0)]) (S' := [.ref 41]) 5 (fun P9 h9 => c_PointList_a_11 (d + 5) σ h9) (fun n h => h) ?_
    refine go_call (r := some (.int (f_PointList_b_11 σ))) (σc := σ) (σ1 := σ) (mi := 27) (vs := [.ref 11]) (k' := 10) (L' := [some (.ref 0), some (.int p0)]) (S' := [.int (f_PointList_a_11 σ), .ref 41]) 3 (fun P9 h9 => c_PointList_b_11 (d + 5) σ h9) (fun n h => h) ?_
    obtain ⟨x3, hx3, h⟩ := bind_of h
    refine go_call (r := none) (σc := σ) (σ1 := x3) (mi := 178) (vs := [.ref 41, .int (f_PointList_a_11 σ), .int (f_PointList_b_11 σ)]) (k' := 11) (L' := [some (.ref 0), some (.int p0)]) (S' := []) 1 (fun P9 h9 => c_ClassTable_prepare_41 (d + 0) (f_PointList_a_11 σ) (f_PointList_b_11 σ) σ hx3 h9) (fun n h => h) ?_
    cases h
    exact go_ret 3 (fun _ => hp)
def f_X_classes (N : Nat) (p0 : Int32) (p1 : Int32) (σ : aSt) : Option (Int32 × aSt) :=
  (if (σ.2.2 0 13) = true then (if p0 < 0 then some ((-2 : Int32), σ) else (if (1 : Int32) < p0 then some ((-2 : Int32), σ) else (if p1 < 0 then some ((-2 : Int32), σ) else (if p1 ≤ (3 : Int32) then ((f_X_side N p0 σ).bind fun x6 => (if x6.1 = 41 then some ((f_ClassTable_tally_41 p1 x6.2), x6.2) else (if x6.1 = 49 then some ((f_ClassTable_tally_49 p1 x6.2), x6.2) else none))) else some ((-2 : Int32), σ))))) else some ((-2 : Int32), σ))
set_option maxRecDepth 20000 in
set_option maxHeartbeats 4000000 in
theorem c_X_classes (d : Nat) {N : Nat} (p0 : Int32) (p1 : Int32) (σ : aSt) {P : Option Value → aSt → Prop} {x : (Int32 × aSt)} (h : f_X_classes N p0 p1 σ = some x) (hp : P (some (.int x.1)) x.2) : aCall MT (d + 8) 180 [.ref 0, .int p0, .int p1] σ P := by
  unfold f_X_classes at h
  refine call_of (code := mc_X_classes) (L := [some (.ref 0), some (.int p0), some (.int p1)]) rfl rfl rfl rfl ?_
  refine go_ifz (b := (σ.2.2 0 13)) (k1 := 13) (L1 := [some (.ref 0), some (.int p0), some (.int p1)]) (S1 := []) (σ1 := σ) (k2 := 3) (L2 := [some (.ref 0), some (.int p0), some (.int p1)]) (S2 := []) (σ2 := σ) 3 (fun n h => h) (fun hc1 => ?_) (fun hc1 => ?_)
  · rw [if_neg hc1] at h
    cases h
    exact go_ret 2 (fun _ => hp)
  · rw [if_pos hc1] at h
    refine go_if (c := p0 < 0) (k1 := 13) (L1 := [some (.ref 0), some (.int p0), some (.int p1)]) (S1 := []) (σ1 := σ) (k2 := 5) (L2 := [some (.ref 0), some (.int p0), some (.int p1)]) (S2 := []) (σ2 := σ) 2 (fun n h => h) (fun hc2 => ?_) (fun hc2 => ?_)
    · rw [if_pos hc2] at h
      cases h
      exact go_ret 2 (fun _ => hp)
    · rw [if_neg hc2] at h
      refine go_if (c := (1 : Int32) < p0) (k1 := 13) (L1 := [some (.ref 0), some (.int p0), some (.int p1)]) (S1 := []) (σ1 := σ) (k2 := 8) (L2 := [some (.ref 0), some (.int p0), some (.int p1)]) (S2 := []) (σ2 := σ) 3 (fun n h => h) (fun hc3 => ?_) (fun hc3 => ?_)
      · rw [if_pos hc3] at h
        cases h
        exact go_ret 2 (fun _ => hp)
      · rw [if_neg hc3] at h
        refine go_if (c := p1 < 0) (k1 := 13) (L1 := [some (.ref 0), some (.int p0), some (.int p1)]) (S1 := []) (σ1 := σ) (k2 := 10) (L2 := [some (.ref 0), some (.int p0), some (.int p1)]) (S2 := []) (σ2 := σ) 2 (fun n h => h) (fun hc4 => ?_) (fun hc4 => ?_)
        · rw [if_pos hc4] at h
          cases h
          exact go_ret 2 (fun _ => hp)
        · rw [if_neg hc4] at h
          refine go_if (c := p1 ≤ (3 : Int32)) (k1 := 15) (L1 := [some (.ref 0), some (.int p0), some (.int p1)]) (S1 := []) (σ1 := σ) (k2 := 13) (L2 := [some (.ref 0), some (.int p0), some (.int p1)]) (S2 := []) (σ2 := σ) 3 (fun n h => h) (fun hc5 => ?_) (fun hc5 => ?_)
          · rw [if_pos hc5] at h
            obtain ⟨x6, hx6, h⟩ := bind_of h
            refine go_call (r := some (.ref x6.1)) (σc := σ) (σ1 := x6.2) (mi := 179) (vs := [.ref 0, .int p0]) (k' := 18) (L' := [some (.ref 0), some (.int p0), some (.int p1)]) (S' := []) 3 (fun P9 h9 => c_X_side (d + 0) p0 σ hx6 h9) (fun n h => h) ?_
            by_cases hc7 : x6.1 = 41
            · rw [if_pos hc7] at h
              rw [hc7]
              refine go_call (r := some (.int (f_ClassTable_tally_41 p1 x6.2))) (σc := x6.2) (σ1 := x6.2) (mi := 172) (vs := [.ref 41, .int p1]) (k' := 20) (L' := [some (.ref 0), some (.int p0), some (.int p1)]) (S' := []) 2 (fun P9 h9 => c_ClassTable_tally_41 (d + 5) p1 x6.2 h9) (fun n h => h) ?_
              cases h
              exact go_ret 1 (fun _ => hp)
            · rw [if_neg hc7] at h
              by_cases hc8 : x6.1 = 49
              · rw [if_pos hc8] at h
                rw [hc8]
                refine go_call (r := some (.int (f_ClassTable_tally_49 p1 x6.2))) (σc := x6.2) (σ1 := x6.2) (mi := 172) (vs := [.ref 49, .int p1]) (k' := 20) (L' := [some (.ref 0), some (.int p0), some (.int p1)]) (S' := []) 2 (fun P9 h9 => c_ClassTable_tally_49 (d + 5) p1 x6.2 h9) (fun n h => h) ?_
                cases h
                exact go_ret 1 (fun _ => hp)
              · rw [if_neg hc8] at h
                cases h
          · rw [if_neg hc5] at h
            cases h
            exact go_ret 2 (fun _ => hp)
def f_ClassTable_isPossible_41 (p0 : Int32) (σ : aSt) : Bool :=
  (if (f_pick σ 44 p0) = 0 then false else true)
set_option maxRecDepth 20000 in
set_option maxHeartbeats 4000000 in
theorem c_ClassTable_isPossible_41 (d : Nat) (p0 : Int32) (σ : aSt) {P : Option Value → aSt → Prop} (h : P (some (.int (b2i ((f_ClassTable_isPossible_41 p0 σ))))) σ) : aCall MT (d + 2) 193 [.ref 41, .int p0] σ P := by
  unfold f_ClassTable_isPossible_41 at h
  refine call_of (code := mc_ClassTable_isPossible) (L := [some (.ref 41), some (.int p0)]) rfl rfl rfl rfl ?_
  refine go_call (r := some (.int (f_pick σ 44 p0))) (σc := σ) (σ1 := σ) (mi := 9) (vs := [.ref 44, .int p0]) (k' := 4) (L' := [some (.ref 41), some (.int p0)]) (S' := []) 4 (fun P9 h9 => c_pick (d + 0) σ 44 rfl p0 h9) (fun n h => h) ?_
  refine go_if (c := (f_pick σ 44 p0) = 0) (k1 := 7) (L1 := [some (.ref 41), some (.int p0)]) (S1 := []) (σ1 := σ) (k2 := 5) (L2 := [some (.ref 41), some (.int p0)]) (S2 := []) (σ2 := σ) 1 (fun n h => h) (fun hc1 => ?_) (fun hc1 => ?_)
  · rw [if_pos hc1] at h
    exact go_ret 2 (fun _ => And.intro (Or.inl rfl) h)
  · rw [if_neg hc1] at h
    exact go_ret 3 (fun _ => And.intro (Or.inr rfl) h)
def f_ClassTable_isMade_41 (p0 : Int32) (σ : aSt) : Bool :=
  (if (f_pick σ 47 (f_ClassTable_mask_41 p0 σ)) = 0 then false else true)
set_option maxRecDepth 20000 in
set_option maxHeartbeats 4000000 in
theorem c_ClassTable_isMade_41 (d : Nat) (p0 : Int32) (σ : aSt) {P : Option Value → aSt → Prop} (h : P (some (.int (b2i ((f_ClassTable_isMade_41 p0 σ))))) σ) : aCall MT (d + 3) 194 [.ref 41, .int p0] σ P := by
  unfold f_ClassTable_isMade_41 at h
  refine call_of (code := mc_ClassTable_isMade) (L := [some (.ref 41), some (.int p0)]) rfl rfl rfl rfl ?_
  refine go_call (r := some (.int (f_ClassTable_mask_41 p0 σ))) (σc := σ) (σ1 := σ) (mi := 175) (vs := [.ref 41, .int p0]) (k' := 5) (L' := [some (.ref 41), some (.int p0)]) (S' := [.ref 47]) 5 (fun P9 h9 => c_ClassTable_mask_41 (d + 0) p0 σ h9) (fun n h => h) ?_
  refine go_call (r := some (.int (f_pick σ 47 (f_ClassTable_mask_41 p0 σ)))) (σc := σ) (σ1 := σ) (mi := 9) (vs := [.ref 47, .int (f_ClassTable_mask_41 p0 σ)]) (k' := 6) (L' := [some (.ref 41), some (.int p0)]) (S' := []) 1 (fun P9 h9 => c_pick (d + 1) σ 47 rfl (f_ClassTable_mask_41 p0 σ) h9) (fun n h => h) ?_
  refine go_if (c := (f_pick σ 47 (f_ClassTable_mask_41 p0 σ)) = 0) (k1 := 9) (L1 := [some (.ref 41), some (.int p0)]) (S1 := []) (σ1 := σ) (k2 := 7) (L2 := [some (.ref 41), some (.int p0)]) (S2 := []) (σ2 := σ) 1 (fun n h => h) (fun hc1 => ?_) (fun hc1 => ?_)
  · rw [if_pos hc1] at h
    exact go_ret 2 (fun _ => And.intro (Or.inl rfl) h)
  · rw [if_neg hc1] at h
    exact go_ret 3 (fun _ => And.intro (Or.inr rfl) h)
def f_ClassTable_firstM_41 (p0 : Int32) (σ : aSt) : Int32 :=
  (f_pick σ 45 p0)
set_option maxRecDepth 20000 in
set_option maxHeartbeats 4000000 in
theorem c_ClassTable_firstM_41 (d : Nat) (p0 : Int32) (σ : aSt) {P : Option Value → aSt → Prop} (h : P (some (.int ((f_ClassTable_firstM_41 p0 σ)))) σ) : aCall MT (d + 2) 195 [.ref 41, .int p0] σ P := by
  unfold f_ClassTable_firstM_41 at h
  refine call_of (code := mc_ClassTable_firstM) (L := [some (.ref 41), some (.int p0)]) rfl rfl rfl rfl ?_
  refine go_call (r := some (.int (f_pick σ 45 p0))) (σc := σ) (σ1 := σ) (mi := 9) (vs := [.ref 45, .int p0]) (k' := 4) (L' := [some (.ref 41), some (.int p0)]) (S' := []) 4 (fun P9 h9 => c_pick (d + 0) σ 45 rfl p0 h9) (fun n h => h) ?_
  exact go_ret 1 (fun _ => h)
def f_ClassTable_firstE_41 (p0 : Int32) (σ : aSt) : Int32 :=
  (f_pick σ 46 p0)
set_option maxRecDepth 20000 in
set_option maxHeartbeats 4000000 in
theorem c_ClassTable_firstE_41 (d : Nat) (p0 : Int32) (σ : aSt) {P : Option Value → aSt → Prop} (h : P (some (.int ((f_ClassTable_firstE_41 p0 σ)))) σ) : aCall MT (d + 2) 196 [.ref 41, .int p0] σ P := by
  unfold f_ClassTable_firstE_41 at h
  refine call_of (code := mc_ClassTable_firstE) (L := [some (.ref 41), some (.int p0)]) rfl rfl rfl rfl ?_
  refine go_call (r := some (.int (f_pick σ 46 p0))) (σc := σ) (σ1 := σ) (mi := 9) (vs := [.ref 46, .int p0]) (k' := 4) (L' := [some (.ref 41), some (.int p0)]) (S' := []) 4 (fun P9 h9 => c_pick (d + 0) σ 46 rfl p0 h9) (fun n h => h) ?_
  exact go_ret 1 (fun _ => h)
def f_ClassTable_isPossible_49 (p0 : Int32) (σ : aSt) : Bool :=
  (if (f_pick σ 52 p0) = 0 then false else true)
set_option maxRecDepth 20000 in
set_option maxHeartbeats 4000000 in
theorem c_ClassTable_isPossible_49 (d : Nat) (p0 : Int32) (σ : aSt) {P : Option Value → aSt → Prop} (h : P (some (.int (b2i ((f_ClassTable_isPossible_49 p0 σ))))) σ) : aCall MT (d + 2) 193 [.ref 49, .int p0] σ P := by
  unfold f_ClassTable_isPossible_49 at h
  refine call_of (code := mc_ClassTable_isPossible) (L := [some (.ref 49), some (.int p0)]) rfl rfl rfl rfl ?_
  refine go_call (r := some (.int (f_pick σ 52 p0))) (σc := σ) (σ1 := σ) (mi := 9) (vs := [.ref 52, .int p0]) (k' := 4) (L' := [some (.ref 49), some (.int p0)]) (S' := []) 4 (fun P9 h9 => c_pick (d + 0) σ 52 rfl p0 h9) (fun n h => h) ?_
  refine go_if (c := (f_pick σ 52 p0) = 0) (k1 := 7) (L1 := [some (.ref 49), some (.int p0)]) (S1 := []) (σ1 := σ) (k2 := 5) (L2 := [some (.ref 49), some (.int p0)]) (S2 := []) (σ2 := σ) 1 (fun n h => h) (fun hc1 => ?_) (fun hc1 => ?_)
  · rw [if_pos hc1] at h
    exact go_ret 2 (fun _ => And.intro (Or.inl rfl) h)
  · rw [if_neg hc1] at h
    exact go_ret 3 (fun _ => And.intro (Or.inr rfl) h)
def f_ClassTable_isMade_49 (p0 : Int32) (σ : aSt) : Bool :=
  (if (f_pick σ 55 (f_ClassTable_mask_49 p0 σ)) = 0 then false else true)
set_option maxRecDepth 20000 in
set_option maxHeartbeats 4000000 in
theorem c_ClassTable_isMade_49 (d : Nat) (p0 : Int32) (σ : aSt) {P : Option Value → aSt → Prop} (h : P (some (.int (b2i ((f_ClassTable_isMade_49 p0 σ))))) σ) : aCall MT (d + 3) 194 [.ref 49, .int p0] σ P := by
  unfold f_ClassTable_isMade_49 at h
  refine call_of (code := mc_ClassTable_isMade) (L := [some (.ref 49), some (.int p0)]) rfl rfl rfl rfl ?_
  refine go_call (r := some (.int (f_ClassTable_mask_49 p0 σ))) (σc := σ) (σ1 := σ) (mi := 175) (vs := [.ref 49, .int p0]) (k' := 5) (L' := [some (.ref 49), some (.int p0)]) (S' := [.ref 55]) 5 (fun P9 h9 => c_ClassTable_mask_49 (d + 0) p0 σ h9) (fun n h => h) ?_
  refine go_call (r := some (.int (f_pick σ 55 (f_ClassTable_mask_49 p0 σ)))) (σc := σ) (σ1 := σ) (mi := 9) (vs := [.ref 55, .int (f_ClassTable_mask_49 p0 σ)]) (k' := 6) (L' := [some (.ref 49), some (.int p0)]) (S' := []) 1 (fun P9 h9 => c_pick (d + 1) σ 55 rfl (f_ClassTable_mask_49 p0 σ) h9) (fun n h => h) ?_
  refine go_if (c := (f_pick σ 55 (f_ClassTable_mask_49 p0 σ)) = 0) (k1 := 9) (L1 := [some (.ref 49), some (.int p0)]) (S1 := []) (σ1 := σ) (k2 := 7) (L2 := [some (.ref 49), some (.int p0)]) (S2 := []) (σ2 := σ) 1 (fun n h => h) (fun hc1 => ?_) (fun hc1 => ?_)
  · rw [if_pos hc1] at h
    exact go_ret 2 (fun _ => And.intro (Or.inl rfl) h)
  · rw [if_neg hc1] at h
    exact go_ret 3 (fun _ => And.intro (Or.inr rfl) h)
def f_ClassTable_firstM_49 (p0 : Int32) (σ : aSt) : Int32 :=
  (f_pick σ 53 p0)
set_option maxRecDepth 20000 in
set_option maxHeartbeats 4000000 in
theorem c_ClassTable_firstM_49 (d : Nat) (p0 : Int32) (σ : aSt) {P : Option Value → aSt → Prop} (h : P (some (.int ((f_ClassTable_firstM_49 p0 σ)))) σ) : aCall MT (d + 2) 195 [.ref 49, .int p0] σ P := by
  unfold f_ClassTable_firstM_49 at h
  refine call_of (code := mc_ClassTable_firstM) (L := [some (.ref 49), some (.int p0)]) rfl rfl rfl rfl ?_
  refine go_call (r := some (.int (f_pick σ 53 p0))) (σc := σ) (σ1 := σ) (mi := 9) (vs := [.ref 53, .int p0]) (k' := 4) (L' := [some (.ref 49), some (.int p0)]) (S' := []) 4 (fun P9 h9 => c_pick (d + 0) σ 53 rfl p0 h9) (fun n h => h) ?_
  exact go_ret 1 (fun _ => h)
def f_ClassTable_firstE_49 (p0 : Int32) (σ : aSt) : Int32 :=
  (f_pick σ 54 p0)
set_option maxRecDepth 20000 in
set_option maxHeartbeats 4000000 in
theorem c_ClassTable_firstE_49 (d : Nat) (p0 : Int32) (σ : aSt) {P : Option Value → aSt → Prop} (h : P (some (.int ((f_ClassTable_firstE_49 p0 σ)))) σ) : aCall MT (d + 2) 196 [.ref 49, .int p0] σ P := by
  unfold f_ClassTable_firstE_49 at h
  refine call_of (code := mc_ClassTable_firstE) (L := [some (.ref 49), some (.int p0)]) rfl rfl rfl rfl ?_
  refine go_call (r := some (.int (f_pick σ 54 p0))) (σc := σ) (σ1 := σ) (mi := 9) (vs := [.ref 54, .int p0]) (k' := 4) (L' := [some (.ref 49), some (.int p0)]) (S' := []) 4 (fun P9 h9 => c_pick (d + 0) σ 54 rfl p0 h9) (fun n h => h) ?_
  exact go_ret 1 (fun _ => h)
def f_X_classOf (N : Nat) (p0 : Int32) (p1 : Int32) (p2 : Int32) (σ : aSt) : Option (Int64 × aSt) :=
  (if (σ.2.2 0 13) = true then (if p0 < 0 then some ((-9223372036854775808 : Int64), σ) else (if (1 : Int32) < p0 then some ((-9223372036854775808 : Int64), σ) else (if p2 < 0 then some ((-9223372036854775808 : Int64), σ) else (if p2 ≤ (5 : Int32) then ((f_X_side N p0 σ).bind fun x6 => (if x6.1 = 41 then (if p1 < 0 then some ((-9223372036854775808 : Int64), x6.2) else (if p1 < (f_ClassTable_size_41 x6.2) then (if p2 = (0 : Int32) then some ((f_ClassTable_divisor_41 p1 x6.2).toInt64, x6.2) else (if p2 = (1 : Int32) then (if (f_ClassTable_isFound_41 p1 x6.2) = true then some ((1 : Int64), x6.2) else some ((0 : Int64), x6.2)) else (if p2 = (2 : Int32) then (if (f_ClassTable_isPossible_41 p1 x6.2) = true then some ((1 : Int64), x6.2) else some ((0 : Int64), x6.2)) else (if p2 = (3 : Int32) then (if (f_ClassTable_isMade_41 p1 x6.2) = true then some ((1 : Int64), x6.2) else some ((0 : Int64), x6.2)) else (if p2 = (4 : Int32) then (if (f_ClassTable_isFound_41 p1 x6.2) = true then some ((f_ClassTable_firstM_41 p1 x6.2).toInt64, x6.2) else some ((-9223372036854775808 : Int64), x6.2)) else (if (f_ClassTable_isFound_41 p1 x6.2) = true then some ((f_ClassTable_firstE_41 p1 x6.2).toInt64, x6.2) else some ((-9223372036854775808 : Int64), x6.2))))))) else some ((-9223372036854775808 : Int64), x6.2))) else (if x6.1 = 49 then (if p1 < 0 then some ((-9223372036854775808 : Int64), x6.2) else (if p1 < (f_ClassTable_size_49 x6.2) then (if p2 = (0 : Int32) then some ((f_ClassTable_divisor_49 p1 x6.2).toInt64, x6.2) else (if p2 = (1 : Int32) then (if (f_ClassTable_isFound_49 p1 x6.2) = true then some ((1 : Int64), x6.2) else some ((0 : Int64), x6.2)) else (if p2 = (2 : Int32) then (if (f_ClassTable_isPossible_49 p1 x6.2) = true then some ((1 : Int64), x6.2) else some ((0 : Int64), x6.2)) else (if p2 = (3 : Int32) then (if (f_ClassTable_isMade_49 p1 x6.2) = true then some ((1 : Int64), x6.2) else some ((0 : Int64), x6.2)) else (if p2 = (4 : Int32) then (if (f_ClassTable_isFound_49 p1 x6.2) = true then some ((f_ClassTable_firstM_49 p1 x6.2).toInt64, x6.2) else some ((-9223372036854775808 : Int64), x6.2)) else (if (f_ClassTable_isFound_49 p1 x6.2) = true then some ((f_ClassTable_firstE_49 p1 x6.2).toInt64, x6.2) else some ((-9223372036854775808 : Int64), x6.2))))))) else some ((-9223372036854775808 : Int64), x6.2))) else none))) else some ((-9223372036854775808 : Int64), σ))))) else some ((-9223372036854775808 : Int64), σ))
set_option maxRecDepth 20000 in
set_option maxHeartbeats 4000000 in
theorem c_X_classOf (d : Nat) {N : Nat} (p0 : Int32) (p1 : Int32) (p2 : Int32) (σ : aSt) {P : Option Value → aSt → Prop} {x : (Int64 × aSt)} (h : f_X_classOf N p0 p1 p2 σ = some x) (hp : P (some (.long x.1)) x.2) : aCall MT (d + 8) 197 [.ref 0, .int p0, .int p1, .int p2] σ P := by
  unfold f_X_classOf at h
  refine call_of (code := mc_X_classOf) (L := [some (.ref 0), some (.int p0), some (.int p1), some (.int p2), none]) rfl rfl rfl rfl ?_
  refine go_ifz (b := (σ.2.2 0 13)) (k1 := 13) (L1 := [some (.ref 0), some (.int p0), some (.int p1), some (.int p2), none]) (S1 := []) (σ1 := σ) (k2 := 3) (L2 := [some (.ref 0), some (.int p0), some (.int p1), some (.int p2), none]) (S2 := []) (σ2 := σ) 3 (fun n h => h) (fun hc1 => ?_) (fun hc1 => ?_)
  · rw [if_neg hc1] at h
    cases h
    exact go_ret 2 (fun _ => hp)
  · rw [if_pos hc1] at h
    refine go_if (c := p0 < 0) (k1 := 13) (L1 := [some (.ref 0), some (.int p0), some (.int p1), some (.int p2), none]) (S1 := []) (σ1 := σ) (k2 := 5) (L2 := [some (.ref 0), some (.int p0), some (.int p1), some (.int p2), none]) (S2 := []) (σ2 := σ) 2 (fun n h => h) (fun hc2 => ?_) (fun hc2 => ?_)
    · rw [if_pos hc2] at h
      cases h
      exact go_ret 2 (fun _ => hp)
    · rw [if_neg hc2] at h
      refine go_if (c := (1 : Int32) < p0) (k1 := 13) (L1 := [some (.ref 0), some (.int p0), some (.int p1), some (.int p2), none]) (S1 := []) (σ1 := σ) (k2 := 8) (L2 := [some (.ref 0), some (.int p0), some (.int p1), some (.int p2), none]) (S2 := []) (σ2 := σ) 3 (fun n h => h) (fun hc3 => ?_) (fun hc3 => ?_)
      · rw [if_pos hc3] at h
        cases h
        exact go_ret 2 (fun _ => hp)
      · rw [if_neg hc3] at h
        refine go_if (c := p2 < 0) (k1 := 13) (L1 := [some (.ref 0), some (.int p0), some (.int p1), some (.int p2), none]) (S1 := []) (σ1 := σ) (k2 := 10) (L2 := [some (.ref 0), some (.int p0), some (.int p1), some (.int p2), none]) (S2 := []) (σ2 := σ) 2 (fun n h => h) (fun hc4 => ?_) (fun hc4 => ?_)
        · rw [if_pos hc4] at h
          cases h
          exact go_ret 2 (fun _ => hp)
        · rw [if_neg hc4] at h
          refine go_if (c := p2 ≤ (5 : Int32)) (k1 := 15) (L1 := [some (.ref 0), some (.int p0), some (.int p1), some (.int p2), none]) (S1 := []) (σ1 := σ) (k2 := 13) (L2 := [some (.ref 0), some (.int p0), some (.int p1), some (.int p2), none]) (S2 := []) (σ2 := σ) 3 (fun n h => h) (fun hc5 => ?_) (fun hc5 => ?_)
          · rw [if_pos hc5] at h
            obtain ⟨x6, hx6, h⟩ := bind_of h
            refine go_call (r := some (.ref x6.1)) (σc := σ) (σ1 := x6.2) (mi := 179) (vs := [.ref 0, .int p0]) (k' := 18) (L' := [some (.ref 0), some (.int p0), some (.int p1), some (.int p2), none]) (S' := []) 3 (fun P9 h9 => c_X_side (d + 0) p0 σ hx6 h9) (fun n h => h) ?_
            by_cases hc7 : x6.1 = 41
            · rw [if_pos hc7] at h
              rw [hc7]
              refine go_if (c := p1 < 0) (k1 := 25) (L1 := [some (.ref 0), some (.int p0), some (.int p1), some (.int p2), some (.ref 41)]) (S1 := []) (σ1 := x6.2) (k2 := 21) (L2 := [some (.ref 0), some (.int p0), some (.int p1), some (.int p2), some (.ref 41)]) (S2 := []) (σ2 := x6.2) 3 (fun n h => h) (fun hc8 => ?_) (fun hc8 => ?_)
              · rw [if_pos hc8] at h
                cases h
                exact go_ret 2 (fun _ => hp)
              · rw [if_neg hc8] at h
                refine go_call (r := some (.int (f_ClassTable_size_41 x6.2))) (σc := x6.2) (σ1 := x6.2) (mi := 167) (vs := [.ref 41]) (k' := 24) (L' := [some (.ref 0), some (.int p0), some (.int p1), some (.int p2), some (.ref 41)]) (S' := [.int p1]) 3 (fun P9 h9 => c_ClassTable_size_41 (d + 6) x6.2 h9) (fun n h => h) ?_
                refine go_if (c := p1 < (f_ClassTable_size_41 x6.2)) (k1 := 27) (L1 := [some (.ref 0), some (.int p0), some (.int p1), some (.int p2), some (.ref 41)]) (S1 := []) (σ1 := x6.2) (k2 := 25) (L2 := [some (.ref 0), some (.int p0), some (.int p1), some (.int p2), some (.ref 41)]) (S2 := []) (σ2 := x6.2) 1 (fun n h => h) (fun hc9 => ?_) (fun hc9 => ?_)
                · rw [if_pos hc9] at h
                  refine go_sw (L' := [some (.ref 0), some (.int p0), some (.int p1), some (.int p2), some (.ref 41)]) (S' := []) (σ' := x6.2) 2 (fun n h => h) ?_
                  refine tsw_cons (fun hc10 => ?_) (fun hc10 => ?_)
                  · rw [if_pos (show p2 = (0 : Int32) from hc10)] at h
                    refine go_call (r := some (.int (f_ClassTable_divisor_41 p1 x6.2))) (σc := x6.2) (σ1 := x6.2) (mi := 168) (vs := [.ref 41, .int p1]) (k' := 32) (L' := [some (.ref 0), some (.int p0), some (.int p1), some (.int p2), some (.ref 41)]) (S' := []) 3 (fun P9 h9 => c_ClassTable_divisor_41 (d + 5) p1 x6.2 h9) (fun n h => h) ?_
                    cases h
                    exact go_ret 2 (fun _ => hp)
                  · rw [if_neg (show ¬ p2 = (0 : Int32) from hc10)] at h
                    refine tsw_cons (fun hc11 => ?_) (fun hc11 => ?_)
                    · rw [if_pos (show p2 = (1 : Int32) from hc11)] at h
                      refine go_call (r := some (.int (b2i (f_ClassTable_isFound_41 p1 x6.2)))) (σc := x6.2) (σ1 := x6.2) (mi := 174) (vs := [.ref 41, .int p1]) (k' := 37) (L' := [some (.ref 0), some (.int p0), some (.int p1), some (.int p2), some (.ref 41)]) (S' := []) 3 (fun P9 h9 => c_ClassTable_isFound_41 (d + 5) p1 x6.2 h9) (fun n h => h) ?_
                      refine go_ifz (b := (f_ClassTable_isFound_41 p1 x6.2)) (k1 := 40) (L1 := [some (.ref 0), some (.int p0), some (.int p1), some (.int p2), some (.ref 41)]) (S1 := []) (σ1 := x6.2) (k2 := 38) (L2 := [some (.ref 0), some (.int p0), some (.int p1), some (.int p2), some (.ref 41)]) (S2 := []) (σ2 := x6.2) 1 (fun n h => h) (fun hc12 => ?_) (fun hc12 => ?_)
                      · rw [if_neg hc12] at h
                        cases h
                        exact go_ret 2 (fun _ => hp)
                      · rw [if_pos hc12] at h
                        cases h
                        exact go_ret 3 (fun _ => hp)
                    · rw [if_neg (show ¬ p2 = (1 : Int32) from hc11)] at h
                      refine tsw_cons (fun hc13 => ?_) (fun hc13 => ?_)
                      · rw [if_pos (show p2 = (2 : Int32) from hc13)] at h
                        refine go_call (r := some (.int (b2i (f_ClassTable_isPossible_41 p1 x6.2)))) (σc := x6.2) (σ1 := x6.2) (mi := 193) (vs := [.ref 41, .int p1]) (k' := 45) (L' := [some (.ref 0), some (.int p0), some (.int p1), some (.int p2), some (.ref 41)]) (S' := []) 3 (fun P9 h9 => c_ClassTable_isPossible_41 (d + 5) p1 x6.2 h9) (fun n h => h) ?_
                        refine go_ifz (b := (f_ClassTable_isPossible_41 p1 x6.2)) (k1 := 48) (L1 := [some (.ref 0), some (.int p0), some (.int p1), some (.int p2), some (.ref 41)]) (S1 := []) (σ1 := x6.2) (k2 := 46) (L2 := [some (.ref 0), some (.int p0), some (.int p1), some (.int p2), some (.ref 41)]) (S2 := []) (σ2 := x6.2) 1 (fun n h => h) (fun hc14 => ?_) (fun hc14 => ?_)
                        · rw [if_neg hc14] at h
                          cases h
                          exact go_ret 2 (fun _ => hp)
                        · rw [if_pos hc14] at h
                          cases h
                          exact go_ret 3 (fun _ => hp)
                      · rw [if_neg (show ¬ p2 = (2 : Int32) from hc13)] at h
                        refine tsw_cons (fun hc15 => ?_) (fun hc15 => ?_)
                        · rw [if_pos (show p2 = (3 : Int32) from hc15)] at h
                          refine go_call (r := some (.int (b2i (f_ClassTable_isMade_41 p1 x6.2)))) (σc := x6.2) (σ1 := x6.2) (mi := 194) (vs := [.ref 41, .int p1]) (k' := 53) (L' := [some (.ref 0), some (.int p0), some (.int p1), some (.int p2), some (.ref 41)]) (S' := []) 3 (fun P9 h9 => c_ClassTable_isMade_41 (d + 4) p1 x6.2 h9) (fun n h => h) ?_
                          refine go_ifz (b := (f_ClassTable_isMade_41 p1 x6.2)) (k1 := 56) (L1 := [some (.ref 0), some (.int p0), some (.int p1), some (.int p2), some (.ref 41)]) (S1 := []) (σ1 := x6.2) (k2 := 54) (L2 := [some (.ref 0), some (.int p0), some (.int p1), some (.int p2), some (.ref 41)]) (S2 := []) (σ2 := x6.2) 1 (fun n h => h) (fun hc16 => ?_) (fun hc16 => ?_)
                          · rw [if_neg hc16] at h
                            cases h
                            exact go_ret 2 (fun _ => hp)
                          · rw [if_pos hc16] at h
                            cases h
                            exact go_ret 3 (fun _ => hp)
                        · rw [if_neg (show ¬ p2 = (3 : Int32) from hc15)] at h
                          refine tsw_cons (fun hc17 => ?_) (fun hc17 => ?_)
                          · rw [if_pos (show p2 = (4 : Int32) from hc17)] at h
                            refine go_call (r := some (.int (b2i (f_ClassTable_isFound_41 p1 x6.2)))) (σc := x6.2) (σ1 := x6.2) (mi := 174) (vs := [.ref 41, .int p1]) (k' := 61) (L' := [some (.ref 0), some (.int p0), some (.int p1), some (.int p2), some (.ref 41)]) (S' := []) 3 (fun P9 h9 => c_ClassTable_isFound_41 (d + 5) p1 x6.2 h9) (fun n h => h) ?_
                            refine go_ifz (b := (f_ClassTable_isFound_41 p1 x6.2)) (k1 := 67) (L1 := [some (.ref 0), some (.int p0), some (.int p1), some (.int p2), some (.ref 41)]) (S1 := []) (σ1 := x6.2) (k2 := 62) (L2 := [some (.ref 0), some (.int p0), some (.int p1), some (.int p2), some (.ref 41)]) (S2 := []) (σ2 := x6.2) 1 (fun n h => h) (fun hc18 => ?_) (fun hc18 => ?_)
                            · rw [if_neg hc18] at h
                              cases h
                              exact go_ret 2 (fun _ => hp)
                            · rw [if_pos hc18] at h
                              refine go_call (r := some (.int (f_ClassTable_firstM_41 p1 x6.2))) (σc := x6.2) (σ1 := x6.2) (mi := 195) (vs := [.ref 41, .int p1]) (k' := 65) (L' := [some (.ref 0), some (.int p0), some (.int p1), some (.int p2), some (.ref 41)]) (S' := []) 3 (fun P9 h9 => c_ClassTable_firstM_41 (d + 5) p1 x6.2 h9) (fun n h => h) ?_
                              cases h
                              exact go_ret 3 (fun _ => hp)
                          · rw [if_neg (show ¬ p2 = (4 : Int32) from hc17)] at h
                            refine tsw_nil ?_
                            refine go_call (r := some (.int (b2i (f_ClassTable_isFound_41 p1 x6.2)))) (σc := x6.2) (σ1 := x6.2) (mi := 174) (vs := [.ref 41, .int p1]) (k' := 72) (L' := [some (.ref 0), some (.int p0), some (.int p1), some (.int p2), some (.ref 41)]) (S' := []) 3 (fun P9 h9 => c_ClassTable_isFound_41 (d + 5) p1 x6.2 h9) (fun n h => h) ?_
                            refine go_ifz (b := (f_ClassTable_isFound_41 p1 x6.2)) (k1 := 78) (L1 := [some (.ref 0), some (.int p0), some (.int p1), some (.int p2), some (.ref 41)]) (S1 := []) (σ1 := x6.2) (k2 := 73) (L2 := [some (.ref 0), some (.int p0), some (.int p1), some (.int p2), some (.ref 41)]) (S2 := []) (σ2 := x6.2) 1 (fun n h => h) (fun hc19 => ?_) (fun hc19 => ?_)
                            · rw [if_neg hc19] at h
                              cases h
                              exact go_ret 2 (fun _ => hp)
                            · rw [if_pos hc19] at h
                              refine go_call (r := some (.int (f_ClassTable_firstE_41 p1 x6.2))) (σc := x6.2) (σ1 := x6.2) (mi := 196) (vs := [.ref 41, .int p1]) (k' := 76) (L' := [some (.ref 0), some (.int p0), some (.int p1), some (.int p2), some (.ref 41)]) (S' := []) 3 (fun P9 h9 => c_ClassTable_firstE_41 (d + 5) p1 x6.2 h9) (fun n h => h) ?_
                              cases h
                              exact go_ret 3 (fun _ => hp)
                · rw [if_neg hc9] at h
                  cases h
                  exact go_ret 2 (fun _ => hp)
            · rw [if_neg hc7] at h
              by_cases hc20 : x6.1 = 49
              · rw [if_pos hc20] at h
                rw [hc20]
                refine go_if (c := p1 < 0) (k1 := 25) (L1 := [some (.ref 0), some (.int p0), some (.int p1), some (.int p2), some (.ref 49)]) (S1 := []) (σ1 := x6.2) (k2 := 21) (L2 := [some (.ref 0), some (.int p0), some (.int p1), some (.int p2), some (.ref 49)]) (S2 := []) (σ2 := x6.2) 3 (fun n h => h) (fun hc21 => ?_) (fun hc21 => ?_)
                · rw [if_pos hc21] at h
                  cases h
                  exact go_ret 2 (fun _ => hp)
                · rw [if_neg hc21] at h
                  refine go_call (r := some (.int (f_ClassTable_size_49 x6.2))) (σc := x6.2) (σ1 := x6.2) (mi := 167) (vs := [.ref 49]) (k' := 24) (L' := [some (.ref 0), some (.int p0), some (.int p1), some (.int p2), some (.ref 49)]) (S' := [.int p1]) 3 (fun P9 h9 => c_ClassTable_size_49 (d + 6) x6.2 h9) (fun n h => h) ?_
                  refine go_if (c := p1 < (f_ClassTable_size_49 x6.2)) (k1 := 27) (L1 := [some (.ref 0), some (.int p0), some (.int p1), some (.int p2), some (.ref 49)]) (S1 := []) (σ1 := x6.2) (k2 := 25) (L2 := [some (.ref 0), some (.int p0), some (.int p1), some (.int p2), some (.ref 49)]) (S2 := []) (σ2 := x6.2) 1 (fun n h => h) (fun hc22 => ?_) (fun hc22 => ?_)
                  · rw [if_pos hc22] at h
                    refine go_sw (L' := [some (.ref 0), some (.int p0), some (.int p1), some (.int p2), some (.ref 49)]) (S' := []) (σ' := x6.2) 2 (fun n h => h) ?_
                    refine tsw_cons (fun hc23 => ?_) (fun hc23 => ?_)
                    · rw [if_pos (show p2 = (0 : Int32) from hc23)] at h
                      refine go_call (r := some (.int (f_ClassTable_divisor_49 p1 x6.2))) (σc := x6.2) (σ1 := x6.2) (mi := 168) (vs := [.ref 49, .int p1]) (k' := 32) (L' := [some (.ref 0), some (.int p0), some (.int p1), some (.int p2), some (.ref 49)]) (S' := []) 3 (fun P9 h9 => c_ClassTable_divisor_49 (d + 5) p1 x6.2 h9) (fun n h => h) ?_
                      cases h
                      exact go_ret 2 (fun _ => hp)
                    · rw [if_neg (show ¬ p2 = (0 : Int32) from hc23)] at h
                      refine tsw_cons (fun hc24 => ?_) (fun hc24 => ?_)
                      · rw [if_pos (show p2 = (1 : Int32) from hc24)] at h
                        refine go_call (r := some (.int (b2i (f_ClassTable_isFound_49 p1 x6.2)))) (σc := x6.2) (σ1 := x6.2) (mi := 174) (vs := [.ref 49, .int p1]) (k' := 37) (L' := [some (.ref 0), some (.int p0), some (.int p1), some (.int p2), some (.ref 49)]) (S' := []) 3 (fun P9 h9 => c_ClassTable_isFound_49 (d + 5) p1 x6.2 h9) (fun n h => h) ?_
                        refine go_ifz (b := (f_ClassTable_isFound_49 p1 x6.2)) (k1 := 40) (L1 := [some (.ref 0), some (.int p0), some (.int p1), some (.int p2), some (.ref 49)]) (S1 := []) (σ1 := x6.2) (k2 := 38) (L2 := [some (.ref 0), some (.int p0), some (.int p1), some (.int p2), some (.ref 49)]) (S2 := []) (σ2 := x6.2) 1 (fun n h => h) (fun hc25 => ?_) (fun hc25 => ?_)
                        · rw [if_neg hc25] at h
                          cases h
                          exact go_ret 2 (fun _ => hp)
                        · rw [if_pos hc25] at h
                          cases h
                          exact go_ret 3 (fun _ => hp)
                      · rw [if_neg (show ¬ p2 = (1 : Int32) from hc24)] at h
                        refine tsw_cons (fun hc26 => ?_) (fun hc26 => ?_)
                        · rw [if_pos (show p2 = (2 : Int32) from hc26)] at h
                          refine go_call (r := some (.int (b2i (f_ClassTable_isPossible_49 p1 x6.2)))) (σc := x6.2) (σ1 := x6.2) (mi := 193) (vs := [.ref 49, .int p1]) (k' := 45) (L' := [some (.ref 0), some (.int p0), some (.int p1), some (.int p2), some (.ref 49)]) (S' := []) 3 (fun P9 h9 => c_ClassTable_isPossible_49 (d + 5) p1 x6.2 h9) (fun n h => h) ?_
                          refine go_ifz (b := (f_ClassTable_isPossible_49 p1 x6.2)) (k1 := 48) (L1 := [some (.ref 0), some (.int p0), some (.int p1), some (.int p2), some (.ref 49)]) (S1 := []) (σ1 := x6.2) (k2 := 46) (L2 := [some (.ref 0), some (.int p0), some (.int p1), some (.int p2), some (.ref 49)]) (S2 := []) (σ2 := x6.2) 1 (fun n h => h) (fun hc27 => ?_) (fun hc27 => ?_)
                          · rw [if_neg hc27] at h
                            cases h
                            exact go_ret 2 (fun _ => hp)
                          · rw [if_pos hc27] at h
                            cases h
                            exact go_ret 3 (fun _ => hp)
                        · rw [if_neg (show ¬ p2 = (2 : Int32) from hc26)] at h
                          refine tsw_cons (fun hc28 => ?_) (fun hc28 => ?_)
                          · rw [if_pos (show p2 = (3 : Int32) from hc28)] at h
                            refine go_call (r := some (.int (b2i (f_ClassTable_isMade_49 p1 x6.2)))) (σc := x6.2) (σ1 := x6.2) (mi := 194) (vs := [.ref 49, .int p1]) (k' := 53) (L' := [some (.ref 0), some (.int p0), some (.int p1), some (.int p2), some (.ref 49)]) (S' := []) 3 (fun P9 h9 => c_ClassTable_isMade_49 (d + 4) p1 x6.2 h9) (fun n h => h) ?_
                            refine go_ifz (b := (f_ClassTable_isMade_49 p1 x6.2)) (k1 := 56) (L1 := [some (.ref 0), some (.int p0), some (.int p1), some (.int p2), some (.ref 49)]) (S1 := []) (σ1 := x6.2) (k2 := 54) (L2 := [some (.ref 0), some (.int p0), some (.int p1), some (.int p2), some (.ref 49)]) (S2 := []) (σ2 := x6.2) 1 (fun n h => h) (fun hc29 => ?_) (fun hc29 => ?_)
                            · rw [if_neg hc29] at h
                              cases h
                              exact go_ret 2 (fun _ => hp)
                            · rw [if_pos hc29] at h
                              cases h
                              exact go_ret 3 (fun _ => hp)
                          · rw [if_neg (show ¬ p2 = (3 : Int32) from hc28)] at h
                            refine tsw_cons (fun hc30 => ?_) (fun hc30 => ?_)
                            · rw [if_pos (show p2 = (4 : Int32) from hc30)] at h
                              refine go_call (r := some (.int (b2i (f_ClassTable_isFound_49 p1 x6.2)))) (σc := x6.2) (σ1 := x6.2) (mi := 174) (vs := [.ref 49, .int p1]) (k' := 61) (L' := [some (.ref 0), some (.int p0), some (.int p1), some (.int p2), some (.ref 49)]) (S' := []) 3 (fun P9 h9 => c_ClassTable_isFound_49 (d + 5) p1 x6.2 h9) (fun n h => h) ?_
                              refine go_ifz (b := (f_ClassTable_isFound_49 p1 x6.2)) (k1 := 67) (L1 := [some (.ref 0), some (.int p0), some (.int p1), some (.int p2), some (.ref 49)]) (S1 := []) (σ1 := x6.2) (k2 := 62) (L2 := [some (.ref 0), some (.int p0), some (.int p1), some (.int p2), some (.ref 49)]) (S2 := []) (σ2 := x6.2) 1 (fun n h => h) (fun hc31 => ?_) (fun hc31 => ?_)
                              · rw [if_neg hc31] at h
                                cases h
                                exact go_ret 2 (fun _ => hp)
                              · rw [if_pos hc31] at h
                                refine go_call (r := some (.int (f_ClassTable_firstM_49 p1 x6.2))) (σc := x6.2) (σ1 := x6.2) (mi := 195) (vs := [.ref 49, .int p1]) (k' := 65) (L' := [some (.ref 0), some (.int p0), some (.int p1), some (.int p2), some (.ref 49)]) (S' := []) 3 (fun P9 h9 => c_ClassTable_firstM_49 (d + 5) p1 x6.2 h9) (fun n h => h) ?_
                                cases h
                                exact go_ret 3 (fun _ => hp)
                            · rw [if_neg (show ¬ p2 = (4 : Int32) from hc30)] at h
                              refine tsw_nil ?_
                              refine go_call (r := some (.int (b2i (f_ClassTable_isFound_49 p1 x6.2)))) (σc := x6.2) (σ1 := x6.2) (mi := 174) (vs := [.ref 49, .int p1]) (k' := 72) (L' := [some (.ref 0), some (.int p0), some (.int p1), some (.int p2), some (.ref 49)]) (S' := []) 3 (fun P9 h9 => c_ClassTable_isFound_49 (d + 5) p1 x6.2 h9) (fun n h => h) ?_
                              refine go_ifz (b := (f_ClassTable_isFound_49 p1 x6.2)) (k1 := 78) (L1 := [some (.ref 0), some (.int p0), some (.int p1), some (.int p2), some (.ref 49)]) (S1 := []) (σ1 := x6.2) (k2 := 73) (L2 := [some (.ref 0), some (.int p0), some (.int p1), some (.int p2), some (.ref 49)]) (S2 := []) (σ2 := x6.2) 1 (fun n h => h) (fun hc32 => ?_) (fun hc32 => ?_)
                              · rw [if_neg hc32] at h
                                cases h
                                exact go_ret 2 (fun _ => hp)
                              · rw [if_pos hc32] at h
                                refine go_call (r := some (.int (f_ClassTable_firstE_49 p1 x6.2))) (σc := x6.2) (σ1 := x6.2) (mi := 196) (vs := [.ref 49, .int p1]) (k' := 76) (L' := [some (.ref 0), some (.int p0), some (.int p1), some (.int p2), some (.ref 49)]) (S' := []) 3 (fun P9 h9 => c_ClassTable_firstE_49 (d + 5) p1 x6.2 h9) (fun n h => h) ?_
                                cases h
                                exact go_ret 3 (fun _ => hp)
                  · rw [if_neg hc22] at h
                    cases h
                    exact go_ret 2 (fun _ => hp)
              · rw [if_neg hc20] at h
                cases h
          · rw [if_neg hc5] at h
            cases h
            exact go_ret 2 (fun _ => hp)
def f_X_side_c0 (N : Nat) (σ : aSt) : Option aSt :=
  ((f_ClassTable_prepare_41 N (f_PointList_a_11 σ) (f_PointList_b_11 σ) σ).bind fun x1 => some x1)
set_option maxRecDepth 20000 in
set_option maxHeartbeats 4000000 in
theorem c_X_side_c0 (d : Nat) {N : Nat} (σ : aSt) {P : Option Value → aSt → Prop} {x : aSt} (h : f_X_side_c0 N σ = some x) (hp : P (some (.ref 41)) x) : aCall MT (d + 7) 179 [.ref 0, .int (0 : Int32)] σ P := by
  unfold f_X_side_c0 at h
  refine call_of (code := mc_X_side) (L := [some (.ref 0), some (.int (0 : Int32))]) rfl rfl rfl rfl ?_
  refine go_call (r := some (.int (f_PointList_a_11 σ))) (σc := σ) (σ1 := σ) (mi := 26) (vs := [.ref 11]) (k' := 7) (L' := [some (.ref 0), some (.int (0 : Int32))]) (S' := [.ref 41]) 7 (fun P9 h9 => c_PointList_a_11 (d + 5) σ h9) (fun n h => h) ?_
  refine go_call (r := some (.int (f_PointList_b_11 σ))) (σc := σ) (σ1 := σ) (mi := 27) (vs := [.ref 11]) (k' := 10) (L' := [some (.ref 0), some (.int (0 : Int32))]) (S' := [.int (f_PointList_a_11 σ), .ref 41]) 3 (fun P9 h9 => c_PointList_b_11 (d + 5) σ h9) (fun n h => h) ?_
  obtain ⟨x1, hx1, h⟩ := bind_of h
  refine go_call (r := none) (σc := σ) (σ1 := x1) (mi := 178) (vs := [.ref 41, .int (f_PointList_a_11 σ), .int (f_PointList_b_11 σ)]) (k' := 11) (L' := [some (.ref 0), some (.int (0 : Int32))]) (S' := []) 1 (fun P9 h9 => c_ClassTable_prepare_41 (d + 0) (f_PointList_a_11 σ) (f_PointList_b_11 σ) σ hx1 h9) (fun n h => h) ?_
  cases h
  exact go_ret 3 (fun _ => hp)
def f_Whole_digits (p0 : Int64) : Int32 :=
  ((64 : Int32) - (f_Long_numberOfLeadingZeros p0))
set_option maxRecDepth 20000 in
set_option maxHeartbeats 4000000 in
theorem c_Whole_digits (d : Nat) (p0 : Int64) (σ : aSt) {P : Option Value → aSt → Prop} (h : P (some (.int ((f_Whole_digits p0)))) σ) : aCall MT (d + 3) 199 [.long p0] σ P := by
  unfold f_Whole_digits at h
  refine call_of (code := mc_Whole_digits) (L := [some (.long p0), none]) rfl rfl rfl rfl ?_
  refine go_call (r := some (.int (f_Long_numberOfLeadingZeros p0))) (σc := σ) (σ1 := σ) (mi := 36) (vs := [.long p0]) (k' := 3) (L' := [some (.long p0), none]) (S' := [.int (64 : Int32)]) 3 (fun P9 h9 => c_Long_numberOfLeadingZeros (d + 0) p0 σ h9) (fun n h => h) ?_
  exact go_ret 2 (fun _ => h)
def f_ClassTable_halvings_41 (p0 : Int32) (σ : aSt) : Int32 :=
  (imax (0 : Int32) ((f_Whole_digits (f_ClassTable_tally_41 p0 σ).toInt64) - (1 : Int32)))
set_option maxRecDepth 20000 in
set_option maxHeartbeats 4000000 in
theorem c_ClassTable_halvings_41 (d : Nat) (p0 : Int32) (σ : aSt) {P : Option Value → aSt → Prop} (h : P (some (.int ((f_ClassTable_halvings_41 p0 σ)))) σ) : aCall MT (d + 4) 200 [.ref 41, .int p0] σ P := by
  unfold f_ClassTable_halvings_41 at h
  refine call_of (code := mc_ClassTable_halvings) (L := [some (.ref 41), some (.int p0)]) rfl rfl rfl rfl ?_
  refine go_call (r := some (.int (f_ClassTable_tally_41 p0 σ))) (σc := σ) (σ1 := σ) (mi := 172) (vs := [.ref 41, .int p0]) (k' := 4) (L' := [some (.ref 41), some (.int p0)]) (S' := [.int (0 : Int32)]) 4 (fun P9 h9 => c_ClassTable_tally_41 (d + 1) p0 σ h9) (fun n h => h) ?_
  refine go_call (r := some (.int (f_Whole_digits (f_ClassTable_tally_41 p0 σ).toInt64))) (σc := σ) (σ1 := σ) (mi := 199) (vs := [.long (f_ClassTable_tally_41 p0 σ).toInt64]) (k' := 6) (L' := [some (.ref 41), some (.int p0)]) (S' := [.int (0 : Int32)]) 2 (fun P9 h9 => c_Whole_digits (d + 0) (f_ClassTable_tally_41 p0 σ).toInt64 σ h9) (fun n h => h) ?_
  exact go_ret 4 (fun _ => h)
def f_X_side_c1 (N : Nat) (σ : aSt) : Option aSt :=
  ((f_ClassTable_prepare_49 N ((-2 : Int32) * (f_PointList_a_11 σ)) (f_X_besideB σ) σ).bind fun x1 => some x1)
set_option maxRecDepth 20000 in
set_option maxHeartbeats 4000000 in
theorem c_X_side_c1 (d : Nat) {N : Nat} (σ : aSt) {P : Option Value → aSt → Prop} {x : aSt} (h : f_X_side_c1 N σ = some x) (hp : P (some (.ref 49)) x) : aCall MT (d + 7) 179 [.ref 0, .int (1 : Int32)] σ P := by
  unfold f_X_side_c1 at h
  refine call_of (code := mc_X_side) (L := [some (.ref 0), some (.int (1 : Int32))]) rfl rfl rfl rfl ?_
  refine go_call (r := some (.int (f_PointList_a_11 σ))) (σc := σ) (σ1 := σ) (mi := 26) (vs := [.ref 11]) (k' := 20) (L' := [some (.ref 0), some (.int (1 : Int32))]) (S' := [.int (-2 : Int32), .ref 49]) 8 (fun P9 h9 => c_PointList_a_11 (d + 5) σ h9) (fun n h => h) ?_
  refine go_call (r := some (.int (f_X_besideB σ))) (σc := σ) (σ1 := σ) (mi := 138) (vs := [.ref 0]) (k' := 23) (L' := [some (.ref 0), some (.int (1 : Int32))]) (S' := [.int ((-2 : Int32) * (f_PointList_a_11 σ)), .ref 49]) 3 (fun P9 h9 => c_X_besideB (d + 4) σ h9) (fun n h => h) ?_
  obtain ⟨x1, hx1, h⟩ := bind_of h
  refine go_call (r := none) (σc := σ) (σ1 := x1) (mi := 178) (vs := [.ref 49, .int ((-2 : Int32) * (f_PointList_a_11 σ)), .int (f_X_besideB σ)]) (k' := 24) (L' := [some (.ref 0), some (.int (1 : Int32))]) (S' := []) 1 (fun P9 h9 => c_ClassTable_prepare_49 (d + 0) ((-2 : Int32) * (f_PointList_a_11 σ)) (f_X_besideB σ) σ hx1 h9) (fun n h => h) ?_
  cases h
  exact go_ret 3 (fun _ => hp)
def f_ClassTable_halvings_49 (p0 : Int32) (σ : aSt) : Int32 :=
  (imax (0 : Int32) ((f_Whole_digits (f_ClassTable_tally_49 p0 σ).toInt64) - (1 : Int32)))
set_option maxRecDepth 20000 in
set_option maxHeartbeats 4000000 in
theorem c_ClassTable_halvings_49 (d : Nat) (p0 : Int32) (σ : aSt) {P : Option Value → aSt → Prop} (h : P (some (.int ((f_ClassTable_halvings_49 p0 σ)))) σ) : aCall MT (d + 4) 200 [.ref 49, .int p0] σ P := by
  unfold f_ClassTable_halvings_49 at h
  refine call_of (code := mc_ClassTable_halvings) (L := [some (.ref 49), some (.int p0)]) rfl rfl rfl rfl ?_
  refine go_call (r := some (.int (f_ClassTable_tally_49 p0 σ))) (σc := σ) (σ1 := σ) (mi := 172) (vs := [.ref 49, .int p0]) (k' := 4) (L' := [some (.ref 49), some (.int p0)]) (S' := [.int (0 : Int32)]) 4 (fun P9 h9 => c_ClassTable_tally_49 (d + 1) p0 σ h9) (fun n h => h) ?_
  refine go_call (r := some (.int (f_Whole_digits (f_ClassTable_tally_49 p0 σ).toInt64))) (σc := σ) (σ1 := σ) (mi := 199) (vs := [.long (f_ClassTable_tally_49 p0 σ).toInt64]) (k' := 6) (L' := [some (.ref 49), some (.int p0)]) (S' := [.int (0 : Int32)]) 2 (fun P9 h9 => c_Whole_digits (d + 0) (f_ClassTable_tally_49 p0 σ).toInt64 σ h9) (fun n h => h) ?_
  exact go_ret 4 (fun _ => h)
def f_X_rank_b15 (N : Nat) (s0 : Int32) (σ : aSt) : Option (Int32 × aSt) :=
  ((f_X_side_c0 N σ).bind fun x5 => ((f_X_side_c1 N x5).bind fun x6 => some ((imax (0 : Int32) (((f_ClassTable_halvings_41 s0 x5) + (f_ClassTable_halvings_49 s0 x6)) - (2 : Int32))), x6)))
set_option maxRecDepth 20000 in
set_option maxHeartbeats 4000000 in
theorem t_X_rank_b15 (d : Nat) {N : Nat} (d1 d2 : Option Value) (s0 : Int32) (σ : aSt) {P : Option Value → aSt → Prop} {x : (Int32 × aSt)} (h : f_X_rank_b15 N s0 σ = some x) (hp : P (some (.int x.1)) x.2) : aGo (aCall MT (d + 7)) P mc_X_rank 15 [some (.ref 0), d1, d2] [.int s0] σ := by
  unfold f_X_rank_b15 at h
  obtain ⟨x5, hx5, h⟩ := bind_of h
  refine go_call (r := some (.ref 41)) (σc := σ) (σ1 := x5) (mi := 179) (vs := [.ref 0, .int (0 : Int32)]) (k' := 20) (L' := [some (.ref 0), none, some (.int s0)]) (S' := [.int (0 : Int32)]) 5 (fun P9 h9 => c_X_side_c0 (d + 0) σ hx5 h9) (fun n h => h) ?_
  refine go_call (r := some (.int (f_ClassTable_halvings_41 s0 x5))) (σc := x5) (σ1 := x5) (mi := 200) (vs := [.ref 41, .int s0]) (k' := 22) (L' := [some (.ref 0), none, some (.int s0)]) (S' := [.int (0 : Int32)]) 2 (fun P9 h9 => c_ClassTable_halvings_41 (d + 3) s0 x5 h9) (fun n h => h) ?_
  obtain ⟨x6, hx6, h⟩ := bind_of h
  refine go_call (r := some (.ref 49)) (σc := x5) (σ1 := x6) (mi := 179) (vs := [.ref 0, .int (1 : Int32)]) (k' := 25) (L' := [some (.ref 0), none, some (.int s0)]) (S' := [.int (f_ClassTable_halvings_41 s0 x5), .int (0 : Int32)]) 3 (fun P9 h9 => c_X_side_c1 (d + 0) x5 hx6 h9) (fun n h => h) ?_
  refine go_call (r := some (.int (f_ClassTable_halvings_49 s0 x6))) (σc := x6) (σ1 := x6) (mi := 200) (vs := [.ref 49, .int s0]) (k' := 27) (L' := [some (.ref 0), none, some (.int s0)]) (S' := [.int (f_ClassTable_halvings_41 s0 x5), .int (0 : Int32)]) 2 (fun P9 h9 => c_ClassTable_halvings_49 (d + 3) s0 x6 h9) (fun n h => h) ?_
  cases h
  exact go_ret 5 (fun _ => hp)
def f_X_rank (N : Nat) (p0 : Int32) (σ : aSt) : Option (Int32 × aSt) :=
  (if (σ.2.2 0 13) = true then (if p0 < 0 then some ((-2 : Int32), σ) else (if p0 ≤ (1 : Int32) then (if p0 ≠ 0 then f_X_rank_b15 N (2 : Int32) σ else f_X_rank_b15 N (3 : Int32) σ) else some ((-2 : Int32), σ))) else some ((-2 : Int32), σ))
set_option maxRecDepth 20000 in
set_option maxHeartbeats 4000000 in
theorem c_X_rank (d : Nat) {N : Nat} (p0 : Int32) (σ : aSt) {P : Option Value → aSt → Prop} {x : (Int32 × aSt)} (h : f_X_rank N p0 σ = some x) (hp : P (some (.int x.1)) x.2) : aCall MT (d + 8) 201 [.ref 0, .int p0] σ P := by
  unfold f_X_rank at h
  refine call_of (code := mc_X_rank) (L := [some (.ref 0), some (.int p0), none]) rfl rfl rfl rfl ?_
  refine go_ifz (b := (σ.2.2 0 13)) (k1 := 8) (L1 := [some (.ref 0), some (.int p0), none]) (S1 := []) (σ1 := σ) (k2 := 3) (L2 := [some (.ref 0), some (.int p0), none]) (S2 := []) (σ2 := σ) 3 (fun n h => h) (fun hc1 => ?_) (fun hc1 => ?_)
  · rw [if_neg hc1] at h
    cases h
    exact go_ret 2 (fun _ => hp)
  · rw [if_pos hc1] at h
    refine go_if (c := p0 < 0) (k1 := 8) (L1 := [some (.ref 0), some (.int p0), none]) (S1 := []) (σ1 := σ) (k2 := 5) (L2 := [some (.ref 0), some (.int p0), none]) (S2 := []) (σ2 := σ) 2 (fun n h => h) (fun hc2 => ?_) (fun hc2 => ?_)
    · rw [if_pos hc2] at h
      cases h
      exact go_ret 2 (fun _ => hp)
    · rw [if_neg hc2] at h
      refine go_if (c := p0 ≤ (1 : Int32)) (k1 := 10) (L1 := [some (.ref 0), some (.int p0), none]) (S1 := []) (σ1 := σ) (k2 := 8) (L2 := [some (.ref 0), some (.int p0), none]) (S2 := []) (σ2 := σ) 3 (fun n h => h) (fun hc3 => ?_) (fun hc3 => ?_)
      · rw [if_pos hc3] at h
        refine go_if (c := p0 ≠ 0) (k1 := 14) (L1 := [some (.ref 0), some (.int p0), none]) (S1 := []) (σ1 := σ) (k2 := 12) (L2 := [some (.ref 0), some (.int p0), none]) (S2 := []) (σ2 := σ) 2 (fun n h => h) (fun hc4 => ?_) (fun hc4 => ?_)
        · rw [if_pos hc4] at h
          refine go_st (k' := 15) (L' := [some (.ref 0), some (.int p0), none]) (S' := [.int (2 : Int32)]) (σ' := σ) 1 (fun n h => h) ?_
          exact t_X_rank_b15 d _ _ (2 : Int32) σ h hp
        · rw [if_neg hc4] at h
          refine go_st (k' := 15) (L' := [some (.ref 0), some (.int p0), none]) (S' := [.int (3 : Int32)]) (σ' := σ) 2 (fun n h => h) ?_
          exact t_X_rank_b15 d _ _ (3 : Int32) σ h hp
      · rw [if_neg hc3] at h
        cases h
        exact go_ret 2 (fun _ => hp)
def f_X_classAt_b18 (N : Nat) (s0 : Int32) (σ : aSt) : Option Int64 :=
  ((f_Whole_withoutSquares N s0).bind fun x3 => ((f_Whole_residue N (f_PointList_b_11 σ).toInt64 (iabs x3)).bind fun x4 => (if x4 ≠ 0 then some (-9223372036854775808 : Int64) else some x3.toInt64)))
set_option maxRecDepth 20000 in
set_option maxHeartbeats 4000000 in
theorem t_X_classAt_b18 (d : Nat) {N : Nat} (d1 d2 d3 : Option Value) (s0 : Int32) (σ : aSt) {P : Option Value → aSt → Prop} {x : Int64} (h : f_X_classAt_b18 N s0 σ = some x) (hp : P (some (.long x)) σ) : aGo (aCall MT (d + 2)) P mc_X_classAt 18 [some (.ref 0), d1, d2, d3] [.int s0] σ := by
  unfold f_X_classAt_b18 at h
  obtain ⟨x3, hx3, h⟩ := bind_of h
  refine go_call (r := some (.int x3)) (σc := σ) (σ1 := σ) (mi := 30) (vs := [.int s0]) (k' := 19) (L' := [some (.ref 0), d1, d2, d3]) (S' := []) 1 (fun P9 h9 => c_Whole_withoutSquares (d + 1) s0 σ hx3 h9) (fun n h => h) ?_
  refine go_call (r := some (.int (f_PointList_b_11 σ))) (σc := σ) (σ1 := σ) (mi := 27) (vs := [.ref 11]) (k' := 23) (L' := [some (.ref 0), d1, none, some (.int x3)]) (S' := []) 4 (fun P9 h9 => c_PointList_b_11 (d + 1) σ h9) (fun n h => h) ?_
  obtain ⟨x4, hx4, h⟩ := bind_of h
  refine go_call (r := some (.int x4)) (σc := σ) (σ1 := σ) (mi := 137) (vs := [.long (f_PointList_b_11 σ).toInt64, .int (iabs x3)]) (k' := 27) (L' := [some (.ref 0), d1, none, some (.int x3)]) (S' := []) 4 (fun P9 h9 => c_Whole_residue (d + 1) (f_PointList_b_11 σ).toInt64 (iabs x3) σ hx4 h9) (fun n h => h) ?_
  refine go_if (c := x4 ≠ 0) (k1 := 31) (L1 := [some (.ref 0), d1, none, some (.int x3)]) (S1 := []) (σ1 := σ) (k2 := 28) (L2 := [some (.ref 0), d1, none, some (.int x3)]) (S2 := []) (σ2 := σ) 1 (fun n h => h) (fun hc5 => ?_) (fun hc5 => ?_)
  · rw [if_pos hc5] at h
    cases h
    exact go_ret 2 (fun _ => hp)
  · rw [if_neg hc5] at h
    cases h
    exact go_ret 4 (fun _ => hp)
def f_X_classAt (N : Nat) (p0 : Int32) (σ : aSt) : Option Int64 :=
  (if (f_X_isListed p0 σ) = true then (if (f_PointList_m_11 p0 σ) ≠ 0 then f_X_classAt_b18 N (f_PointList_m_11 p0 σ) σ else f_X_classAt_b18 N (f_PointList_b_11 σ) σ) else some (-9223372036854775808 : Int64))
set_option maxRecDepth 20000 in
set_option maxHeartbeats 4000000 in
theorem c_X_classAt (d : Nat) {N : Nat} (p0 : Int32) (σ : aSt) {P : Option Value → aSt → Prop} {x : Int64} (h : f_X_classAt N p0 σ = some x) (hp : P (some (.long x)) σ) : aCall MT (d + 3) 204 [.ref 0, .int p0] σ P := by
  unfold f_X_classAt at h
  refine call_of (code := mc_X_classAt) (L := [some (.ref 0), some (.int p0), none, none]) rfl rfl rfl rfl ?_
  refine go_call (r := some (.int (b2i (f_X_isListed p0 σ)))) (σc := σ) (σ1 := σ) (mi := 73) (vs := [.ref 0, .int p0]) (k' := 3) (L' := [some (.ref 0), some (.int p0), none, none]) (S' := []) 3 (fun P9 h9 => c_X_isListed (d + 0) p0 σ h9) (fun n h => h) ?_
  refine go_ifn (b := (f_X_isListed p0 σ)) (k1 := 6) (L1 := [some (.ref 0), some (.int p0), none, none]) (S1 := []) (σ1 := σ) (k2 := 4) (L2 := [some (.ref 0), some (.int p0), none, none]) (S2 := []) (σ2 := σ) 1 (fun n h => h) (fun hc1 => ?_) (fun hc1 => ?_)
  · rw [if_pos hc1] at h
    refine go_call (r := some (.int (f_PointList_m_11 p0 σ))) (σc := σ) (σ1 := σ) (mi := 74) (vs := [.ref 11, .int p0]) (k' := 10) (L' := [some (.ref 0), some (.int p0), none, none]) (S' := []) 4 (fun P9 h9 => c_PointList_m_11 (d + 1) p0 σ h9) (fun n h => h) ?_
    refine go_if (c := (f_PointList_m_11 p0 σ) ≠ 0) (k1 := 17) (L1 := [some (.ref 0), none, some (.int (f_PointList_m_11 p0 σ)), none]) (S1 := []) (σ1 := σ) (k2 := 13) (L2 := [some (.ref 0), none, some (.int (f_PointList_m_11 p0 σ)), none]) (S2 := []) (σ2 := σ) 3 (fun n h => h) (fun hc2 => ?_) (fun hc2 => ?_)
    · rw [if_pos hc2] at h
      refine go_st (k' := 18) (L' := [some (.ref 0), none, some (.int (f_PointList_m_11 p0 σ)), none]) (S' := [.int (f_PointList_m_11 p0 σ)]) (σ' := σ) 1 (fun n h => h) ?_
      exact t_X_classAt_b18 d _ _ _ (f_PointList_m_11 p0 σ) σ h hp
    · rw [if_neg hc2] at h
      refine go_call (r := some (.int (f_PointList_b_11 σ))) (σc := σ) (σ1 := σ) (mi := 27) (vs := [.ref 11]) (k' := 16) (L' := [some (.ref 0), none, some (.int (f_PointList_m_11 p0 σ)), none]) (S' := []) 3 (fun P9 h9 => c_PointList_b_11 (d + 1) σ h9) (fun n h => h) ?_
      refine go_st (k' := 18) (L' := [some (.ref 0), none, some (.int (f_PointList_m_11 p0 σ)), none]) (S' := [.int (f_PointList_b_11 σ)]) (σ' := σ) 1 (fun n h => h) ?_
      exact t_X_classAt_b18 d _ _ _ (f_PointList_b_11 σ) σ h hp
  · rw [if_neg hc1] at h
    cases h
    exact go_ret 2 (fun _ => hp)
def f_PointList_height_11 (p0 : Int32) (σ : aSt) : Int32 :=
  (imax (iabs (f_PointList_m_11 p0 σ)) ((f_PointList_e_11 p0 σ) * (f_PointList_e_11 p0 σ)))
set_option maxRecDepth 20000 in
set_option maxHeartbeats 4000000 in
theorem c_PointList_height_11 (d : Nat) (p0 : Int32) (σ : aSt) {P : Option Value → aSt → Prop} (h : P (some (.int ((f_PointList_height_11 p0 σ)))) σ) : aCall MT (d + 2) 207 [.ref 11, .int p0] σ P := by
  unfold f_PointList_height_11 at h
  refine call_of (code := mc_PointList_height) (L := [some (.ref 11), some (.int p0)]) rfl rfl rfl rfl ?_
  refine go_call (r := some (.int (f_PointList_m_11 p0 σ))) (σc := σ) (σ1 := σ) (mi := 74) (vs := [.ref 11, .int p0]) (k' := 3) (L' := [some (.ref 11), some (.int p0)]) (S' := []) 3 (fun P9 h9 => c_PointList_m_11 (d + 0) p0 σ h9) (fun n h => h) ?_
  refine go_call (r := some (.int (f_PointList_e_11 p0 σ))) (σc := σ) (σ1 := σ) (mi := 76) (vs := [.ref 11, .int p0]) (k' := 7) (L' := [some (.ref 11), some (.int p0)]) (S' := [.int (iabs (f_PointList_m_11 p0 σ))]) 4 (fun P9 h9 => c_PointList_e_11 (d + 0) p0 σ h9) (fun n h => h) ?_
  refine go_call (r := some (.int (f_PointList_e_11 p0 σ))) (σc := σ) (σ1 := σ) (mi := 76) (vs := [.ref 11, .int p0]) (k' := 10) (L' := [some (.ref 11), some (.int p0)]) (S' := [.int (f_PointList_e_11 p0 σ), .int (iabs (f_PointList_m_11 p0 σ))]) 3 (fun P9 h9 => c_PointList_e_11 (d + 0) p0 σ h9) (fun n h => h) ?_
  exact go_ret 3 (fun _ => h)
def f_X_bits (p0 : Int32) (σ : aSt) : Int32 :=
  (if (f_X_isPoint p0 σ) = true then (if p0 ≠ (1000 : Int32) then (f_Whole_digits (f_PointList_height_11 p0 σ).toInt64) else (0 : Int32)) else (-2 : Int32))
set_option maxRecDepth 20000 in
set_option maxHeartbeats 4000000 in
theorem c_X_bits (d : Nat) (p0 : Int32) (σ : aSt) {P : Option Value → aSt → Prop} (h : P (some (.int ((f_X_bits p0 σ)))) σ) : aCall MT (d + 4) 208 [.ref 0, .int p0] σ P := by
  unfold f_X_bits at h
  refine call_of (code := mc_X_bits) (L := [some (.ref 0), some (.int p0)]) rfl rfl rfl rfl ?_
  refine go_call (r := some (.int (b2i (f_X_isPoint p0 σ)))) (σc := σ) (σ1 := σ) (mi := 85) (vs := [.ref 0, .int p0]) (k' := 3) (L' := [some (.ref 0), some (.int p0)]) (S' := []) 3 (fun P9 h9 => c_X_isPoint (d + 0) p0 σ h9) (fun n h => h) ?_
  refine go_ifn (b := (f_X_isPoint p0 σ)) (k1 := 6) (L1 := [some (.ref 0), some (.int p0)]) (S1 := []) (σ1 := σ) (k2 := 4) (L2 := [some (.ref 0), some (.int p0)]) (S2 := []) (σ2 := σ) 1 (fun n h => h) (fun hc1 => ?_) (fun hc1 => ?_)
  · rw [if_pos hc1] at h
    refine go_if (c := p0 ≠ (1000 : Int32)) (k1 := 11) (L1 := [some (.ref 0), some (.int p0)]) (S1 := []) (σ1 := σ) (k2 := 9) (L2 := [some (.ref 0), some (.int p0)]) (S2 := []) (σ2 := σ) 3 (fun n h => h) (fun hc2 => ?_) (fun hc2 => ?_)
    · rw [if_pos hc2] at h
      refine go_call (r := some (.int (f_PointList_height_11 p0 σ))) (σc := σ) (σ1 := σ) (mi := 207) (vs := [.ref 11, .int p0]) (k' := 15) (L' := [some (.ref 0), some (.int p0)]) (S' := []) 4 (fun P9 h9 => c_PointList_height_11 (d + 1) p0 σ h9) (fun n h => h) ?_
      refine go_call (r := some (.int (f_Whole_digits (f_PointList_height_11 p0 σ).toInt64))) (σc := σ) (σ1 := σ) (mi := 199) (vs := [.long (f_PointList_height_11 p0 σ).toInt64]) (k' := 17) (L' := [some (.ref 0), some (.int p0)]) (S' := []) 2 (fun P9 h9 => c_Whole_digits (d + 0) (f_PointList_height_11 p0 σ).toInt64 σ h9) (fun n h => h) ?_
      exact go_ret 1 (fun _ => h)
    · rw [if_neg hc2] at h
      exact go_ret 3 (fun _ => h)
  · rw [if_neg hc1] at h
    exact go_ret 2 (fun _ => h)
def f_Adder_heightDigits (σ : aSt) : Int32 :=
  (if (σ.2.2 22 0) = true then (0 : Int32) else (f_Whole_digits (f_Adder_height σ)))
set_option maxRecDepth 20000 in
set_option maxHeartbeats 4000000 in
theorem c_Adder_heightDigits (d : Nat) (σ : aSt) {P : Option Value → aSt → Prop} (h : P (some (.int ((f_Adder_heightDigits σ)))) σ) : aCall MT (d + 4) 212 [.ref 22] σ P := by
  unfold f_Adder_heightDigits at h
  refine call_of (code := mc_Adder_heightDigits) (L := [some (.ref 22)]) rfl rfl rfl rfl ?_
  refine go_ifz (b := (σ.2.2 22 0)) (k1 := 5) (L1 := [some (.ref 22)]) (S1 := []) (σ1 := σ) (k2 := 3) (L2 := [some (.ref 22)]) (S2 := []) (σ2 := σ) 3 (fun n h => h) (fun hc1 => ?_) (fun hc1 => ?_)
  · rw [if_neg hc1] at h
    refine go_call (r := some (.long (f_Adder_height σ))) (σc := σ) (σ1 := σ) (mi := 112) (vs := [.ref 22]) (k' := 7) (L' := [some (.ref 22)]) (S' := []) 2 (fun P9 h9 => c_Adder_height (d + 2) σ h9) (fun n h => h) ?_
    refine go_call (r := some (.int (f_Whole_digits (f_Adder_height σ)))) (σc := σ) (σ1 := σ) (mi := 199) (vs := [.long (f_Adder_height σ)]) (k' := 8) (L' := [some (.ref 22)]) (S' := []) 1 (fun P9 h9 => c_Whole_digits (d + 0) (f_Adder_height σ) σ h9) (fun n h => h) ?_
    exact go_ret 1 (fun _ => h)
  · rw [if_pos hc1] at h
    exact go_ret 3 (fun _ => h)
def f_X_parallel (N : Nat) (p0 : Int32) (p1 : Int32) (σ : aSt) : Option (Int64 × aSt) :=
  (if (f_X_isListed p0 σ) = true then (if (f_X_isListed p1 σ) = true then ((f_Sums_joined N p0 p1 σ).bind fun x3 => ((f_Sums_joined N p0 (f_Sums_negative p1 x3) x3).bind fun x4 => some ((((f_Adder_heightDigits x3).toInt64 + (f_Adder_heightDigits x4).toInt64) - ((2 : Int64) * ((f_X_bits p0 σ) + (f_X_bits p1 σ)).toInt64)), x4))) else some ((-9223372036854775808 : Int64), σ)) else some ((-9223372036854775808 : Int64), σ))
set_option maxRecDepth 20000 in
set_option maxHeartbeats 4000000 in
theorem c_X_parallel (d : Nat) {N : Nat} (p0 : Int32) (p1 : Int32) (σ : aSt) {P : Option Value → aSt → Prop} {x : (Int64 × aSt)} (h : f_X_parallel N p0 p1 σ = some x) (hp : P (some (.long x.1)) x.2) : aCall MT (d + 5) 213 [.ref 0, .int p0, .int p1] σ P := by
  unfold f_X_parallel at h
  refine call_of (code := mc_X_parallel) (L := [some (.ref 0), some (.int p0), some (.int p1), none, none, none, none, none, none]) rfl rfl rfl rfl ?_
  refine go_call (r := some (.int (b2i (f_X_isListed p0 σ)))) (σc := σ) (σ1 := σ) (mi := 73) (vs := [.ref 0, .int p0]) (k' := 3) (L' := [some (.ref 0), some (.int p0), some (.int p1), none, none, none, none, none, none]) (S' := []) 3 (fun P9 h9 => c_X_isListed (d + 2) p0 σ h9) (fun n h => h) ?_
  refine go_ifz (b := (f_X_isListed p0 σ)) (k1 := 8) (L1 := [some (.ref 0), some (.int p0), some (.int p1), none, none, none, none, none, none]) (S1 := []) (σ1 := σ) (k2 := 4) (L2 := [some (.ref 0), some (.int p0), some (.int p1), none, none, none, none, none, none]) (S2 := []) (σ2 := σ) 1 (fun n h => h) (fun hc1 => ?_) (fun hc1 => ?_)
  · rw [if_neg hc1] at h
    cases h
    exact go_ret 2 (fun _ => hp)
  · rw [if_pos hc1] at h
    refine go_call (r := some (.int (b2i (f_X_isListed p1 σ)))) (σc := σ) (σ1 := σ) (mi := 73) (vs := [.ref 0, .int p1]) (k' := 7) (L' := [some (.ref 0), some (.int p0), some (.int p1), none, none, none, none, none, none]) (S' := []) 3 (fun P9 h9 => c_X_isListed (d + 2) p1 σ h9) (fun n h => h) ?_
    refine go_ifn (b := (f_X_isListed p1 σ)) (k1 := 10) (L1 := [some (.ref 0), some (.int p0), some (.int p1), none, none, none, none, none, none]) (S1 := []) (σ1 := σ) (k2 := 8) (L2 := [some (.ref 0), some (.int p0), some (.int p1), none, none, none, none, none, none]) (S2 := []) (σ2 := σ) 1 (fun n h => h) (fun hc2 => ?_) (fun hc2 => ?_)
    · rw [if_pos hc2] at h
      refine go_call (r := some (.int (f_X_bits p0 σ))) (σc := σ) (σ1 := σ) (mi := 208) (vs := [.ref 0, .int p0]) (k' := 14) (L' := [some (.ref 0), some (.int p0), some (.int p1), none, none, none, none, none, none]) (S' := [.long (2 : Int64)]) 4 (fun P9 h9 => c_X_bits (d + 0) p0 σ h9) (fun n h => h) ?_
      refine go_call (r := some (.int (f_X_bits p1 σ))) (σc := σ) (σ1 := σ) (mi := 208) (vs := [.ref 0, .int p1]) (k' := 17) (L' := [some (.ref 0), some (.int p0), some (.int p1), none, none, none, none, none, none]) (S' := [.int (f_X_bits p0 σ), .long (2 : Int64)]) 3 (fun P9 h9 => c_X_bits (d + 0) p1 σ h9) (fun n h => h) ?_
      obtain ⟨x3, hx3, h⟩ := bind_of h
      refine go_call (r := some (.ref 22)) (σc := σ) (σ1 := x3) (mi := 108) (vs := [.ref 21, .int p0, .int p1]) (k' := 26) (L' := [some (.ref 0), some (.int p0), some (.int p1), some (.long ((2 : Int64) * ((f_X_bits p0 σ) + (f_X_bits p1 σ)).toInt64)), none, none, none, none, none]) (S' := []) 9 (fun P9 h9 => c_Sums_joined (d + 1) p0 p1 σ hx3 h9) (fun n h => h) ?_
      refine go_call (r := some (.int (f_Adder_heightDigits x3))) (σc := x3) (σ1 := x3) (mi := 212) (vs := [.ref 22]) (k' := 27) (L' := [some (.ref 0), some (.int p0), some (.int p1), some (.long ((2 : Int64) * ((f_X_bits p0 σ) + (f_X_bits p1 σ)).toInt64)), none, none, none, none, none]) (S' := []) 1 (fun P9 h9 => c_Adder_heightDigits (d + 0) x3 h9) (fun n h => h) ?_
      refine go_call (r := some (.int (f_Sums_negative p1 x3))) (σc := x3) (σ1 := x3) (mi := 87) (vs := [.ref 21, .int p1]) (k' := 36) (L' := [some (.ref 0), some (.int p0), some (.int p1), some (.long ((2 : Int64) * ((f_X_bits p0 σ) + (f_X_bits p1 σ)).toInt64)), none, some (.long (f_Adder_heightDigits x3).toInt64), none, none, none]) (S' := [.int p0, .ref 21]) 9 (fun P9 h9 => c_Sums_negative (d + 1) p1 x3 h9) (fun n h => h) ?_
      obtain ⟨x4, hx4, h⟩ := bind_of h
      refine go_call (r := some (.ref 22)) (σc := x3) (σ1 := x4) (mi := 108) (vs := [.ref 21, .int p0, .int (f_Sums_negative p1 x3)]) (k' := 37) (L' := [some (.ref 0), some (.int p0), some (.int p1), some (.long ((2 : Int64) * ((f_X_bits p0 σ) + (f_X_bits p1 σ)).toInt64)), none, some (.long (f_Adder_heightDigits x3).toInt64), none, none, none]) (S' := []) 1 (fun P9 h9 => c_Sums_joined (d + 1) p0 (f_Sums_negative p1 x3) x3 hx4 h9) (fun n h => h) ?_
      refine go_call (r := some (.int (f_Adder_heightDigits x4))) (σc := x4) (σ1 := x4) (mi := 212) (vs := [.ref 22]) (k' := 38) (L' := [some (.ref 0), some (.int p0), some (.int p1), some (.long ((2 : Int64) * ((f_X_bits p0 σ) + (f_X_bits p1 σ)).toInt64)), none, some (.long (f_Adder_heightDigits x3).toInt64), none, none, none]) (S' := []) 1 (fun P9 h9 => c_Adder_heightDigits (d + 0) x4 h9) (fun n h => h) ?_
      cases h
      exact go_ret 8 (fun _ => hp)
    · rw [if_neg hc2] at h
      cases h
      exact go_ret 2 (fun _ => hp)
