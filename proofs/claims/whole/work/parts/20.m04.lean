def f_Closure_forget_30 (σ : aSt) : aSt :=
  (lt (f_fill (s_i (s_b σ 30 6 false) 30 5 (0 : Int32)) 32 (0 : Int32)) fun x1 => (lt (f_store x1 31 (0 : Int32) (1000 : Int32)) fun x2 => (s_i x2 30 4 (1 : Int32))))
set_option maxRecDepth 20000 in
set_option maxHeartbeats 4000000 in
theorem c_Closure_forget_30 (d : Nat) (σ : aSt) {P : Option Value → aSt → Prop} (h : P none (f_Closure_forget_30 σ)) : aCall MT (d + 2) 43 [.ref 30] σ P := by
  unfold f_Closure_forget_30 at h
  refine call_of (code := mc_Closure_forget) (L := [some (.ref 30)]) rfl rfl rfl rfl ?_
  refine go_q (Q := (0 : Int32) = 0 ∨ (0 : Int32) = 1) (k' := 3) (L' := [some (.ref 30)]) (S' := []) (σ' := (s_b σ 30 6 false)) 3 (Or.inl rfl) (fun n h => h) ?_
  obtain ⟨x1, hx1⟩ : ∃ x1, x1 = f_fill (s_i (s_b σ 30 6 false) 30 5 (0 : Int32)) 32 (0 : Int32) := ⟨_, rfl⟩
  rw [lt_eq, ← hx1] at h
  refine go_call (r := none) (σc := (s_i (s_b σ 30 6 false) 30 5 (0 : Int32))) (σ1 := x1) (mi := 28) (vs := [.ref 32, .int (0 : Int32)]) (k' := 10) (L' := [some (.ref 30)]) (S' := []) 7 (fun P9 h9 => c_fill (d + 0) (s_i (s_b σ 30 6 false) 30 5 (0 : Int32)) 32 rfl rfl (0 : Int32) (by rw [← hx1]; exact h9)) (fun n h => h) ?_
  obtain ⟨x2, hx2⟩ : ∃ x2, x2 = f_store x1 31 (0 : Int32) (1000 : Int32) := ⟨_, rfl⟩
  rw [lt_eq, ← hx2] at h
  refine go_call (r := none) (σc := x1) (σ1 := x2) (mi := 1) (vs := [.ref 31, .int (0 : Int32), .int (1000 : Int32)]) (k' := 15) (L' := [some (.ref 30)]) (S' := []) 5 (fun P9 h9 => c_store (d + 0) x1 31 rfl rfl (0 : Int32) (1000 : Int32) (by rw [← hx2]; exact h9)) (fun n h => h) ?_
  exact go_ret 4 (fun _ => h)
def f_Sums_shown (σ : aSt) : Int32 :=
  (f_PointList_shown_11 σ)
set_option maxRecDepth 20000 in
set_option maxHeartbeats 4000000 in
theorem c_Sums_shown (d : Nat) (σ : aSt) {P : Option Value → aSt → Prop} (h : P (some (.int ((f_Sums_shown σ)))) σ) : aCall MT (d + 2) 216 [.ref 21] σ P := by
  unfold f_Sums_shown at h
  refine call_of (code := mc_Sums_shown) (L := [some (.ref 21)]) rfl rfl rfl rfl ?_
  refine go_call (r := some (.int (f_PointList_shown_11 σ))) (σc := σ) (σ1 := σ) (mi := 44) (vs := [.ref 11]) (k' := 3) (L' := [some (.ref 21)]) (S' := []) 3 (fun P9 h9 => c_PointList_shown_11 (d + 0) σ h9) (fun n h => h) ?_
  exact go_ret 1 (fun _ => h)
def f_Closure_take_30 (p0 : Int32) (σ : aSt) : aSt :=
  (if p0 < 0 then σ else (if (f_Sums_shown σ) ≤ p0 then σ else (if (f_pick σ 32 p0) = 0 then (lt (f_store σ 32 p0 (1 : Int32)) fun x4 => (lt (f_store x4 31 (x4.1 30 4) p0) fun x5 => (s_i x5 30 4 ((x5.1 30 4) + (1 : Int32))))) else σ)))
set_option maxRecDepth 20000 in
set_option maxHeartbeats 4000000 in
theorem c_Closure_take_30 (d : Nat) (p0 : Int32) (σ : aSt) {P : Option Value → aSt → Prop} (h : P none (f_Closure_take_30 p0 σ)) : aCall MT (d + 3) 217 [.ref 30, .int p0] σ P := by
  unfold f_Closure_take_30 at h
  refine call_of (code := mc_Closure_take) (L := [some (.ref 30), some (.int p0)]) rfl rfl rfl rfl ?_
  refine go_if (c := p0 < 0) (k1 := 12) (L1 := [some (.ref 30), some (.int p0)]) (S1 := []) (σ1 := σ) (k2 := 2) (L2 := [some (.ref 30), some (.int p0)]) (S2 := []) (σ2 := σ) 2 (fun n h => h) (fun hc1 => ?_) (fun hc1 => ?_)
  · rw [if_pos hc1] at h
    exact go_ret 1 (fun _ => h)
  · rw [if_neg hc1] at h
    refine go_call (r := some (.int (f_Sums_shown σ))) (σc := σ) (σ1 := σ) (mi := 216) (vs := [.ref 21]) (k' := 6) (L' := [some (.ref 30), some (.int p0)]) (S' := [.int p0]) 4 (fun P9 h9 => c_Sums_shown (d + 0) σ h9) (fun n h => h) ?_
    refine go_if (c := (f_Sums_shown σ) ≤ p0) (k1 := 12) (L1 := [some (.ref 30), some (.int p0)]) (S1 := []) (σ1 := σ) (k2 := 7) (L2 := [some (.ref 30), some (.int p0)]) (S2 := []) (σ2 := σ) 1 (fun n h => h) (fun hc2 => ?_) (fun hc2 => ?_)
    · rw [if_pos hc2] at h
      exact go_ret 1 (fun _ => h)
    · rw [if_neg hc2] at h
      refine go_call (r := some (.int (f_pick σ 32 p0))) (σc := σ) (σ1 := σ) (mi := 9) (vs := [.ref 32, .int p0]) (k' := 11) (L' := [some (.ref 30), some (.int p0)]) (S' := []) 4 (fun P9 h9 => c_pick (d + 1) σ 32 rfl p0 h9) (fun n h => h) ?_
      refine go_if (c := (f_pick σ 32 p0) = 0) (k1 := 13) (L1 := [some (.ref 30), some (.int p0)]) (S1 := []) (σ1 := σ) (k2 := 12) (L2 := [some (.ref 30), some (.int p0)]) (S2 := []) (σ2 := σ) 1 (fun n h => h) (fun hc3 => ?_) (fun hc3 => ?_)
      · rw [if_pos hc3] at h
        obtain ⟨x4, hx4⟩ : ∃ x4, x4 = f_store σ 32 p0 (1 : Int32) := ⟨_, rfl⟩
        rw [lt_eq, ← hx4] at h
        refine go_call (r := none) (σc := σ) (σ1 := x4) (mi := 1) (vs := [.ref 32, .int p0, .int (1 : Int32)]) (k' := 18) (L' := [some (.ref 30), some (.int p0)]) (S' := []) 5 (fun P9 h9 => c_store (d + 1) σ 32 rfl rfl p0 (1 : Int32) (by rw [← hx4]; exact h9)) (fun n h => h) ?_
        obtain ⟨x5, hx5⟩ : ∃ x5, x5 = f_store x4 31 (x4.1 30 4) p0 := ⟨_, rfl⟩
        rw [lt_eq, ← hx5] at h
        refine go_call (r := none) (σc := x4) (σ1 := x5) (mi := 1) (vs := [.ref 31, .int (x4.1 30 4), .int p0]) (k' := 24) (L' := [some (.ref 30), some (.int p0)]) (S' := []) 6 (fun P9 h9 => c_store (d + 1) x4 31 rfl rfl (x4.1 30 4) p0 (by rw [← hx5]; exact h9)) (fun n h => h) ?_
        exact go_ret 7 (fun _ => h)
      · rw [if_neg hc3] at h
        exact go_ret 1 (fun _ => h)
def f_Closure_maker_30 (p0 : Int32) (σ : aSt) : Int32 :=
  (f_pick σ 33 p0)
set_option maxRecDepth 20000 in
set_option maxHeartbeats 4000000 in
theorem c_Closure_maker_30 (d : Nat) (p0 : Int32) (σ : aSt) {P : Option Value → aSt → Prop} (h : P (some (.int ((f_Closure_maker_30 p0 σ)))) σ) : aCall MT (d + 2) 218 [.ref 30, .int p0] σ P := by
  unfold f_Closure_maker_30 at h
  refine call_of (code := mc_Closure_maker) (L := [some (.ref 30), some (.int p0)]) rfl rfl rfl rfl ?_
  refine go_call (r := some (.int (f_pick σ 33 p0))) (σc := σ) (σ1 := σ) (mi := 9) (vs := [.ref 33, .int p0]) (k' := 4) (L' := [some (.ref 30), some (.int p0)]) (S' := []) 4 (fun P9 h9 => c_pick (d + 0) σ 33 rfl p0 h9) (fun n h => h) ?_
  exact go_ret 1 (fun _ => h)
def f_Closure_addMaker_30_l39 (N : Nat) (k72 : Int32 → Int32 → aSt → Option aSt) : Nat → Int32 → Int32 → Int32 → aSt → Option aSt
  | 0, _, _, _, _ => none
  | n + 1, v2, v3, v4, σ => (if (σ.1 30 5) ≤ v4 then k72 v2 v3 σ else (if 0 ≤ v3 ∧ v3 < (121 : Int32) then ((f_Sums_heldTotal N (σ.1 31 v3.toNatClampNeg) (f_Closure_maker_30 v4 σ) σ).bind fun x8 => (lt (f_Closure_take_30 x8.1 x8.2) fun x9 => ((f_Sums_heldTotal N (x9.1 31 v3.toNatClampNeg) (f_Sums_negative (f_Closure_maker_30 v4 σ) x9) x9).bind fun x10 => (lt (f_Closure_take_30 x10.1 x10.2) fun x11 => f_Closure_addMaker_30_l39 N k72 n v2 v3 (v4 + (1 : Int32)) x11)))) else none))
set_option maxRecDepth 20000 in
set_option maxHeartbeats 4000000 in
theorem t_Closure_addMaker_30_l39 (d : Nat) {N : Nat} (k72 : Int32 → Int32 → aSt → Option aSt) {x : aSt} {P : Option Value → aSt → Prop} (hp : P none x) (hk72 : ∀ (d1 d4 d5 : Option Value) (v2 : Int32) (v3 : Int32) (σ : aSt), k72 v2 v3 σ = some x → aGo (aCall MT (d + 3)) P mc_Closure_addMaker 72 [some (.ref 30), d1, some (.int v2), some (.int v3), d4, d5] [] σ) : ∀ (n : Nat) (d1 d5 : Option Value) (v2 : Int32) (v3 : Int32) (v4 : Int32) (σ : aSt), f_Closure_addMaker_30_l39 N k72 n v2 v3 v4 σ = some x → aGo (aCall MT (d + 3)) P mc_Closure_addMaker 39 [some (.ref 30), d1, some (.int v2), some (.int v3), some (.int v4), d5] [] σ := by
  intro n
  induction n with
  | zero => intro d1 d5 v2 v3 v4 σ h; cases h
  | succ n ih =>
    intro d1 d5 v2 v3 v4 σ h
    rw [f_Closure_addMaker_30_l39] at h
    refine go_if (c := (σ.1 30 5) ≤ v4) (k1 := 72) (L1 := [some (.ref 30), d1, some (.int v2), some (.int v3), some (.int v4), d5]) (S1 := []) (σ1 := σ) (k2 := 43) (L2 := [some (.ref 30), d1, some (.int v2), some (.int v3), some (.int v4), d5]) (S2 := []) (σ2 := σ) 4 (fun n h => h) (fun hc6 => ?_) (fun hc6 => ?_)
    · rw [if_pos hc6] at h
      exact hk72 _ _ _ v2 v3 σ h
    · rw [if_neg hc6] at h
      refine go_call (r := some (.int (f_Closure_maker_30 v4 σ))) (σc := σ) (σ1 := σ) (mi := 218) (vs := [.ref 30, .int v4]) (k' := 46) (L' := [some (.ref 30), d1, some (.int v2), some (.int v3), some (.int v4), d5]) (S' := []) 3 (fun P9 h9 => c_Closure_maker_30 (d + 1) v4 σ h9) (fun n h => h) ?_
      obtain ⟨hc7, h⟩ := ite_of h
      refine go_q (Q := inb 0 σ 31 v3) (k' := 54) (L' := [some (.ref 30), d1, some (.int v2), some (.int v3), some (.int v4), some (.int (f_Closure_maker_30 v4 σ))]) (S' := [.int (σ.1 31 v3.toNatClampNeg), .ref 21, .ref 30]) (σ' := σ) 8 (inb_mk rfl hc7.1 hc7.2) (fun n h => h) ?_
      obtain ⟨x8, hx8, h⟩ := bind_of h
      refine go_call (r := some (.int x8.1)) (σc := σ) (σ1 := x8.2) (mi := 100) (vs := [.ref 21, .int (σ.1 31 v3.toNatClampNeg), .int (f_Closure_maker_30 v4 σ)]) (k' := 56) (L' := [some (.ref 30), d1, some (.int v2), some (.int v3), some (.int v4), some (.int (f_Closure_maker_30 v4 σ))]) (S' := [.ref 30]) 2 (fun P9 h9 => c_Sums_heldTotal (d + 0) (σ.1 31 v3.toNatClampNeg) (f_Closure_maker_30 v4 σ) σ hx8 h9) (fun n h => h) ?_
      obtain ⟨x9, hx9, h⟩ := lt_of h
      refine go_call (r := none) (σc := x8.2) (σ1 := x9) (mi := 217) (vs := [.ref 30, .int x8.1]) (k' := 57) (L' := [some (.ref 30), d1, some (.int v2), some (.int v3), some (.int v4), some (.int (f_Closure_maker_30 v4 σ))]) (S' := []) 1 (fun P9 h9 => c_Closure_take_30 (d + 0) x8.1 x8.2 (by rw [← hx9]; exact h9)) (fun n h => h) ?_
      refine go_q (Q := inb 0 x9 31 v3) (k' := 64) (L' := [some (.ref 30), d1, some (.int v2), some (.int v3), some (.int v4), some (.int (f_Closure_maker_30 v4 σ))]) (S' := [.int (x9.1 31 v3.toNatClampNeg), .ref 21, .ref 30]) (σ' := x9) 7 (inb_mk rfl hc7.1 hc7.2) (fun n h => h) ?_
      refine go_call (r := some (.int (f_Sums_negative (f_Closure_maker_30 v4 σ) x9))) (σc := x9) (σ1 := x9) (mi := 87) (vs := [.ref 21, .int (f_Closure_maker_30 v4 σ)]) (k' := 68) (L' := [some (.ref 30), d1, some (.int v2), some (.int v3), some (.int v4), some (.int (f_Closure_maker_30 v4 σ))]) (S' := [.int (x9.1 31 v3.toNatClampNeg), .ref 21, .ref 30]) 4 (fun P9 h9 => c_Sums_negative (d + 0) (f_Closure_maker_30 v4 σ) x9 h9) (fun n h => h) ?_
      obtain ⟨x10, hx10, h⟩ := bind_of h
      refine go_call (r := some (.int x10.1)) (σc := x9) (σ1 := x10.2) (mi := 100) (vs := [.ref 21, .int (x9.1 31 v3.toNatClampNeg), .int (f_Sums_negative (f_Closure_maker_30 v4 σ) x9)]) (k' := 69) (L' := [some (.ref 30), d1, some (.int v2), some (.int v3), some (.int v4), some (.int (f_Closure_maker_30 v4 σ))]) (S' := [.ref 30]) 1 (fun P9 h9 => c_Sums_heldTotal (d + 0) (x9.1 31 v3.toNatClampNeg) (f_Sums_negative (f_Closure_maker_30 v4 σ) x9) x9 hx10 h9) (fun n h => h) ?_
      obtain ⟨x11, hx11, h⟩ := lt_of h
      refine go_call (r := none) (σc := x10.2) (σ1 := x11) (mi := 217) (vs := [.ref 30, .int x10.1]) (k' := 70) (L' := [some (.ref 30), d1, some (.int v2), some (.int v3), some (.int v4), some (.int (f_Closure_maker_30 v4 σ))]) (S' := []) 1 (fun P9 h9 => c_Closure_take_30 (d + 0) x10.1 x10.2 (by rw [← hx11]; exact h9)) (fun n h => h) ?_
      refine go_st (k' := 39) (L' := [some (.ref 30), d1, some (.int v2), some (.int v3), some (.int (v4 + (1 : Int32))), some (.int (f_Closure_maker_30 v4 σ))]) (S' := []) (σ' := x11) 2 (fun n h => h) ?_
      exact ih _ _ v2 v3 (v4 + (1 : Int32)) x11 h
def f_Closure_addMaker_30_l20 (N : Nat) : Nat → Int32 → Int32 → aSt → Option aSt
  | 0, _, _, _ => none
  | n + 1, v2, v3, σ => (if (σ.1 30 4) ≤ v3 then some σ else (if (121 : Int32) ≤ v3 then some σ else (if v2 ≤ v3 then f_Closure_addMaker_30_l39 N (fun (y12 : Int32) (y13 : Int32) σ14 => f_Closure_addMaker_30_l20 N n y12 (y13 + (1 : Int32)) σ14) N v2 v3 (0 : Int32) σ else f_Closure_addMaker_30_l39 N (fun (y15 : Int32) (y16 : Int32) σ17 => f_Closure_addMaker_30_l20 N n y15 (y16 + (1 : Int32)) σ17) N v2 v3 ((σ.1 30 5) - (1 : Int32)) σ)))
set_option maxRecDepth 20000 in
set_option maxHeartbeats 4000000 in
theorem t_Closure_addMaker_30_l20 (d : Nat) {N : Nat} {x : aSt} {P : Option Value → aSt → Prop} (hp : P none x) : ∀ (n : Nat) (d1 d4 d5 : Option Value) (v2 : Int32) (v3 : Int32) (σ : aSt), f_Closure_addMaker_30_l20 N n v2 v3 σ = some x → aGo (aCall MT (d + 3)) P mc_Closure_addMaker 20 [some (.ref 30), d1, some (.int v2), some (.int v3), d4, d5] [] σ := by
  intro n
  induction n with
  | zero => intro d1 d4 d5 v2 v3 σ h; cases h
  | succ n ih =>
    intro d1 d4 d5 v2 v3 σ h
    rw [f_Closure_addMaker_30_l20] at h
    refine go_if (c := (σ.1 30 4) ≤ v3) (k1 := 74) (L1 := [some (.ref 30), d1, some (.int v2), some (.int v3), d4, d5]) (S1 := []) (σ1 := σ) (k2 := 24) (L2 := [some (.ref 30), d1, some (.int v2), some (.int v3), d4, d5]) (S2 := []) (σ2 := σ) 4 (fun n h => h) (fun hc3 => ?_) (fun hc3 => ?_)
    · rw [if_pos hc3] at h
      cases h
      exact go_ret 1 (fun _ => hp)
    · rw [if_neg hc3] at h
      refine go_if (c := (121 : Int32) ≤ v3) (k1 := 74) (L1 := [some (.ref 30), d1, some (.int v2), some (.int v3), d4, d5]) (S1 := []) (σ1 := σ) (k2 := 29) (L2 := [some (.ref 30), d1, some (.int v2), some (.int v3), d4, d5]) (S2 := []) (σ2 := σ) 5 (fun n h => h) (fun hc4 => ?_) (fun hc4 => ?_)
      · rw [if_pos hc4] at h
        cases h
        exact go_ret 1 (fun _ => hp)
      · rw [if_neg hc4] at h
        refine go_if (c := v2 ≤ v3) (k1 := 37) (L1 := [some (.ref 30), d1, some (.int v2), some (.int v3), d4, d5]) (S1 := []) (σ1 := σ) (k2 := 32) (L2 := [some (.ref 30), d1, some (.int v2), some (.int v3), d4, d5]) (S2 := []) (σ2 := σ) 3 (fun n h => h) (fun hc5 => ?_) (fun hc5 => ?_)
        · rw [if_pos hc5] at h
          refine go_st (k' := 39) (L' := [some (.ref 30), d1, some (.int v2), some (.int v3), some (.int (0 : Int32)), d5]) (S' := []) (σ' := σ) 2 (fun n h => h) ?_
          refine t_Closure_addMaker_30_l39 d _ hp (fun d1 d4 d5 y12 y13 σ14 h => ?_) N _ _ v2 v3 (0 : Int32) σ h
          · refine go_st (k' := 20) (L' := [some (.ref 30), d1, some (.int y12), some (.int (y13 + (1 : Int32))), d4, d5]) (S' := []) (σ' := σ14) 2 (fun n h => h) ?_
            exact ih _ _ _ y12 (y13 + (1 : Int32)) σ14 h
        · rw [if_neg hc5] at h
          refine go_st (k' := 39) (L' := [some (.ref 30), d1, some (.int v2), some (.int v3), some (.int ((σ.1 30 5) - (1 : Int32))), d5]) (S' := []) (σ' := σ) 6 (fun n h => h) ?_
          refine t_Closure_addMaker_30_l39 d _ hp (fun d1 d4 d5 y15 y16 σ17 h => ?_) N _ _ v2 v3 ((σ.1 30 5) - (1 : Int32)) σ h
          · refine go_st (k' := 20) (L' := [some (.ref 30), d1, some (.int y15), some (.int (y16 + (1 : Int32))), d4, d5]) (S' := []) (σ' := σ17) 2 (fun n h => h) ?_
            exact ih _ _ _ y15 (y16 + (1 : Int32)) σ17 h
def f_Closure_addMaker_30 (N : Nat) (p0 : Int32) (σ : aSt) : Option aSt :=
  (lt (f_store σ 33 (σ.1 30 5) p0) fun x1 => (lt (f_Closure_take_30 p0 (s_i x1 30 5 ((x1.1 30 5) + (1 : Int32)))) fun x2 => f_Closure_addMaker_30_l20 N N (σ.1 30 4) (0 : Int32) x2))
set_option maxRecDepth 20000 in
set_option maxHeartbeats 4000000 in
theorem c_Closure_addMaker_30 (d : Nat) {N : Nat} (p0 : Int32) (σ : aSt) {P : Option Value → aSt → Prop} {x : aSt} (h : f_Closure_addMaker_30 N p0 σ = some x) (hp : P none x) : aCall MT (d + 4) 219 [.ref 30, .int p0] σ P := by
  unfold f_Closure_addMaker_30 at h
  refine call_of (code := mc_Closure_addMaker) (L := [some (.ref 30), some (.int p0), none, none, none, none]) rfl rfl rfl rfl ?_
  obtain ⟨x1, hx1, h⟩ := lt_of h
  refine go_call (r := none) (σc := σ) (σ1 := x1) (mi := 1) (vs := [.ref 33, .int (σ.1 30 5), .int p0]) (k' := 9) (L' := [some (.ref 30), some (.int p0), some (.int (σ.1 30 4)), none, none, none]) (S' := []) 9 (fun P9 h9 => c_store (d + 2) σ 33 rfl rfl (σ.1 30 5) p0 (by rw [← hx1]; exact h9)) (fun n h => h) ?_
  obtain ⟨x2, hx2, h⟩ := lt_of h
  refine go_call (r := none) (σc := (s_i x1 30 5 ((x1.1 30 5) + (1 : Int32)))) (σ1 := x2) (mi := 217) (vs := [.ref 30, .int p0]) (k' := 18) (L' := [some (.ref 30), some (.int p0), some (.int (σ.1 30 4)), none, none, none]) (S' := []) 9 (fun P9 h9 => c_Closure_take_30 (d + 0) p0 (s_i x1 30 5 ((x1.1 30 5) + (1 : Int32))) (by rw [← hx2]; exact h9)) (fun n h => h) ?_
  refine go_st (k' := 20) (L' := [some (.ref 30), some (.int p0), some (.int (σ.1 30 4)), some (.int (0 : Int32)), none, none]) (S' := []) (σ' := x2) 2 (fun n h => h) ?_
  exact t_Closure_addMaker_30_l20 d hp N _ _ _ (σ.1 30 4) (0 : Int32) x2 h
def f_Closure_size_30 (σ : aSt) : Int32 :=
  (σ.1 30 4)
set_option maxRecDepth 20000 in
set_option maxHeartbeats 4000000 in
theorem c_Closure_size_30 (d : Nat) (σ : aSt) {P : Option Value → aSt → Prop} (h : P (some (.int ((f_Closure_size_30 σ)))) σ) : aCall MT (d + 1) 220 [.ref 30] σ P := by
  unfold f_Closure_size_30 at h
  refine call_of (code := mc_Closure_size) (L := [some (.ref 30)]) rfl rfl rfl rfl ?_
  exact go_ret 3 (fun _ => h)
def f_X_made (N : Nat) (p0 : Int32) (p1 : Int32) (σ : aSt) : Option (Int32 × aSt) :=
  (if (f_X_isPoint p0 σ) = true then (if (f_X_isPoint p1 σ) = true then (lt (f_Closure_forget_30 σ) fun x3 => ((f_Closure_addMaker_30 N p0 x3).bind fun x4 => ((f_Closure_addMaker_30 N p1 x4).bind fun x5 => some ((f_Closure_size_30 x5), x5)))) else some ((-2 : Int32), σ)) else some ((-2 : Int32), σ))
set_option maxRecDepth 20000 in
set_option maxHeartbeats 4000000 in
theorem c_X_made (d : Nat) {N : Nat} (p0 : Int32) (p1 : Int32) (σ : aSt) {P : Option Value → aSt → Prop} {x : (Int32 × aSt)} (h : f_X_made N p0 p1 σ = some x) (hp : P (some (.int x.1)) x.2) : aCall MT (d + 5) 221 [.ref 0, .int p0, .int p1] σ P := by
  unfold f_X_made at h
  refine call_of (code := mc_X_made) (L := [some (.ref 0), some (.int p0), some (.int p1)]) rfl rfl rfl rfl ?_
  refine go_call (r := some (.int (b2i (f_X_isPoint p0 σ)))) (σc := σ) (σ1 := σ) (mi := 85) (vs := [.ref 0, .int p0]) (k' := 3) (L' := [some (.ref 0), some (.int p0), some (.int p1)]) (S' := []) 3 (fun P9 h9 => c_X_isPoint (d + 1) p0 σ h9) (fun n h => h) ?_
  refine go_ifz (b := (f_X_isPoint p0 σ)) (k1 := 8) (L1 := [some (.ref 0), some (.int p0), some (.int p1)]) (S1 := []) (σ1 := σ) (k2 := 4) (L2 := [some (.ref 0), some (.int p0), some (.int p1)]) (S2 := []) (σ2 := σ) 1 (fun n h => h) (fun hc1 => ?_) (fun hc1 => ?_)
  · rw [if_neg hc1] at h
    cases h
    exact go_ret 2 (fun _ => hp)
  · rw [if_pos hc1] at h
    refine go_call (r := some (.int (b2i (f_X_isPoint p1 σ)))) (σc := σ) (σ1 := σ) (mi := 85) (vs := [.ref 0, .int p1]) (k' := 7) (L' := [some (.ref 0), some (.int p0), some (.int p1)]) (S' := []) 3 (fun P9 h9 => c_X_isPoint (d + 1) p1 σ h9) (fun n h => h) ?_
    refine go_ifn (b := (f_X_isPoint p1 σ)) (k1 := 10) (L1 := [some (.ref 0), some (.int p0), some (.int p1)]) (S1 := []) (σ1 := σ) (k2 := 8) (L2 := [some (.ref 0), some (.int p0), some (.int p1)]) (S2 := []) (σ2 := σ) 1 (fun n h => h) (fun hc2 => ?_) (fun hc2 => ?_)
    · rw [if_pos hc2] at h
      obtain ⟨x3, hx3, h⟩ := lt_of h
      refine go_call (r := none) (σc := σ) (σ1 := x3) (mi := 43) (vs := [.ref 30]) (k' := 13) (L' := [some (.ref 0), some (.int p0), some (.int p1)]) (S' := []) 3 (fun P9 h9 => c_Closure_forget_30 (d + 2) σ (by rw [← hx3]; exact h9)) (fun n h => h) ?_
      obtain ⟨x4, hx4, h⟩ := bind_of h
      refine go_call (r := none) (σc := x3) (σ1 := x4) (mi := 219) (vs := [.ref 30, .int p0]) (k' := 17) (L' := [some (.ref 0), some (.int p0), some (.int p1)]) (S' := []) 4 (fun P9 h9 => c_Closure_addMaker_30 (d + 0) p0 x3 hx4 h9) (fun n h => h) ?_
      obtain ⟨x5, hx5, h⟩ := bind_of h
      refine go_call (r := none) (σc := x4) (σ1 := x5) (mi := 219) (vs := [.ref 30, .int p1]) (k' := 21) (L' := [some (.ref 0), some (.int p0), some (.int p1)]) (S' := []) 4 (fun P9 h9 => c_Closure_addMaker_30 (d + 0) p1 x4 hx5 h9) (fun n h => h) ?_
      refine go_call (r := some (.int (f_Closure_size_30 x5))) (σc := x5) (σ1 := x5) (mi := 220) (vs := [.ref 30]) (k' := 24) (L' := [some (.ref 0), some (.int p0), some (.int p1)]) (S' := []) 3 (fun P9 h9 => c_Closure_size_30 (d + 3) x5 h9) (fun n h => h) ?_
      cases h
      exact go_ret 1 (fun _ => hp)
    · rw [if_neg hc2] at h
      cases h
      exact go_ret 2 (fun _ => hp)
def f_Closure_take_26 (p0 : Int32) (σ : aSt) : aSt :=
  (if p0 < 0 then σ else (if (f_Sums_shown σ) ≤ p0 then σ else (if (f_pick σ 28 p0) = 0 then (lt (f_store σ 28 p0 (1 : Int32)) fun x4 => (lt (f_store x4 27 (x4.1 26 4) p0) fun x5 => (s_i x5 26 4 ((x5.1 26 4) + (1 : Int32))))) else σ)))
set_option maxRecDepth 20000 in
set_option maxHeartbeats 4000000 in
theorem c_Closure_take_26 (d : Nat) (p0 : Int32) (σ : aSt) {P : Option Value → aSt → Prop} (h : P none (f_Closure_take_26 p0 σ)) : aCall MT (d + 3) 217 [.ref 26, .int p0] σ P := by
  unfold f_Closure_take_26 at h
  refine call_of (code := mc_Closure_take) (L := [some (.ref 26), some (.int p0)]) rfl rfl rfl rfl ?_
  refine go_if (c := p0 < 0) (k1 := 12) (L1 := [some (.ref 26), some (.int p0)]) (S1 := []) (σ1 := σ) (k2 := 2) (L2 := [some (.ref 26), some (.int p0)]) (S2 := []) (σ2 := σ) 2 (fun n h => h) (fun hc1 => ?_) (fun hc1 => ?_)
  · rw [if_pos hc1] at h
    exact go_ret 1 (fun _ => h)
  · rw [if_neg hc1] at h
    refine go_call (r := some (.int (f_Sums_shown σ))) (σc := σ) (σ1 := σ) (mi := 216) (vs := [.ref 21]) (k' := 6) (L' := [some (.ref 26), some (.int p0)]) (S' := [.int p0]) 4 (fun P9 h9 => c_Sums_shown (d + 0) σ h9) (fun n h => h) ?_
    refine go_if (c := (f_Sums_shown σ) ≤ p0) (k1 := 12) (L1 := [some (.ref 26), some (.int p0)]) (S1 := []) (σ1 := σ) (k2 := 7) (L2 := [some (.ref 26), some (.int p0)]) (S2 := []) (σ2 := σ) 1 (fun n h => h) (fun hc2 => ?_) (fun hc2 => ?_)
    · rw [if_pos hc2] at h
      exact go_ret 1 (fun _ => h)
    · rw [if_neg hc2] at h
      refine go_call (r := some (.int (f_pick σ 28 p0))) (σc := σ) (σ1 := σ) (mi := 9) (vs := [.ref 28, .int p0]) (k' := 11) (L' := [some (.ref 26), some (.int p0)]) (S' := []) 4 (fun P9 h9 => c_pick (d + 1) σ 28 rfl p0 h9) (fun n h => h) ?_
      refine go_if (c := (f_pick σ 28 p0) = 0) (k1 := 13) (L1 := [some (.ref 26), some (.int p0)]) (S1 := []) (σ1 := σ) (k2 := 12) (L2 := [some (.ref 26), some (.int p0)]) (S2 := []) (σ2 := σ) 1 (fun n h => h) (fun hc3 => ?_) (fun hc3 => ?_)
      · rw [if_pos hc3] at h
        obtain ⟨x4, hx4⟩ : ∃ x4, x4 = f_store σ 28 p0 (1 : Int32) := ⟨_, rfl⟩
        rw [lt_eq, ← hx4] at h
        refine go_call (r := none) (σc := σ) (σ1 := x4) (mi := 1) (vs := [.ref 28, .int p0, .int (1 : Int32)]) (k' := 18) (L' := [some (.ref 26), some (.int p0)]) (S' := []) 5 (fun P9 h9 => c_store (d + 1) σ 28 rfl rfl p0 (1 : Int32) (by rw [← hx4]; exact h9)) (fun n h => h) ?_
        obtain ⟨x5, hx5⟩ : ∃ x5, x5 = f_store x4 27 (x4.1 26 4) p0 := ⟨_, rfl⟩
        rw [lt_eq, ← hx5] at h
        refine go_call (r := none) (σc := x4) (σ1 := x5) (mi := 1) (vs := [.ref 27, .int (x4.1 26 4), .int p0]) (k' := 24) (L' := [some (.ref 26), some (.int p0)]) (S' := []) 6 (fun P9 h9 => c_store (d + 1) x4 27 rfl rfl (x4.1 26 4) p0 (by rw [← hx5]; exact h9)) (fun n h => h) ?_
        exact go_ret 7 (fun _ => h)
      · rw [if_neg hc3] at h
        exact go_ret 1 (fun _ => h)
def f_Closure_maker_26 (p0 : Int32) (σ : aSt) : Int32 :=
  (f_pick σ 29 p0)
set_option maxRecDepth 20000 in
set_option maxHeartbeats 4000000 in
theorem c_Closure_maker_26 (d : Nat) (p0 : Int32) (σ : aSt) {P : Option Value → aSt → Prop} (h : P (some (.int ((f_Closure_maker_26 p0 σ)))) σ) : aCall MT (d + 2) 218 [.ref 26, .int p0] σ P := by
  unfold f_Closure_maker_26 at h
  refine call_of (code := mc_Closure_maker) (L := [some (.ref 26), some (.int p0)]) rfl rfl rfl rfl ?_
  refine go_call (r := some (.int (f_pick σ 29 p0))) (σc := σ) (σ1 := σ) (mi := 9) (vs := [.ref 29, .int p0]) (k' := 4) (L' := [some (.ref 26), some (.int p0)]) (S' := []) 4 (fun P9 h9 => c_pick (d + 0) σ 29 rfl p0 h9) (fun n h => h) ?_
  exact go_ret 1 (fun _ => h)
def f_Closure_addMaker_26_l39 (N : Nat) (k72 : Int32 → Int32 → aSt → Option aSt) : Nat → Int32 → Int32 → Int32 → aSt → Option aSt
  | 0, _, _, _, _ => none
  | n + 1, v2, v3, v4, σ => (if (σ.1 26 5) ≤ v4 then k72 v2 v3 σ else (if 0 ≤ v3 ∧ v3 < (121 : Int32) then ((f_Sums_heldTotal N (σ.1 27 v3.toNatClampNeg) (f_Closure_maker_26 v4 σ) σ).bind fun x8 => (lt (f_Closure_take_26 x8.1 x8.2) fun x9 => ((f_Sums_heldTotal N (x9.1 27 v3.toNatClampNeg) (f_Sums_negative (f_Closure_maker_26 v4 σ) x9) x9).bind fun x10 => (lt (f_Closure_take_26 x10.1 x10.2) fun x11 => f_Closure_addMaker_26_l39 N k72 n v2 v3 (v4 + (1 : Int32)) x11)))) else none))
set_option maxRecDepth 20000 in
set_option maxHeartbeats 4000000 in
theorem t_Closure_addMaker_26_l39 (d : Nat) {N : Nat} (k72 : Int32 → Int32 → aSt → Option aSt) {x : aSt} {P : Option Value → aSt → Prop} (hp : P none x) (hk72 : ∀ (d1 d4 d5 : Option Value) (v2 : Int32) (v3 : Int32) (σ : aSt), k72 v2 v3 σ = some x → aGo (aCall MT (d + 3)) P mc_Closure_addMaker 72 [some (.ref 26), d1, some (.int v2), some (.int v3), d4, d5] [] σ) : ∀ (n : Nat) (d1 d5 : Option Value) (v2 : Int32) (v3 : Int32) (v4 : Int32) (σ : aSt), f_Closure_addMaker_26_l39 N k72 n v2 v3 v4 σ = some x → aGo (aCall MT (d + 3)) P mc_Closure_addMaker 39 [some (.ref 26), d1, some (.int v2), some (.int v3), some (.int v4), d5] [] σ := by
  intro n
  induction n with
  | zero => intro d1 d5 v2 v3 v4 σ h; cases h
  | succ n ih =>
    intro d1 d5 v2 v3 v4 σ h
    rw [f_Closure_addMaker_26_l39] at h
    refine go_if (c := (σ.1 26 5) ≤ v4) (k1 := 72) (L1 := [some (.ref 26), d1, some (.int v2), some (.int v3), some (.int v4), d5]) (S1 := []) (σ1 := σ) (k2 := 43) (L2 := [some (.ref 26), d1, some (.int v2), some (.int v3), some (.int v4), d5]) (S2 := []) (σ2 := σ) 4 (fun n h => h) (fun hc6 => ?_) (fun hc6 => ?_)
    · rw [if_pos hc6] at h
      exact hk72 _ _ _ v2 v3 σ h
    · rw [if_neg hc6] at h
      refine go_call (r := some (.int (f_Closure_maker_26 v4 σ))) (σc := σ) (σ1 := σ) (mi := 218) (vs := [.ref 26, .int v4]) (k' := 46) (L' := [some (.ref 26), d1, some (.int v2), some (.int v3), some (.int v4), d5]) (S' := []) 3 (fun P9 h9 => c_Closure_maker_26 (d + 1) v4 σ h9) (fun n h => h) ?_
      obtain ⟨hc7, h⟩ := ite_of h
      refine go_q (Q := inb 0 σ 27 v3) (k' := 54) (L' := [some (.ref 26), d1, some (.int v2), some (.int v3), some (.int v4), some (.int (f_Closure_maker_26 v4 σ))]) (S' := [.int (σ.1 27 v3.toNatClampNeg), .ref 21, .ref 26]) (σ' := σ) 8 (inb_mk rfl hc7.1 hc7.2) (fun n h => h) ?_
      obtain ⟨x8, hx8, h⟩ := bind_of h
      refine go_call (r := some (.int x8.1)) (σc := σ) (σ1 := x8.2) (mi := 100) (vs := [.ref 21, .int (σ.1 27 v3.toNatClampNeg), .int (f_Closure_maker_26 v4 σ)]) (k' := 56) (L' := [some (.ref 26), d1, some (.int v2), some (.int v3), some (.int v4), some (.int (f_Closure_maker_26 v4 σ))]) (S' := [.ref 26]) 2 (fun P9 h9 => c_Sums_heldTotal (d + 0) (σ.1 27 v3.toNatClampNeg) (f_Closure_maker_26 v4 σ) σ hx8 h9) (fun n h => h) ?_
      obtain ⟨x9, hx9, h⟩ := lt_of h
      refine go_call (r := none) (σc := x8.2) (σ1 := x9) (mi := 217) (vs := [.ref 26, .int x8.1]) (k' := 57) (L' := [some (.ref 26), d1, some (.int v2), some (.int v3), some (.int v4), some (.int (f_Closure_maker_26 v4 σ))]) (S' := []) 1 (fun P9 h9 => c_Closure_take_26 (d + 0) x8.1 x8.2 (by rw [← hx9]; exact h9)) (fun n h => h) ?_
      refine go_q (Q := inb 0 x9 27 v3) (k' := 64) (L' := [some (.ref 26), d1, some (.int v2), some (.int v3), some (.int v4), some (.int (f_Closure_maker_26 v4 σ))]) (S' := [.int (x9.1 27 v3.toNatClampNeg), .ref 21, .ref 26]) (σ' := x9) 7 (inb_mk rfl hc7.1 hc7.2) (fun n h => h) ?_
      refine go_call (r := some (.int (f_Sums_negative (f_Closure_maker_26 v4 σ) x9))) (σc := x9) (σ1 := x9) (mi := 87) (vs := [.ref 21, .int (f_Closure_maker_26 v4 σ)]) (k' := 68) (L' := [some (.ref 26), d1, some (.int v2), some (.int v3), some (.int v4), some (.int (f_Closure_maker_26 v4 σ))]) (S' := [.int (x9.1 27 v3.toNatClampNeg), .ref 21, .ref 26]) 4 (fun P9 h9 => c_Sums_negative (d + 0) (f_Closure_maker_26 v4 σ) x9 h9) (fun n h => h) ?_
      obtain ⟨x10, hx10, h⟩ := bind_of h
      refine go_call (r := some (.int x10.1)) (σc := x9) (σ1 := x10.2) (mi := 100) (vs := [.ref 21, .int (x9.1 27 v3.toNatClampNeg), .int (f_Sums_negative (f_Closure_maker_26 v4 σ) x9)]) (k' := 69) (L' := [some (.ref 26), d1, some (.int v2), some (.int v3), some (.int v4), some (.int (f_Closure_maker_26 v4 σ))]) (S' := [.ref 26]) 1 (fun P9 h9 => c_Sums_heldTotal (d + 0) (x9.1 27 v3.toNatClampNeg) (f_Sums_negative (f_Closure_maker_26 v4 σ) x9) x9 hx10 h9) (fun n h => h) ?_
      obtain ⟨x11, hx11, h⟩ := lt_of h
      refine go_call (r := none) (σc := x10.2) (σ1 := x11) (mi := 217) (vs := [.ref 26, .int x10.1]) (k' := 70) (L' := [some (.ref 26), d1, some (.int v2), some (.int v3), some (.int v4), some (.int (f_Closure_maker_26 v4 σ))]) (S' := []) 1 (fun P9 h9 => c_Closure_take_26 (d + 0) x10.1 x10.2 (by rw [← hx11]; exact h9)) (fun n h => h) ?_
      refine go_st (k' := 39) (L' := [some (.ref 26), d1, some (.int v2), some (.int v3), some (.int (v4 + (1 : Int32))), some (.int (f_Closure_maker_26 v4 σ))]) (S' := []) (σ' := x11) 2 (fun n h => h) ?_
      exact ih _ _ v2 v3 (v4 + (1 : Int32)) x11 h
def f_Closure_addMaker_26_l20 (N : Nat) : Nat → Int32 → Int32 → aSt → Option aSt
  | 0, _, _, _ => none
  | n + 1, v2, v3, σ => (if (σ.1 26 4) ≤ v3 then some σ else (if (121 : Int32) ≤ v3 then some σ else (if v2 ≤ v3 then f_Closure_addMaker_26_l39 N (fun (y12 : Int32) (y13 : Int32) σ14 => f_Closure_addMaker_26_l20 N n y12 (y13 + (1 : Int32)) σ14) N v2 v3 (0 : Int32) σ else f_Closure_addMaker_26_l39 N (fun (y15 : Int32) (y16 : Int32) σ17 => f_Closure_addMaker_26_l20 N n y15 (y16 + (1 : Int32)) σ17) N v2 v3 ((σ.1 26 5) - (1 : Int32)) σ)))
set_option maxRecDepth 20000 in
set_option maxHeartbeats 4000000 in
theorem t_Closure_addMaker_26_l20 (d : Nat) {N : Nat} {x : aSt} {P : Option Value → aSt → Prop} (hp : P none x) : ∀ (n : Nat) (d1 d4 d5 : Option Value) (v2 : Int32) (v3 : Int32) (σ : aSt), f_Closure_addMaker_26_l20 N n v2 v3 σ = some x → aGo (aCall MT (d + 3)) P mc_Closure_addMaker 20 [some (.ref 26), d1, some (.int v2), some (.int v3), d4, d5] [] σ := by
  intro n
  induction n with
  | zero => intro d1 d4 d5 v2 v3 σ h; cases h
  | succ n ih =>
    intro d1 d4 d5 v2 v3 σ h
    rw [f_Closure_addMaker_26_l20] at h
    refine go_if (c := (σ.1 26 4) ≤ v3) (k1 := 74) (L1 := [some (.ref 26), d1, some (.int v2), some (.int v3), d4, d5]) (S1 := []) (σ1 := σ) (k2 := 24) (L2 := [some (.ref 26), d1, some (.int v2), some (.int v3), d4, d5]) (S2 := []) (σ2 := σ) 4 (fun n h => h) (fun hc3 => ?_) (fun hc3 => ?_)
    · rw [if_pos hc3] at h
      cases h
      exact go_ret 1 (fun _ => hp)
    · rw [if_neg hc3] at h
      refine go_if (c := (121 : Int32) ≤ v3) (k1 := 74) (L1 := [some (.ref 26), d1, some (.int v2), some (.int v3), d4, d5]) (S1 := []) (σ1 := σ) (k2 := 29) (L2 := [some (.ref 26), d1, some (.int v2), some (.int v3), d4, d5]) (S2 := []) (σ2 := σ) 5 (fun n h => h) (fun hc4 => ?_) (fun hc4 => ?_)
      · rw [if_pos hc4] at h
        cases h
        exact go_ret 1 (fun _ => hp)
      · rw [if_neg hc4] at h
        refine go_if (c := v2 ≤ v3) (k1 := 37) (L1 := [some (.ref 26), d1, some (.int v2), some (.int v3), d4, d5]) (S1 := []) (σ1 := σ) (k2 := 32) (L2 := [some (.ref 26), d1, some (.int v2), some (.int v3), d4, d5]) (S2 := []) (σ2 := σ) 3 (fun n h => h) (fun hc5 => ?_) (fun hc5 => ?_)
        · rw [if_pos hc5] at h
          refine go_st (k' := 39) (L' := [some (.ref 26), d1, some (.int v2), some (.int v3), some (.int (0 : Int32)), d5]) (S' := []) (σ' := σ) 2 (fun n h => h) ?_
          refine t_Closure_addMaker_26_l39 d _ hp (fun d1 d4 d5 y12 y13 σ14 h => ?_) N _ _ v2 v3 (0 : Int32) σ h
          · refine go_st (k' := 20) (L' := [some (.ref 26), d1, some (.int y12), some (.int (y13 + (1 : Int32))), d4, d5]) (S' := []) (σ' := σ14) 2 (fun n h => h) ?_
            exact ih _ _ _ y12 (y13 + (1 : Int32)) σ14 h
        · rw [if_neg hc5] at h
          refine go_st (k' := 39) (L' := [some (.ref 26), d1, some (.int v2), some (.int v3), some (.int ((σ.1 26 5) - (1 : Int32))), d5]) (S' := []) (σ' := σ) 6 (fun n h => h) ?_
          refine t_Closure_addMaker_26_l39 d _ hp (fun d1 d4 d5 y15 y16 σ17 h => ?_) N _ _ v2 v3 ((σ.1 26 5) - (1 : Int32)) σ h
          · refine go_st (k' := 20) (L' := [some (.ref 26), d1, some (.int y15), some (.int (y16 + (1 : Int32))), d4, d5]) (S' := []) (σ' := σ17) 2 (fun n h => h) ?_
            exact ih _ _ _ y15 (y16 + (1 : Int32)) σ17 h
def f_Closure_addMaker_26 (N : Nat) (p0 : Int32) (σ : aSt) : Option aSt :=
  (lt (f_store σ 29 (σ.1 26 5) p0) fun x1 => (lt (f_Closure_take_26 p0 (s_i x1 26 5 ((x1.1 26 5) + (1 : Int32)))) fun x2 => f_Closure_addMaker_26_l20 N N (σ.1 26 4) (0 : Int32) x2))
set_option maxRecDepth 20000 in
set_option maxHeartbeats 4000000 in
theorem c_Closure_addMaker_26 (d : Nat) {N : Nat} (p0 : Int32) (σ : aSt) {P : Option Value → aSt → Prop} {x : aSt} (h : f_Closure_addMaker_26 N p0 σ = some x) (hp : P none x) : aCall MT (d + 4) 219 [.ref 26, .int p0] σ P := by
  unfold f_Closure_addMaker_26 at h
  refine call_of (code := mc_Closure_addMaker) (L := [some (.ref 26), some (.int p0), none, none, none, none]) rfl rfl rfl rfl ?_
  obtain ⟨x1, hx1, h⟩ := lt_of h
  refine go_call (r := none) (σc := σ) (σ1 := x1) (mi := 1) (vs := [.ref 29, .int (σ.1 26 5), .int p0]) (k' := 9) (L' := [some (.ref 26), some (.int p0), some (.int (σ.1 26 4)), none, none, none]) (S' := []) 9 (fun P9 h9 => c_store (d + 2) σ 29 rfl rfl (σ.1 26 5) p0 (by rw [← hx1]; exact h9)) (fun n h => h) ?_
  obtain ⟨x2, hx2, h⟩ := lt_of h
  refine go_call (r := none) (σc := (s_i x1 26 5 ((x1.1 26 5) + (1 : Int32)))) (σ1 := x2) (mi := 217) (vs := [.ref 26, .int p0]) (k' := 18) (L' := [some (.ref 26), some (.int p0), some (.int (σ.1 26 4)), none, none, none]) (S' := []) 9 (fun P9 h9 => c_Closure_take_26 (d + 0) p0 (s_i x1 26 5 ((x1.1 26 5) + (1 : Int32))) (by rw [← hx2]; exact h9)) (fun n h => h) ?_
  refine go_st (k' := 20) (L' := [some (.ref 26), some (.int p0), some (.int (σ.1 26 4)), some (.int (0 : Int32)), none, none]) (S' := []) (σ' := x2) 2 (fun n h => h) ?_
  exact t_Closure_addMaker_26_l20 d hp N _ _ _ (σ.1 26 4) (0 : Int32) x2 h
def f_Closure_gather_26_l6 (N : Nat) : Nat → Int32 → aSt → Option aSt
  | 0, _, _ => none
  | n + 1, v1, σ => (if (f_Sums_shown σ) ≤ v1 then some (s_b σ 26 6 true) else (if (f_pick σ 28 v1) ≠ 0 then f_Closure_gather_26_l6 N n (v1 + (1 : Int32)) σ else ((f_Closure_addMaker_26 N v1 σ).bind fun x4 => f_Closure_gather_26_l6 N n (v1 + (1 : Int32)) x4)))
set_option maxRecDepth 20000 in
set_option maxHeartbeats 4000000 in
theorem t_Closure_gather_26_l6 (d : Nat) {N : Nat} {x : aSt} {P : Option Value → aSt → Prop} (hp : P none x) : ∀ (n : Nat) (v1 : Int32) (σ : aSt), f_Closure_gather_26_l6 N n v1 σ = some x → aGo (aCall MT (d + 4)) P mc_Closure_gather 6 [some (.ref 26), some (.int v1)] [] σ := by
  intro n
  induction n with
  | zero => intro v1 σ h; cases h
  | succ n ih =>
    intro v1 σ h
    rw [f_Closure_gather_26_l6] at h
    refine go_call (r := some (.int (f_Sums_shown σ))) (σc := σ) (σ1 := σ) (mi := 216) (vs := [.ref 21]) (k' := 10) (L' := [some (.ref 26), some (.int v1)]) (S' := [.int v1]) 4 (fun P9 h9 => c_Sums_shown (d + 2) σ h9) (fun n h => h) ?_
    refine go_if (c := (f_Sums_shown σ) ≤ v1) (k1 := 21) (L1 := [some (.ref 26), some (.int v1)]) (S1 := []) (σ1 := σ) (k2 := 11) (L2 := [some (.ref 26), some (.int v1)]) (S2 := []) (σ2 := σ) 1 (fun n h => h) (fun hc2 => ?_) (fun hc2 => ?_)
    · rw [if_pos hc2] at h
      refine go_q (Q := (1 : Int32) = 0 ∨ (1 : Int32) = 1) (k' := 24) (L' := [some (.ref 26), some (.int v1)]) (S' := []) (σ' := (s_b σ 26 6 true)) 3 (Or.inr rfl) (fun n h => h) ?_
      cases h
      exact go_ret 1 (fun _ => hp)
    · rw [if_neg hc2] at h
      refine go_call (r := some (.int (f_pick σ 28 v1))) (σc := σ) (σ1 := σ) (mi := 9) (vs := [.ref 28, .int v1]) (k' := 15) (L' := [some (.ref 26), some (.int v1)]) (S' := []) 4 (fun P9 h9 => c_pick (d + 3) σ 28 rfl v1 h9) (fun n h => h) ?_
      refine go_if (c := (f_pick σ 28 v1) ≠ 0) (k1 := 19) (L1 := [some (.ref 26), some (.int v1)]) (S1 := []) (σ1 := σ) (k2 := 16) (L2 := [some (.ref 26), some (.int v1)]) (S2 := []) (σ2 := σ) 1 (fun n h => h) (fun hc3 => ?_) (fun hc3 => ?_)
      · rw [if_pos hc3] at h
        refine go_st (k' := 6) (L' := [some (.ref 26), some (.int (v1 + (1 : Int32)))]) (S' := []) (σ' := σ) 2 (fun n h => h) ?_
        exact ih (v1 + (1 : Int32)) σ h
      · rw [if_neg hc3] at h
        obtain ⟨x4, hx4, h⟩ := bind_of h
        refine go_call (r := none) (σc := σ) (σ1 := x4) (mi := 219) (vs := [.ref 26, .int v1]) (k' := 19) (L' := [some (.ref 26), some (.int v1)]) (S' := []) 3 (fun P9 h9 => c_Closure_addMaker_26 (d + 0) v1 σ hx4 h9) (fun n h => h) ?_
        refine go_st (k' := 6) (L' := [some (.ref 26), some (.int (v1 + (1 : Int32)))]) (S' := []) (σ' := x4) 2 (fun n h => h) ?_
        exact ih (v1 + (1 : Int32)) x4 h
def f_Closure_gather_26 (N : Nat) (σ : aSt) : Option aSt :=
  (if (σ.2.2 26 6) = true then some σ else f_Closure_gather_26_l6 N N (0 : Int32) σ)
set_option maxRecDepth 20000 in
set_option maxHeartbeats 4000000 in
theorem c_Closure_gather_26 (d : Nat) {N : Nat} (σ : aSt) {P : Option Value → aSt → Prop} {x : aSt} (h : f_Closure_gather_26 N σ = some x) (hp : P none x) : aCall MT (d + 5) 225 [.ref 26] σ P := by
  unfold f_Closure_gather_26 at h
  refine call_of (code := mc_Closure_gather) (L := [some (.ref 26), none]) rfl rfl rfl rfl ?_
  refine go_ifz (b := (σ.2.2 26 6)) (k1 := 4) (L1 := [some (.ref 26), none]) (S1 := []) (σ1 := σ) (k2 := 3) (L2 := [some (.ref 26), none]) (S2 := []) (σ2 := σ) 3 (fun n h => h) (fun hc1 => ?_) (fun hc1 => ?_)
  · rw [if_neg hc1] at h
    refine go_st (k' := 6) (L' := [some (.ref 26), some (.int (0 : Int32))]) (S' := []) (σ' := σ) 2 (fun n h => h) ?_
    exact t_Closure_gather_26_l6 d hp N (0 : Int32) σ h
  · rw [if_pos hc1] at h
    cases h
    exact go_ret 1 (fun _ => hp)
def f_Closure_makerCount_26 (σ : aSt) : Int32 :=
  (σ.1 26 5)
set_option maxRecDepth 20000 in
set_option maxHeartbeats 4000000 in
theorem c_Closure_makerCount_26 (d : Nat) (σ : aSt) {P : Option Value → aSt → Prop} (h : P (some (.int ((f_Closure_makerCount_26 σ)))) σ) : aCall MT (d + 1) 226 [.ref 26] σ P := by
  unfold f_Closure_makerCount_26 at h
  refine call_of (code := mc_Closure_makerCount) (L := [some (.ref 26)]) rfl rfl rfl rfl ?_
  exact go_ret 3 (fun _ => h)
def f_X_makers (N : Nat) (p0 : Int32) (σ : aSt) : Option (Int32 × aSt) :=
  (if (σ.2.2 0 13) = true then (if (-1 : Int32) ≤ p0 then ((f_Closure_gather_26 N σ).bind fun x3 => (if p0 ≠ (-1 : Int32) then (if (f_Closure_makerCount_26 x3) ≤ p0 then some ((-1 : Int32), x3) else some ((f_Closure_maker_26 p0 x3), x3)) else some ((f_Closure_makerCount_26 x3), x3))) else some ((-2 : Int32), σ)) else some ((-2 : Int32), σ))
set_option maxRecDepth 20000 in
set_option maxHeartbeats 4000000 in
theorem c_X_makers (d : Nat) {N : Nat} (p0 : Int32) (σ : aSt) {P : Option Value → aSt → Prop} {x : (Int32 × aSt)} (h : f_X_makers N p0 σ = some x) (hp : P (some (.int x.1)) x.2) : aCall MT (d + 6) 227 [.ref 0, .int p0] σ P := by
  unfold f_X_makers at h
  refine call_of (code := mc_X_makers) (L := [some (.ref 0), some (.int p0)]) rfl rfl rfl rfl ?_
  refine go_ifz (b := (σ.2.2 0 13)) (k1 := 6) (L1 := [some (.ref 0), some (.int p0)]) (S1 := []) (σ1 := σ) (k2 := 3) (L2 := [some (.ref 0), some (.int p0)]) (S2 := []) (σ2 := σ) 3 (fun n h => h) (fun hc1 => ?_) (fun hc1 => ?_)
  · rw [if_neg hc1] at h
    cases h
    exact go_ret 2 (fun _ => hp)
  · rw [if_pos hc1] at h
    refine go_if (c := (-1 : Int32) ≤ p0) (k1 := 8) (L1 := [some (.ref 0), some (.int p0)]) (S1 := []) (σ1 := σ) (k2 := 6) (L2 := [some (.ref 0), some (.int p0)]) (S2 := []) (σ2 := σ) 3 (fun n h => h) (fun hc2 => ?_) (fun hc2 => ?_)
    · rw [if_pos hc2] at h
      obtain ⟨x3, hx3, h⟩ := bind_of h
      refine go_call (r := none) (σc := σ) (σ1 := x3) (mi := 225) (vs := [.ref 26]) (k' := 11) (L' := [some (.ref 0), some (.int p0)]) (S' := []) 3 (fun P9 h9 => c_Closure_gather_26 (d + 0) σ hx3 h9) (fun n h => h) ?_
      refine go_if (c := p0 ≠ (-1 : Int32)) (k1 := 18) (L1 := [some (.ref 0), some (.int p0)]) (S1 := []) (σ1 := x3) (k2 := 14) (L2 := [some (.ref 0), some (.int p0)]) (S2 := []) (σ2 := x3) 3 (fun n h => h) (fun hc4 => ?_) (fun hc4 => ?_)
      · rw [if_pos hc4] at h
        refine go_call (r := some (.int (f_Closure_makerCount_26 x3))) (σc := x3) (σ1 := x3) (mi := 226) (vs := [.ref 26]) (k' := 22) (L' := [some (.ref 0), some (.int p0)]) (S' := [.int p0]) 4 (fun P9 h9 => c_Closure_makerCount_26 (d + 4) x3 h9) (fun n h => h) ?_
        refine go_if (c := (f_Closure_makerCount_26 x3) ≤ p0) (k1 := 28) (L1 := [some (.ref 0), some (.int p0)]) (S1 := []) (σ1 := x3) (k2 := 23) (L2 := [some (.ref 0), some (.int p0)]) (S2 := []) (σ2 := x3) 1 (fun n h => h) (fun hc5 => ?_) (fun hc5 => ?_)
        · rw [if_pos hc5] at h
          cases h
          exact go_ret 2 (fun _ => hp)
        · rw [if_neg hc5] at h
          refine go_call (r := some (.int (f_Closure_maker_26 p0 x3))) (σc := x3) (σ1 := x3) (mi := 218) (vs := [.ref 26, .int p0]) (k' := 27) (L' := [some (.ref 0), some (.int p0)]) (S' := []) 4 (fun P9 h9 => c_Closure_maker_26 (d + 3) p0 x3 h9) (fun n h => h) ?_
          cases h
          exact go_ret 2 (fun _ => hp)
      · rw [if_neg hc4] at h
        refine go_call (r := some (.int (f_Closure_makerCount_26 x3))) (σc := x3) (σ1 := x3) (mi := 226) (vs := [.ref 26]) (k' := 17) (L' := [some (.ref 0), some (.int p0)]) (S' := []) 3 (fun P9 h9 => c_Closure_makerCount_26 (d + 4) x3 h9) (fun n h => h) ?_
        cases h
        exact go_ret 1 (fun _ => hp)
    · rw [if_neg hc2] at h
      cases h
      exact go_ret 2 (fun _ => hp)
def f_Sums_fillTimes_l2 (N : Nat) : Nat → Int32 → Int32 → Int32 → aSt → Option aSt
  | 0, _, _, _, _ => none
  | n + 1, v1, v2, v3, σ => (if (5 : Int32) < v3 then some σ else ((f_Sums_multiple N v1 v3 σ).bind fun x2 => (lt (f_store x2.2 24 (v3 + (5 : Int32)) x2.1) fun x3 => ((f_Sums_multiple N v2 v3 x3).bind fun x4 => (lt (f_store x4.2 25 (v3 + (5 : Int32)) x4.1) fun x5 => f_Sums_fillTimes_l2 N n v1 v2 (v3 + (1 : Int32)) x5)))))
set_option maxRecDepth 20000 in
set_option maxHeartbeats 4000000 in
theorem t_Sums_fillTimes_l2 (d : Nat) {N : Nat} {x : aSt} {P : Option Value → aSt → Prop} (hp : P none x) : ∀ (n : Nat) (v1 : Int32) (v2 : Int32) (v3 : Int32) (σ : aSt), f_Sums_fillTimes_l2 N n v1 v2 v3 σ = some x → aGo (aCall MT (d + 5)) P mc_Sums_fillTimes 2 [some (.ref 21), some (.int v1), some (.int v2), some (.int v3)] [] σ := by
  intro n
  induction n with
  | zero => intro v1 v2 v3 σ h; cases h
  | succ n ih =>
    intro v1 v2 v3 σ h
    rw [f_Sums_fillTimes_l2] at h
    refine go_if (c := (5 : Int32) < v3) (k1 := 27) (L1 := [some (.ref 21), some (.int v1), some (.int v2), some (.int v3)]) (S1 := []) (σ1 := σ) (k2 := 5) (L2 := [some (.ref 21), some (.int v1), some (.int v2), some (.int v3)]) (S2 := []) (σ2 := σ) 3 (fun n h => h) (fun hc1 => ?_) (fun hc1 => ?_)
    · rw [if_pos hc1] at h
      cases h
      exact go_ret 1 (fun _ => hp)
    · rw [if_neg hc1] at h
      obtain ⟨x2, hx2, h⟩ := bind_of h
      refine go_call (r := some (.int x2.1)) (σc := σ) (σ1 := x2.2) (mi := 116) (vs := [.ref 21, .int v1, .int v3]) (k' := 14) (L' := [some (.ref 21), some (.int v1), some (.int v2), some (.int v3)]) (S' := [.int (v3 + (5 : Int32)), .ref 24]) 9 (fun P9 h9 => c_Sums_multiple (d + 0) v1 v3 σ hx2 h9) (fun n h => h) ?_
      obtain ⟨x3, hx3, h⟩ := lt_of h
      refine go_call (r := none) (σc := x2.2) (σ1 := x3) (mi := 1) (vs := [.ref 24, .int (v3 + (5 : Int32)), .int x2.1]) (k' := 15) (L' := [some (.ref 21), some (.int v1), some (.int v2), some (.int v3)]) (S' := []) 1 (fun P9 h9 => c_store (d + 4) x2.2 24 rfl rfl (v3 + (5 : Int32)) x2.1 (by rw [← hx3]; exact h9)) (fun n h => h) ?_
      obtain ⟨x4, hx4, h⟩ := bind_of h
      refine go_call (r := some (.int x4.1)) (σc := x3) (σ1 := x4.2) (mi := 116) (vs := [.ref 21, .int v2, .int v3]) (k' := 24) (L' := [some (.ref 21), some (.int v1), some (.int v2), some (.int v3)]) (S' := [.int (v3 + (5 : Int32)), .ref 25]) 9 (fun P9 h9 => c_Sums_multiple (d + 0) v2 v3 x3 hx4 h9) (fun n h => h) ?_
      obtain ⟨x5, hx5, h⟩ := lt_of h
      refine go_call (r := none) (σc := x4.2) (σ1 := x5) (mi := 1) (vs := [.ref 25, .int (v3 + (5 : Int32)), .int x4.1]) (k' := 25) (L' := [some (.ref 21), some (.int v1), some (.int v2), some (.int v3)]) (S' := []) 1 (fun P9 h9 => c_store (d + 4) x4.2 25 rfl rfl (v3 + (5 : Int32)) x4.1 (by rw [← hx5]; exact h9)) (fun n h => h) ?_
      refine go_st (k' := 2) (L' := [some (.ref 21), some (.int v1), some (.int v2), some (.int (v3 + (1 : Int32)))]) (S' := []) (σ' := x5) 2 (fun n h => h) ?_
      exact ih v1 v2 (v3 + (1 : Int32)) x5 h
def f_Sums_fillTimes (N : Nat) (p0 : Int32) (p1 : Int32) (σ : aSt) : Option aSt :=
  f_Sums_fillTimes_l2 N N p0 p1 (-5 : Int32) σ
set_option maxRecDepth 20000 in
set_option maxHeartbeats 4000000 in
theorem c_Sums_fillTimes (d : Nat) {N : Nat} (p0 : Int32) (p1 : Int32) (σ : aSt) {P : Option Value → aSt → Prop} {x : aSt} (h : f_Sums_fillTimes N p0 p1 σ = some x) (hp : P none x) : aCall MT (d + 6) 229 [.ref 21, .int p0, .int p1] σ P := by
  unfold f_Sums_fillTimes at h
  refine call_of (code := mc_Sums_fillTimes) (L := [some (.ref 21), some (.int p0), some (.int p1), none]) rfl rfl rfl rfl ?_
  refine go_st (k' := 2) (L' := [some (.ref 21), some (.int p0), some (.int p1), some (.int (-5 : Int32))]) (S' := []) (σ' := σ) 2 (fun n h => h) ?_
  exact t_Sums_fillTimes_l2 d hp N p0 p1 (-5 : Int32) σ h
def f_Sums_reaches (N : Nat) (p0 : Int32) (p1 : Int32) (p2 : Int32) (σ : aSt) : Option (Bool × aSt) :=
  ((f_Sums_total N (f_pick (s_i (s_i σ 21 6 p0) 21 7 p1) 24 (p0 + (5 : Int32))) (f_pick (s_i (s_i σ 21 6 p0) 21 7 p1) 25 (p1 + (5 : Int32))) (s_i (s_i σ 21 6 p0) 21 7 p1)).bind fun x1 => (if p2 ≠ (-1 : Int32) then (if x1.1 ≠ p2 then some (false, x1.2) else some (true, x1.2)) else (if x1.1 = (-6 : Int32) then some (false, x1.2) else ((f_Sums_orderOf N x1.1 x1.2).bind fun x5 => (if x5.1 ≤ 0 then some (false, x5.2) else some (true, x5.2))))))
set_option maxRecDepth 20000 in
set_option maxHeartbeats 4000000 in
theorem c_Sums_reaches (d : Nat) {N : Nat} (p0 : Int32) (p1 : Int32) (p2 : Int32) (σ : aSt) {P : Option Value → aSt → Prop} {x : (Bool × aSt)} (h : f_Sums_reaches N p0 p1 p2 σ = some x) (hp : P (some (.int (b2i x.1))) x.2) : aCall MT (d + 6) 230 [.ref 21, .int p0, .int p1, .int p2] σ P := by
  unfold f_Sums_reaches at h
  refine call_of (code := mc_Sums_reaches) (L := [some (.ref 21), some (.int p0), some (.int p1), some (.int p2), none]) rfl rfl rfl rfl ?_
  refine go_call (r := some (.int (f_pick (s_i (s_i σ 21 6 p0) 21 7 p1) 24 (p0 + (5 : Int32))))) (σc := (s_i (s_i σ 21 6 p0) 21 7 p1)) (σ1 := (s_i (s_i σ 21 6 p0) 21 7 p1)) (mi := 9) (vs := [.ref 24, .int (p0 + (5 : Int32))]) (k' := 13) (L' := [some (.ref 21), some (.int p0), some (.int p1), some (.int p2), none]) (S' := [.ref 21]) 13 (fun P9 h9 => c_pick (d + 4) (s_i (s_i σ 21 6 p0) 21 7 p1) 24 rfl (p0 + (5 : Int32)) h9) (fun n h => h) ?_
  refine go_call (r := some (.int (f_pick (s_i (s_i σ 21 6 p0) 21 7 p1) 25 (p1 + (5 : Int32))))) (σc := (s_i (s_i σ 21 6 p0) 21 7 p1)) (σ1 := (s_i (s_i σ 21 6 p0) 21 7 p1)) (mi := 9) (vs := [.ref 25, .int (p1 + (5 : Int32))]) (k' := 19) (L' := [some (.ref 21), some (.int p0), some (.int p1), some (.int p2), none]) (S' := [.int (f_pick (s_i (s_i σ 21 6 p0) 21 7 p1) 24 (p0 + (5 : Int32))), .ref 21]) 6 (fun P9 h9 => c_pick (d + 4) (s_i (s_i σ 21 6 p0) 21 7 p1) 25 rfl (p1 + (5 : Int32)) h9) (fun n h => h) ?_
  obtain ⟨x1, hx1, h⟩ := bind_of h
  refine go_call (r := some (.int x1.1)) (σc := (s_i (s_i σ 21 6 p0) 21 7 p1)) (σ1 := x1.2) (mi := 101) (vs := [.ref 21, .int (f_pick (s_i (s_i σ 21 6 p0) 21 7 p1) 24 (p0 + (5 : Int32))), .int (f_pick (s_i (s_i σ 21 6 p0) 21 7 p1) 25 (p1 + (5 : Int32)))]) (k' := 20) (L' := [some (.ref 21), some (.int p0), some (.int p1), some (.int p2), none]) (S' := []) 1 (fun P9 h9 => c_Sums_total (d + 1) (f_pick (s_i (s_i σ 21 6 p0) 21 7 p1) 24 (p0 + (5 : Int32))) (f_pick (s_i (s_i σ 21 6 p0) 21 7 p1) 25 (p1 + (5 : Int32))) (s_i (s_i σ 21 6 p0) 21 7 p1) hx1 h9) (fun n h => h) ?_
  refine go_if (c := p2 ≠ (-1 : Int32)) (k1 := 35) (L1 := [some (.ref 21), some (.int p0), some (.int p1), some (.int p2), some (.int x1.1)]) (S1 := []) (σ1 := x1.2) (k2 := 24) (L2 := [some (.ref 21), some (.int p0), some (.int p1), some (.int p2), some (.int x1.1)]) (S2 := []) (σ2 := x1.2) 4 (fun n h => h) (fun hc2 => ?_) (fun hc2 => ?_)
  · rw [if_pos hc2] at h
    refine go_if (c := x1.1 ≠ p2) (k1 := 40) (L1 := [some (.ref 21), some (.int p0), some (.int p1), some (.int p2), some (.int x1.1)]) (S1 := []) (σ1 := x1.2) (k2 := 38) (L2 := [some (.ref 21), some (.int p0), some (.int p1), some (.int p2), some (.int x1.1)]) (S2 := []) (σ2 := x1.2) 3 (fun n h => h) (fun hc3 => ?_) (fun hc3 => ?_)
    · rw [if_pos hc3] at h
      cases h
      exact go_ret 2 (fun _ => And.intro (Or.inl rfl) hp)
    · rw [if_neg hc3] at h
      cases h
      exact go_ret 3 (fun _ => And.intro (Or.inr rfl) hp)
  · rw [if_neg hc2] at h
    refine go_if (c := x1.1 = (-6 : Int32)) (k1 := 33) (L1 := [some (.ref 21), some (.int p0), some (.int p1), some (.int p2), some (.int x1.1)]) (S1 := []) (σ1 := x1.2) (k2 := 27) (L2 := [some (.ref 21), some (.int p0), some (.int p1), some (.int p2), some (.int x1.1)]) (S2 := []) (σ2 := x1.2) 3 (fun n h => h) (fun hc4 => ?_) (fun hc4 => ?_)
    · rw [if_pos hc4] at h
      cases h
      exact go_ret 3 (fun _ => And.intro (Or.inl rfl) hp)
    · rw [if_neg hc4] at h
      obtain ⟨x5, hx5, h⟩ := bind_of h
      refine go_call (r := some (.int x5.1)) (σc := x1.2) (σ1 := x5.2) (mi := 120) (vs := [.ref 21, .int x1.1]) (k' := 30) (L' := [some (.ref 21), some (.int p0), some (.int p1), some (.int p2), some (.int x1.1)]) (S' := []) 3 (fun P9 h9 => c_Sums_orderOf (d + 0) x1.1 x1.2 hx5 h9) (fun n h => h) ?_
      refine go_if (c := x5.1 ≤ 0) (k1 := 33) (L1 := [some (.ref 21), some (.int p0), some (.int p1), some (.int p2), some (.int x1.1)]) (S1 := []) (σ1 := x5.2) (k2 := 31) (L2 := [some (.ref 21), some (.int p0), some (.int p1), some (.int p2), some (.int x1.1)]) (S2 := []) (σ2 := x5.2) 1 (fun n h => h) (fun hc6 => ?_) (fun hc6 => ?_)
      · rw [if_pos hc6] at h
        cases h
        exact go_ret 3 (fun _ => And.intro (Or.inl rfl) hp)
      · rw [if_neg hc6] at h
        cases h
        exact go_ret 3 (fun _ => And.intro (Or.inr rfl) hp)
def f_Sums_findFactors_l16 (N : Nat) (k47 : Int32 → Int32 → aSt → Option (Bool × aSt)) : Nat → Int32 → Int32 → Int32 → aSt → Option (Bool × aSt)
  | 0, _, _, _, _ => none
  | n + 1, v3, v4, v5, σ => (if (5 : Int32) < v5 then k47 v3 v4 σ else (if (v4 - (iabs v5)) < 0 then f_Sums_findFactors_l16 N k47 n v3 v4 (v5 + (1 : Int32)) σ else (if (v4 - (iabs v5)) ≤ (5 : Int32) then ((f_Sums_reaches N v5 (-(v4 - (iabs v5))) v3 σ).bind fun x7 => (if x7.1 = true then some (true, x7.2) else ((f_Sums_reaches N v5 (v4 - (iabs v5)) v3 x7.2).bind fun x9 => (if x9.1 = true then some (true, x9.2) else f_Sums_findFactors_l16 N k47 n v3 v4 (v5 + (1 : Int32)) x9.2)))) else f_Sums_findFactors_l16 N k47 n v3 v4 (v5 + (1 : Int32)) σ)))
set_option maxRecDepth 20000 in
set_option maxHeartbeats 4000000 in
theorem t_Sums_findFactors_l16 (d : Nat) {N : Nat} (k47 : Int32 → Int32 → aSt → Option (Bool × aSt)) {x : (Bool × aSt)} {P : Option Value → aSt → Prop} (hp : P (some (.int (b2i x.1))) x.2) (hk47 : ∀ (d1 d2 d5 d6 : Option Value) (v3 : Int32) (v4 : Int32) (σ : aSt), k47 v3 v4 σ = some x → aGo (aCall MT (d + 6)) P mc_Sums_findFactors 47 [some (.ref 21), d1, d2, some (.int v3), some (.int v4), d5, d6] [] σ) : ∀ (n : Nat) (d1 d2 d6 : Option Value) (v3 : Int32) (v4 : Int32) (v5 : Int32) (σ : aSt), f_Sums_findFactors_l16 N k47 n v3 v4 v5 σ = some x → aGo (aCall MT (d + 6)) P mc_Sums_findFactors 16 [some (.ref 21), d1, d2, some (.int v3), some (.int v4), some (.int v5), d6] [] σ := by
  intro n
  induction n with
  | zero => intro d1 d2 d6 v3 v4 v5 σ h; cases h
  | succ n ih =>
    intro d1 d2 d6 v3 v4 v5 σ h
    rw [f_Sums_findFactors_l16] at h
    refine go_if (c := (5 : Int32) < v5) (k1 := 47) (L1 := [some (.ref 21), d1, d2, some (.int v3), some (.int v4), some (.int v5), d6]) (S1 := []) (σ1 := σ) (k2 := 19) (L2 := [some (.ref 21), d1, d2, some (.int v3), some (.int v4), some (.int v5), d6]) (S2 := []) (σ2 := σ) 3 (fun n h => h) (fun hc4 => ?_) (fun hc4 => ?_)
    · rw [if_pos hc4] at h
      exact hk47 _ _ _ _ v3 v4 σ h
    · rw [if_neg hc4] at h
      refine go_if (c := (v4 - (iabs v5)) < 0) (k1 := 45) (L1 := [some (.ref 21), d1, d2, some (.int v3), some (.int v4), some (.int v5), some (.int (v4 - (iabs v5)))]) (S1 := []) (σ1 := σ) (k2 := 26) (L2 := [some (.ref 21), d1, d2, some (.int v3), some (.int v4), some (.int v5), some (.int (v4 - (iabs v5)))]) (S2 := []) (σ2 := σ) 7 (fun n h => h) (fun hc5 => ?_) (fun hc5 => ?_)
      · rw [if_pos hc5] at h
        refine go_st (k' := 16) (L' := [some (.ref 21), d1, d2, some (.int v3), some (.int v4), some (.int (v5 + (1 : Int32))), some (.int (v4 - (iabs v5)))]) (S' := []) (σ' := σ) 2 (fun n h => h) ?_
        exact ih _ _ _ v3 v4 (v5 + (1 : Int32)) σ h
      · rw [if_neg hc5] at h
        refine go_if (c := (v4 - (iabs v5)) ≤ (5 : Int32)) (k1 := 30) (L1 := [some (.ref 21), d1, d2, some (.int v3), some (.int v4), some (.int v5), some (.int (v4 - (iabs v5)))]) (S1 := []) (σ1 := σ) (k2 := 29) (L2 := [some (.ref 21), d1, d2, some (.int v3), some (.int v4), some (.int v5), some (.int (v4 - (iabs v5)))]) (S2 := []) (σ2 := σ) 3 (fun n h => h) (fun hc6 => ?_) (fun hc6 => ?_)
        · rw [if_pos hc6] at h
          obtain ⟨x7, hx7, h⟩ := bind_of h
          refine go_call (r := some (.int (b2i x7.1))) (σc := σ) (σ1 := x7.2) (mi := 230) (vs := [.ref 21, .int v5, .int (-(v4 - (iabs v5))), .int v3]) (k' := 36) (L' := [some (.ref 21), d1, d2, some (.int v3), some (.int v4), some (.int v5), some (.int (v4 - (iabs v5)))]) (S' := []) 6 (fun P9 h9 => c_Sums_reaches (d + 0) v5 (-(v4 - (iabs v5))) v3 σ hx7 h9) (fun n h => h) ?_
          refine go_ifn (b := x7.1) (k1 := 43) (L1 := [some (.ref 21), d1, d2, some (.int v3), some (.int v4), some (.int v5), some (.int (v4 - (iabs v5)))]) (S1 := []) (σ1 := x7.2) (k2 := 37) (L2 := [some (.ref 21), d1, d2, some (.int v3), some (.int v4), some (.int v5), some (.int (v4 - (iabs v5)))]) (S2 := []) (σ2 := x7.2) 1 (fun n h => h) (fun hc8 => ?_) (fun hc8 => ?_)
          · rw [if_pos hc8] at h
            cases h
            exact go_ret 2 (fun _ => And.intro (Or.inr rfl) hp)
          · rw [if_neg hc8] at h
            obtain ⟨x9, hx9, h⟩ := bind_of h
            refine go_call (r := some (.int (b2i x9.1))) (σc := x7.2) (σ1 := x9.2) (mi := 230) (vs := [.ref 21, .int v5, .int (v4 - (iabs v5)), .int v3]) (k' := 42) (L' := [some (.ref 21), d1, d2, some (.int v3), some (.int v4), some (.int v5), some (.int (v4 - (iabs v5)))]) (S' := []) 5 (fun P9 h9 => c_Sums_reaches (d + 0) v5 (v4 - (iabs v5)) v3 x7.2 hx9 h9) (fun n h => h) ?_
            refine go_ifz (b := x9.1) (k1 := 45) (L1 := [some (.ref 21), d1, d2, some (.int v3), some (.int v4), some (.int v5), some (.int (v4 - (iabs v5)))]) (S1 := []) (σ1 := x9.2) (k2 := 43) (L2 := [some (.ref 21), d1, d2, some (.int v3), some (.int v4), some (.int v5), some (.int (v4 - (iabs v5)))]) (S2 := []) (σ2 := x9.2) 1 (fun n h => h) (fun hc10 => ?_) (fun hc10 => ?_)
            · rw [if_neg hc10] at h
              refine go_st (k' := 16) (L' := [some (.ref 21), d1, d2, some (.int v3), some (.int v4), some (.int (v5 + (1 : Int32))), some (.int (v4 - (iabs v5)))]) (S' := []) (σ' := x9.2) 2 (fun n h => h) ?_
              exact ih _ _ _ v3 v4 (v5 + (1 : Int32)) x9.2 h
            · rw [if_pos hc10] at h
              cases h
              exact go_ret 2 (fun _ => And.intro (Or.inr rfl) hp)
        · rw [if_neg hc6] at h
          refine go_st (k' := 16) (L' := [some (.ref 21), d1, d2, some (.int v3), some (.int v4), some (.int (v5 + (1 : Int32))), some (.int (v4 - (iabs v5)))]) (S' := []) (σ' := σ) 3 (fun n h => h) ?_
          exact ih _ _ _ v3 v4 (v5 + (1 : Int32)) σ h
def f_Sums_findFactors_l11 (N : Nat) : Nat → Int32 → Int32 → aSt → Option (Bool × aSt)
  | 0, _, _, _ => none
  | n + 1, v3, v4, σ => (if (10 : Int32) < v4 then some (false, σ) else f_Sums_findFactors_l16 N (fun (y11 : Int32) (y12 : Int32) σ13 => f_Sums_findFactors_l11 N n y11 (y12 + (1 : Int32)) σ13) N v3 v4 (-5 : Int32) σ)
set_option maxRecDepth 20000 in
set_option maxHeartbeats 4000000 in
theorem t_Sums_findFactors_l11 (d : Nat) {N : Nat} {x : (Bool × aSt)} {P : Option Value → aSt → Prop} (hp : P (some (.int (b2i x.1))) x.2) : ∀ (n : Nat) (d1 d2 d5 d6 : Option Value) (v3 : Int32) (v4 : Int32) (σ : aSt), f_Sums_findFactors_l11 N n v3 v4 σ = some x → aGo (aCall MT (d + 6)) P mc_Sums_findFactors 11 [some (.ref 21), d1, d2, some (.int v3), some (.int v4), d5, d6] [] σ := by
  intro n
  induction n with
  | zero => intro d1 d2 d5 d6 v3 v4 σ h; cases h
  | succ n ih =>
    intro d1 d2 d5 d6 v3 v4 σ h
    rw [f_Sums_findFactors_l11] at h
    refine go_if (c := (10 : Int32) < v4) (k1 := 49) (L1 := [some (.ref 21), d1, d2, some (.int v3), some (.int v4), d5, d6]) (S1 := []) (σ1 := σ) (k2 := 14) (L2 := [some (.ref 21), d1, d2, some (.int v3), some (.int v4), d5, d6]) (S2 := []) (σ2 := σ) 3 (fun n h => h) (fun hc3 => ?_) (fun hc3 => ?_)
    · rw [if_pos hc3] at h
      cases h
      exact go_ret 2 (fun _ => And.intro (Or.inl rfl) hp)
    · rw [if_neg hc3] at h
      refine go_st (k' := 16) (L' := [some (.ref 21), d1, d2, some (.int v3), some (.int v4), some (.int (-5 : Int32)), d6]) (S' := []) (σ' := σ) 2 (fun n h => h) ?_
      refine t_Sums_findFactors_l16 d _ hp (fun d1 d2 d5 d6 y11 y12 σ13 h => ?_) N _ _ _ v3 v4 (-5 : Int32) σ h
      · refine go_st (k' := 11) (L' := [some (.ref 21), d1, d2, some (.int y11), some (.int (y12 + (1 : Int32))), d5, d6]) (S' := []) (σ' := σ13) 2 (fun n h => h) ?_
        exact ih _ _ _ _ y11 (y12 + (1 : Int32)) σ13 h
def f_Sums_findFactors_b10 (N : Nat) (v3 : Int32) (s0 : Int32) (σ : aSt) : Option (Bool × aSt) :=
  f_Sums_findFactors_l11 N N v3 s0 σ
set_option maxRecDepth 20000 in
set_option maxHeartbeats 4000000 in
theorem t_Sums_findFactors_b10 (d : Nat) {N : Nat} (d1 d2 d4 d5 d6 : Option Value) (v3 : Int32) (s0 : Int32) (σ : aSt) {P : Option Value → aSt → Prop} {x : (Bool × aSt)} (h : f_Sums_findFactors_b10 N v3 s0 σ = some x) (hp : P (some (.int (b2i x.1))) x.2) : aGo (aCall MT (d + 6)) P mc_Sums_findFactors 10 [some (.ref 21), d1, d2, some (.int v3), d4, d5, d6] [.int s0] σ := by
  unfold f_Sums_findFactors_b10 at h
  refine go_st (k' := 11) (L' := [some (.ref 21), d1, d2, some (.int v3), some (.int s0), d5, d6]) (S' := []) (σ' := σ) 1 (fun n h => h) ?_
  exact t_Sums_findFactors_l11 d hp N _ _ _ _ v3 s0 σ h
def f_Sums_findFactors (N : Nat) (p0 : Int32) (p1 : Int32) (p2 : Int32) (σ : aSt) : Option (Bool × aSt) :=
  ((f_Sums_fillTimes N p0 p1 σ).bind fun x1 => (if p2 ≠ (-1 : Int32) then f_Sums_findFactors_b10 N p2 (0 : Int32) x1 else f_Sums_findFactors_b10 N p2 (1 : Int32) x1))
set_option maxRecDepth 20000 in
set_option maxHeartbeats 4000000 in
theorem c_Sums_findFactors (d : Nat) {N : Nat} (p0 : Int32) (p1 : Int32) (p2 : Int32) (σ : aSt) {P : Option Value → aSt → Prop} {x : (Bool × aSt)} (h : f_Sums_findFactors N p0 p1 p2 σ = some x) (hp : P (some (.int (b2i x.1))) x.2) : aCall MT (d + 7) 231 [.ref 21, .int p0, .int p1, .int p2] σ P := by
  unfold f_Sums_findFactors at h
  refine call_of (code := mc_Sums_findFactors) (L := [some (.ref 21), some (.int p0), some (.int p1), some (.int p2), none, none, none]) rfl rfl rfl rfl ?_
  obtain ⟨x1, hx1, h⟩ := bind_of h
  refine go_call (r := none) (σc := σ) (σ1 := x1) (mi := 229) (vs := [.ref 21, .int p0, .int p1]) (k' := 4) (L' := [some (.ref 21), some (.int p0), some (.int p1), some (.int p2), none, none, none]) (S' := []) 4 (fun P9 h9 => c_Sums_fillTimes (d + 0) p0 p1 σ hx1 h9) (fun n h => h) ?_
  refine go_if (c := p2 ≠ (-1 : Int32)) (k1 := 9) (L1 := [some (.ref 21), some (.int p0), some (.int p1), some (.int p2), none, none, none]) (S1 := []) (σ1 := x1) (k2 := 7) (L2 := [some (.ref 21), some (.int p0), some (.int p1), some (.int p2), none, none, none]) (S2 := []) (σ2 := x1) 3 (fun n h => h) (fun hc2 => ?_) (fun hc2 => ?_)
  · rw [if_pos hc2] at h
    refine go_st (k' := 10) (L' := [some (.ref 21), some (.int p0), some (.int p1), some (.int p2), none, none, none]) (S' := [.int (0 : Int32)]) (σ' := x1) 1 (fun n h => h) ?_
    exact t_Sums_findFactors_b10 d _ _ _ _ _ p2 (0 : Int32) x1 h hp
  · rw [if_neg hc2] at h
    refine go_st (k' := 10) (L' := [some (.ref 21), some (.int p0), some (.int p1), some (.int p2), none, none, none]) (S' := [.int (1 : Int32)]) (σ' := x1) 2 (fun n h => h) ?_
    exact t_Sums_findFactors_b10 d _ _ _ _ _ p2 (1 : Int32) x1 h hp
def f_Sums_factor (p0 : Int32) (σ : aSt) : Int32 :=
  (if p0 ≠ 0 then (σ.1 21 7) else (σ.1 21 6))
set_option maxRecDepth 20000 in
set_option maxHeartbeats 4000000 in
theorem c_Sums_factor (d : Nat) (p0 : Int32) (σ : aSt) {P : Option Value → aSt → Prop} (h : P (some (.int ((f_Sums_factor p0 σ)))) σ) : aCall MT (d + 1) 232 [.ref 21, .int p0] σ P := by
  unfold f_Sums_factor at h
  refine call_of (code := mc_Sums_factor) (L := [some (.ref 21), some (.int p0)]) rfl rfl rfl rfl ?_
  refine go_if (c := p0 ≠ 0) (k1 := 5) (L1 := [some (.ref 21), some (.int p0)]) (S1 := []) (σ1 := σ) (k2 := 2) (L2 := [some (.ref 21), some (.int p0)]) (S2 := []) (σ2 := σ) 2 (fun n h => h) (fun hc1 => ?_) (fun hc1 => ?_)
  · rw [if_pos hc1] at h
    exact go_ret 3 (fun _ => h)
  · rw [if_neg hc1] at h
    exact go_ret 4 (fun _ => h)
def f_X_related (N : Nat) (p0 : Int32) (p1 : Int32) (p2 : Int32) (σ : aSt) : Option (Int64 × aSt) :=
  (if (f_X_isPoint p0 σ) = true then (if (f_X_isPoint p1 σ) = true then (if p2 < 0 then some ((-9223372036854775808 : Int64), σ) else (if p2 ≤ (1 : Int32) then ((f_Sums_findFactors N p0 p1 (-1 : Int32) σ).bind fun x5 => (if x5.1 = true then some ((f_Sums_factor p2 x5.2).toInt64, x5.2) else some ((-9223372036854775808 : Int64), x5.2))) else some ((-9223372036854775808 : Int64), σ))) else some ((-9223372036854775808 : Int64), σ)) else some ((-9223372036854775808 : Int64), σ))
set_option maxRecDepth 20000 in
set_option maxHeartbeats 4000000 in
theorem c_X_related (d : Nat) {N : Nat} (p0 : Int32) (p1 : Int32) (p2 : Int32) (σ : aSt) {P : Option Value → aSt → Prop} {x : (Int64 × aSt)} (h : f_X_related N p0 p1 p2 σ = some x) (hp : P (some (.long x.1)) x.2) : aCall MT (d + 8) 233 [.ref 0, .int p0, .int p1, .int p2] σ P := by
  unfold f_X_related at h
  refine call_of (code := mc_X_related) (L := [some (.ref 0), some (.int p0), some (.int p1), some (.int p2)]) rfl rfl rfl rfl ?_
  refine go_call (r := some (.int (b2i (f_X_isPoint p0 σ)))) (σc := σ) (σ1 := σ) (mi := 85) (vs := [.ref 0, .int p0]) (k' := 3) (L' := [some (.ref 0), some (.int p0), some (.int p1), some (.int p2)]) (S' := []) 3 (fun P9 h9 => c_X_isPoint (d + 4) p0 σ h9) (fun n h => h) ?_
  refine go_ifz (b := (f_X_isPoint p0 σ)) (k1 := 13) (L1 := [some (.ref 0), some (.int p0), some (.int p1), some (.int p2)]) (S1 := []) (σ1 := σ) (k2 := 4) (L2 := [some (.ref 0), some (.int p0), some (.int p1), some (.int p2)]) (S2 := []) (σ2 := σ) 1 (fun n h => h) (fun hc1 => ?_) (fun hc1 => ?_)
  · rw [if_neg hc1] at h
    cases h
    exact go_ret 2 (fun _ => hp)
  · rw [if_pos hc1] at h
    refine go_call (r := some (.int (b2i (f_X_isPoint p1 σ)))) (σc := σ) (σ1 := σ) (mi := 85) (vs := [.ref 0, .int p1]) (k' := 7) (L' := [some (.ref 0), some (.int p0), some (.int p1), some (.int p2)]) (S' := []) 3 (fun P9 h9 => c_X_isPoint (d + 4) p1 σ h9) (fun n h => h) ?_
    refine go_ifz (b := (f_X_isPoint p1 σ)) (k1 := 13) (L1 := [some (.ref 0), some (.int p0), some (.int p1), some (.int p2)]) (S1 := []) (σ1 := σ) (k2 := 8) (L2 := [some (.ref 0), some (.int p0), some (.int p1), some (.int p2)]) (S2 := []) (σ2 := σ) 1 (fun n h => h) (fun hc2 => ?_) (fun hc2 => ?_)
    · rw [if_neg hc2] at h
      cases h
      exact go_ret 2 (fun _ => hp)
    · rw [if_pos hc2] at h
      refine go_if (c := p2 < 0) (k1 := 13) (L1 := [some (.ref 0), some (.int p0), some (.int p1), some (.int p2)]) (S1 := []) (σ1 := σ) (k2 := 10) (L2 := [some (.ref 0), some (.int p0), some (.int p1), some (.int p2)]) (S2 := []) (σ2 := σ) 2 (fun n h => h) (fun hc3 => ?_) (fun hc3 => ?_)
      · rw [if_pos hc3] at h
        cases h
        exact go_ret 2 (fun _ => hp)
      · rw [if_neg hc3] at h
        refine go_if (c := p2 ≤ (1 : Int32)) (k1 := 15) (L1 := [some (.ref 0), some (.int p0), some (.int p1), some (.int p2)]) (S1 := []) (σ1 := σ) (k2 := 13) (L2 := [some (.ref 0), some (.int p0), some (.int p1), some (.int p2)]) (S2 := []) (σ2 := σ) 3 (fun n h => h) (fun hc4 => ?_) (fun hc4 => ?_)
        · rw [if_pos hc4] at h
          obtain ⟨x5, hx5, h⟩ := bind_of h
          refine go_call (r := some (.int (b2i x5.1))) (σc := σ) (σ1 := x5.2) (mi := 231) (vs := [.ref 21, .int p0, .int p1, .int (-1 : Int32)]) (k' := 21) (L' := [some (.ref 0), some (.int p0), some (.int p1), some (.int p2)]) (S' := []) 6 (fun P9 h9 => c_Sums_findFactors (d + 0) p0 p1 (-1 : Int32) σ hx5 h9) (fun n h => h) ?_
          refine go_ifz (b := x5.1) (k1 := 28) (L1 := [some (.ref 0), some (.int p0), some (.int p1), some (.int p2)]) (S1 := []) (σ1 := x5.2) (k2 := 22) (L2 := [some (.ref 0), some (.int p0), some (.int p1), some (.int p2)]) (S2 := []) (σ2 := x5.2) 1 (fun n h => h) (fun hc6 => ?_) (fun hc6 => ?_)
          · rw [if_neg hc6] at h
            cases h
            exact go_ret 2 (fun _ => hp)
          · rw [if_pos hc6] at h
            refine go_call (r := some (.int (f_Sums_factor p2 x5.2))) (σc := x5.2) (σ1 := x5.2) (mi := 232) (vs := [.ref 21, .int p2]) (k' := 26) (L' := [some (.ref 0), some (.int p0), some (.int p1), some (.int p2)]) (S' := []) 4 (fun P9 h9 => c_Sums_factor (d + 6) p2 x5.2 h9) (fun n h => h) ?_
            cases h
            exact go_ret 3 (fun _ => hp)
        · rw [if_neg hc4] at h
          cases h
          exact go_ret 2 (fun _ => hp)
def f_X_above_l13 (N : Nat) (σ : aSt) : Nat → Int32 → Int32 → Option Int32
  | 0, _, _ => none
  | n + 1, v1, v2 => (if (f_PointList_shown_11 σ) ≤ v2 then some (-1 : Int32) else (if (f_PointList_height_11 v2 σ) < v1 then f_X_above_l13 N σ n v1 (v2 + (1 : Int32)) else some v2))
set_option maxRecDepth 20000 in
set_option maxHeartbeats 4000000 in
theorem t_X_above_l13 (d : Nat) {N : Nat} (σ : aSt) {x : Int32} {P : Option Value → aSt → Prop} (hp : P (some (.int x)) σ) : ∀ (n : Nat) (v1 : Int32) (v2 : Int32), f_X_above_l13 N σ n v1 v2 = some x → aGo (aCall MT (d + 2)) P mc_X_above 13 [some (.ref 0), some (.int v1), some (.int v2)] [] σ := by
  intro n
  induction n with
  | zero => intro v1 v2 h; cases h
  | succ n ih =>
    intro v1 v2 h
    rw [f_X_above_l13] at h
    refine go_call (r := some (.int (f_PointList_shown_11 σ))) (σc := σ) (σ1 := σ) (mi := 44) (vs := [.ref 11]) (k' := 17) (L' := [some (.ref 0), some (.int v1), some (.int v2)]) (S' := [.int v2]) 4 (fun P9 h9 => c_PointList_shown_11 (d + 1) σ h9) (fun n h => h) ?_
    refine go_if (c := (f_PointList_shown_11 σ) ≤ v2) (k1 := 28) (L1 := [some (.ref 0), some (.int v1), some (.int v2)]) (S1 := []) (σ1 := σ) (k2 := 18) (L2 := [some (.ref 0), some (.int v1), some (.int v2)]) (S2 := []) (σ2 := σ) 1 (fun n h => h) (fun hc4 => ?_) (fun hc4 => ?_)
    · rw [if_pos hc4] at h
      cases h
      exact go_ret 2 (fun _ => hp)
    · rw [if_neg hc4] at h
      refine go_call (r := some (.int (f_PointList_height_11 v2 σ))) (σc := σ) (σ1 := σ) (mi := 207) (vs := [.ref 11, .int v2]) (k' := 22) (L' := [some (.ref 0), some (.int v1), some (.int v2)]) (S' := []) 4 (fun P9 h9 => c_PointList_height_11 (d + 0) v2 σ h9) (fun n h => h) ?_
      refine go_if (c := (f_PointList_height_11 v2 σ) < v1) (k1 := 26) (L1 := [some (.ref 0), some (.int v1), some (.int v2)]) (S1 := []) (σ1 := σ) (k2 := 24) (L2 := [some (.ref 0), some (.int v1), some (.int v2)]) (S2 := []) (σ2 := σ) 2 (fun n h => h) (fun hc5 => ?_) (fun hc5 => ?_)
      · rw [if_pos hc5] at h
        refine go_st (k' := 13) (L' := [some (.ref 0), some (.int v1), some (.int (v2 + (1 : Int32)))]) (S' := []) (σ' := σ) 2 (fun n h => h) ?_
        exact ih v1 (v2 + (1 : Int32)) h
      · rw [if_neg hc5] at h
        cases h
        exact go_ret 2 (fun _ => hp)
def f_X_above (N : Nat) (p0 : Int32) (σ : aSt) : Option Int32 :=
  (if (σ.2.2 0 13) = true then (if p0 < (1 : Int32) then some (-2 : Int32) else (if p0 ≤ (1000 : Int32) then f_X_above_l13 N σ N p0 (0 : Int32) else some (-2 : Int32))) else some (-2 : Int32))
set_option maxRecDepth 20000 in
set_option maxHeartbeats 4000000 in
theorem c_X_above (d : Nat) {N : Nat} (p0 : Int32) (σ : aSt) {P : Option Value → aSt → Prop} {x : Int32} (h : f_X_above N p0 σ = some x) (hp : P (some (.int x)) σ) : aCall MT (d + 3) 237 [.ref 0, .int p0] σ P := by
  unfold f_X_above at h
  refine call_of (code := mc_X_above) (L := [some (.ref 0), some (.int p0), none]) rfl rfl rfl rfl ?_
  refine go_ifz (b := (σ.2.2 0 13)) (k1 := 9) (L1 := [some (.ref 0), some (.int p0), none]) (S1 := []) (σ1 := σ) (k2 := 3) (L2 := [some (.ref 0), some (.int p0), none]) (S2 := []) (σ2 := σ) 3 (fun n h => h) (fun hc1 => ?_) (fun hc1 => ?_)
  · rw [if_neg hc1] at h
    cases h
    exact go_ret 2 (fun _ => hp)
  · rw [if_pos hc1] at h
    refine go_if (c := p0 < (1 : Int32)) (k1 := 9) (L1 := [some (.ref 0), some (.int p0), none]) (S1 := []) (σ1 := σ) (k2 := 6) (L2 := [some (.ref 0), some (.int p0), none]) (S2 := []) (σ2 := σ) 3 (fun n h => h) (fun hc2 => ?_) (fun hc2 => ?_)
    · rw [if_pos hc2] at h
      cases h
      exact go_ret 2 (fun _ => hp)
    · rw [if_neg hc2] at h
      refine go_if (c := p0 ≤ (1000 : Int32)) (k1 := 11) (L1 := [some (.ref 0), some (.int p0), none]) (S1 := []) (σ1 := σ) (k2 := 9) (L2 := [some (.ref 0), some (.int p0), none]) (S2 := []) (σ2 := σ) 3 (fun n h => h) (fun hc3 => ?_) (fun hc3 => ?_)
      · rw [if_pos hc3] at h
        refine go_st (k' := 13) (L' := [some (.ref 0), some (.int p0), some (.int (0 : Int32))]) (S' := []) (σ' := σ) 2 (fun n h => h) ?_
        exact t_X_above_l13 d σ hp N p0 (0 : Int32) h
      · rw [if_neg hc3] at h
        cases h
        exact go_ret 2 (fun _ => hp)
def f_X_upTo_l15 (N : Nat) (σ : aSt) : Nat → Int32 → Int32 → Int32 → Option Int32
  | 0, _, _, _ => none
  | n + 1, v1, v2, v3 => (if (f_PointList_shown_11 σ) ≤ v3 then some v2 else (if v1 < (f_PointList_height_11 v3 σ) then f_X_upTo_l15 N σ n v1 v2 (v3 + (1 : Int32)) else f_X_upTo_l15 N σ n v1 (v2 + (1 : Int32)) (v3 + (1 : Int32))))
set_option maxRecDepth 20000 in
set_option maxHeartbeats 4000000 in
theorem t_X_upTo_l15 (d : Nat) {N : Nat} (σ : aSt) {x : Int32} {P : Option Value → aSt → Prop} (hp : P (some (.int x)) σ) : ∀ (n : Nat) (v1 : Int32) (v2 : Int32) (v3 : Int32), f_X_upTo_l15 N σ n v1 v2 v3 = some x → aGo (aCall MT (d + 2)) P mc_X_upTo 15 [some (.ref 0), some (.int v1), some (.int v2), some (.int v3)] [] σ := by
  intro n
  induction n with
  | zero => intro v1 v2 v3 h; cases h
  | succ n ih =>
    intro v1 v2 v3 h
    rw [f_X_upTo_l15] at h
    refine go_call (r := some (.int (f_PointList_shown_11 σ))) (σc := σ) (σ1 := σ) (mi := 44) (vs := [.ref 11]) (k' := 19) (L' := [some (.ref 0), some (.int v1), some (.int v2), some (.int v3)]) (S' := [.int v3]) 4 (fun P9 h9 => c_PointList_shown_11 (d + 1) σ h9) (fun n h => h) ?_
    refine go_if (c := (f_PointList_shown_11 σ) ≤ v3) (k1 := 29) (L1 := [some (.ref 0), some (.int v1), some (.int v2), some (.int v3)]) (S1 := []) (σ1 := σ) (k2 := 20) (L2 := [some (.ref 0), some (.int v1), some (.int v2), some (.int v3)]) (S2 := []) (σ2 := σ) 1 (fun n h => h) (fun hc4 => ?_) (fun hc4 => ?_)
    · rw [if_pos hc4] at h
      cases h
      exact go_ret 2 (fun _ => hp)
    · rw [if_neg hc4] at h
      refine go_call (r := some (.int (f_PointList_height_11 v3 σ))) (σc := σ) (σ1 := σ) (mi := 207) (vs := [.ref 11, .int v3]) (k' := 24) (L' := [some (.ref 0), some (.int v1), some (.int v2), some (.int v3)]) (S' := []) 4 (fun P9 h9 => c_PointList_height_11 (d + 0) v3 σ h9) (fun n h => h) ?_
      refine go_if (c := v1 < (f_PointList_height_11 v3 σ)) (k1 := 27) (L1 := [some (.ref 0), some (.int v1), some (.int v2), some (.int v3)]) (S1 := []) (σ1 := σ) (k2 := 26) (L2 := [some (.ref 0), some (.int v1), some (.int v2), some (.int v3)]) (S2 := []) (σ2 := σ) 2 (fun n h => h) (fun hc5 => ?_) (fun hc5 => ?_)
      · rw [if_pos hc5] at h
        refine go_st (k' := 15) (L' := [some (.ref 0), some (.int v1), some (.int v2), some (.int (v3 + (1 : Int32)))]) (S' := []) (σ' := σ) 2 (fun n h => h) ?_
        exact ih v1 v2 (v3 + (1 : Int32)) h
      · rw [if_neg hc5] at h
        refine go_st (k' := 15) (L' := [some (.ref 0), some (.int v1), some (.int (v2 + (1 : Int32))), some (.int (v3 + (1 : Int32)))]) (S' := []) (σ' := σ) 3 (fun n h => h) ?_
        exact ih v1 (v2 + (1 : Int32)) (v3 + (1 : Int32)) h
def f_X_upTo (N : Nat) (p0 : Int32) (σ : aSt) : Option Int32 :=
  (if (σ.2.2 0 13) = true then (if p0 < (1 : Int32) then some (-2 : Int32) else (if p0 ≤ (1000 : Int32) then f_X_upTo_l15 N σ N p0 (0 : Int32) (0 : Int32) else some (-2 : Int32))) else some (-2 : Int32))
set_option maxRecDepth 20000 in
set_option maxHeartbeats 4000000 in
theorem c_X_upTo (d : Nat) {N : Nat} (p0 : Int32) (σ : aSt) {P : Option Value → aSt → Prop} {x : Int32} (h : f_X_upTo N p0 σ = some x) (hp : P (some (.int x)) σ) : aCall MT (d + 3) 239 [.ref 0, .int p0] σ P := by
  unfold f_X_upTo at h
  refine call_of (code := mc_X_upTo) (L := [some (.ref 0), some (.int p0), none, none]) rfl rfl rfl rfl ?_
  refine go_ifz (b := (σ.2.2 0 13)) (k1 := 9) (L1 := [some (.ref 0), some (.int p0), none, none]) (S1 := []) (σ1 := σ) (k2 := 3) (L2 := [some (.ref 0), some (.int p0), none, none]) (S2 := []) (σ2 := σ) 3 (fun n h => h) (fun hc1 => ?_) (fun hc1 => ?_)
  · rw [if_neg hc1] at h
    cases h
    exact go_ret 2 (fun _ => hp)
  · rw [if_pos hc1] at h
    refine go_if (c := p0 < (1 : Int32)) (k1 := 9) (L1 := [some (.ref 0), some (.int p0), none, none]) (S1 := []) (σ1 := σ) (k2 := 6) (L2 := [some (.ref 0), some (.int p0), none, none]) (S2 := []) (σ2 := σ) 3 (fun n h => h) (fun hc2 => ?_) (fun hc2 => ?_)
    · rw [if_pos hc2] at h
      cases h
      exact go_ret 2 (fun _ => hp)
    · rw [if_neg hc2] at h
      refine go_if (c := p0 ≤ (1000 : Int32)) (k1 := 11) (L1 := [some (.ref 0), some (.int p0), none, none]) (S1 := []) (σ1 := σ) (k2 := 9) (L2 := [some (.ref 0), some (.int p0), none, none]) (S2 := []) (σ2 := σ) 3 (fun n h => h) (fun hc3 => ?_) (fun hc3 => ?_)
      · rw [if_pos hc3] at h
        refine go_st (k' := 15) (L' := [some (.ref 0), some (.int p0), some (.int (0 : Int32)), some (.int (0 : Int32))]) (S' := []) (σ' := σ) 4 (fun n h => h) ?_
        exact t_X_upTo_l15 d σ hp N p0 (0 : Int32) (0 : Int32) h
      · rw [if_neg hc3] at h
        cases h
        exact go_ret 2 (fun _ => hp)
def f_X_beside (N : Nat) (p0 : Int32) (p1 : Int32) (σ : aSt) : Option Int64 :=
  (if (f_X_isListed p0 σ) = true then (if (f_PointList_m_11 p0 σ) = 0 then some (-9223372036854775808 : Int64) else (if p1 < 0 then some (-9223372036854775808 : Int64) else (if p1 ≤ (1 : Int32) then (if p1 ≠ 0 then ((f_Whole_gcd N (f_PointList_n_11 p0 σ).toInt64 ((f_PointList_m_11 p0 σ).toInt64 * (f_PointList_e_11 p0 σ).toInt64)).bind fun x6 => some ((f_Whole_quotient ((f_PointList_m_11 p0 σ).toInt64 * (f_PointList_e_11 p0 σ).toInt64) x6) * (f_Whole_quotient ((f_PointList_m_11 p0 σ).toInt64 * (f_PointList_e_11 p0 σ).toInt64) x6))) else ((f_Whole_gcd N (f_PointList_n_11 p0 σ).toInt64 ((f_PointList_m_11 p0 σ).toInt64 * (f_PointList_e_11 p0 σ).toInt64)).bind fun x7 => some ((f_Whole_quotient (f_PointList_n_11 p0 σ).toInt64 x7) * (f_Whole_quotient (f_PointList_n_11 p0 σ).toInt64 x7)))) else some (-9223372036854775808 : Int64)))) else some (-9223372036854775808 : Int64))
set_option maxRecDepth 20000 in
set_option maxHeartbeats 4000000 in
theorem c_X_beside (d : Nat) {N : Nat} (p0 : Int32) (p1 : Int32) (σ : aSt) {P : Option Value → aSt → Prop} {x : Int64} (h : f_X_beside N p0 p1 σ = some x) (hp : P (some (.long x)) σ) : aCall MT (d + 3) 241 [.ref 0, .int p0, .int p1] σ P := by
  unfold f_X_beside at h
  refine call_of (code := mc_X_beside) (L := [some (.ref 0), some (.int p0), some (.int p1), none, none, none, none, none, none]) rfl rfl rfl rfl ?_
  refine go_call (r := some (.int (b2i (f_X_isListed p0 σ)))) (σc := σ) (σ1 := σ) (mi := 73) (vs := [.ref 0, .int p0]) (k' := 3) (L' := [some (.ref 0), some (.int p0), some (.int p1), none, none, none, none, none, none]) (S' := []) 3 (fun P9 h9 => c_X_isListed (d + 0) p0 σ h9) (fun n h => h) ?_
  refine go_ifz (b := (f_X_isListed p0 σ)) (k1 := 14) (L1 := [some (.ref 0), some (.int p0), some (.int p1), none, none, none, none, none, none]) (S1 := []) (σ1 := σ) (k2 := 4) (L2 := [some (.ref 0), some (.int p0), some (.int p1), none, none, none, none, none, none]) (S2 := []) (σ2 := σ) 1 (fun n h => h) (fun hc1 => ?_) (fun hc1 => ?_)
  · rw [if_neg hc1] at h
    cases h
    exact go_ret 2 (fun _ => hp)
  · rw [if_pos hc1] at h
    refine go_call (r := some (.int (f_PointList_m_11 p0 σ))) (σc := σ) (σ1 := σ) (mi := 74) (vs := [.ref 11, .int p0]) (k' := 8) (L' := [some (.ref 0), some (.int p0), some (.int p1), none, none, none, none, none, none]) (S' := []) 4 (fun P9 h9 => c_PointList_m_11 (d + 1) p0 σ h9) (fun n h => h) ?_
    refine go_if (c := (f_PointList_m_11 p0 σ) = 0) (k1 := 14) (L1 := [some (.ref 0), some (.int p0), some (.int p1), none, none, none, none, none, none]) (S1 := []) (σ1 := σ) (k2 := 9) (L2 := [some (.ref 0), some (.int p0), some (.int p1), none, none, none, none, none, none]) (S2 := []) (σ2 := σ) 1 (fun n h => h) (fun hc2 => ?_) (fun hc2 => ?_)
    · rw [if_pos hc2] at h
      cases h
      exact go_ret 2 (fun _ => hp)
    · rw [if_neg hc2] at h
      refine go_if (c := p1 < 0) (k1 := 14) (L1 := [some (.ref 0), some (.int p0), some (.int p1), none, none, none, none, none, none]) (S1 := []) (σ1 := σ) (k2 := 11) (L2 := [some (.ref 0), some (.int p0), some (.int p1), none, none, none, none, none, none]) (S2 := []) (σ2 := σ) 2 (fun n h => h) (fun hc3 => ?_) (fun hc3 => ?_)
      · rw [if_pos hc3] at h
        cases h
        exact go_ret 2 (fun _ => hp)
      · rw [if_neg hc3] at h
        refine go_if (c := p1 ≤ (1 : Int32)) (k1 := 16) (L1 := [some (.ref 0), some (.int p0), some (.int p1), none, none, none, none, none, none]) (S1 := []) (σ1 := σ) (k2 := 14) (L2 := [some (.ref 0), some (.int p0), some (.int p1), none, none, none, none, none, none]) (S2 := []) (σ2 := σ) 3 (fun n h => h) (fun hc4 => ?_) (fun hc4 => ?_)
        · rw [if_pos hc4] at h
          refine go_call (r := some (.int (f_PointList_n_11 p0 σ))) (σc := σ) (σ1 := σ) (mi := 75) (vs := [.ref 11, .int p0]) (k' := 20) (L' := [some (.ref 0), some (.int p0), some (.int p1), none, none, none, none, none, none]) (S' := []) 4 (fun P9 h9 => c_PointList_n_11 (d + 1) p0 σ h9) (fun n h => h) ?_
          refine go_call (r := some (.int (f_PointList_m_11 p0 σ))) (σc := σ) (σ1 := σ) (mi := 74) (vs := [.ref 11, .int p0]) (k' := 26) (L' := [some (.ref 0), some (.int p0), some (.int p1), some (.long (f_PointList_n_11 p0 σ).toInt64), none, none, none, none, none]) (S' := []) 6 (fun P9 h9 => c_PointList_m_11 (d + 1) p0 σ h9) (fun n h => h) ?_
          refine go_call (r := some (.int (f_PointList_e_11 p0 σ))) (σc := σ) (σ1 := σ) (mi := 76) (vs := [.ref 11, .int p0]) (k' := 31) (L' := [some (.ref 0), some (.int p0), some (.int p1), some (.long (f_PointList_n_11 p0 σ).toInt64), none, none, none, none, none]) (S' := [.long (f_PointList_m_11 p0 σ).toInt64]) 5 (fun P9 h9 => c_PointList_e_11 (d + 1) p0 σ h9) (fun n h => h) ?_
          refine go_if (c := p1 ≠ 0) (k1 := 38) (L1 := [some (.ref 0), some (.int p0), some (.int p1), some (.long (f_PointList_n_11 p0 σ).toInt64), none, some (.long ((f_PointList_m_11 p0 σ).toInt64 * (f_PointList_e_11 p0 σ).toInt64)), none, none, none]) (S1 := []) (σ1 := σ) (k2 := 36) (L2 := [some (.ref 0), some (.int p0), some (.int p1), some (.long (f_PointList_n_11 p0 σ).toInt64), none, some (.long ((f_PointList_m_11 p0 σ).toInt64 * (f_PointList_e_11 p0 σ).toInt64)), none, none, none]) (S2 := []) (σ2 := σ) 5 (fun n h => h) (fun hc5 => ?_) (fun hc5 => ?_)
          · rw [if_pos hc5] at h
            obtain ⟨x6, hx6, h⟩ := bind_of h
            refine go_call (r := some (.long x6)) (σc := σ) (σ1 := σ) (mi := 38) (vs := [.long (f_PointList_n_11 p0 σ).toInt64, .long ((f_PointList_m_11 p0 σ).toInt64 * (f_PointList_e_11 p0 σ).toInt64)]) (k' := 42) (L' := [some (.ref 0), some (.int p0), some (.int p1), some (.long (f_PointList_n_11 p0 σ).toInt64), none, some (.long ((f_PointList_m_11 p0 σ).toInt64 * (f_PointList_e_11 p0 σ).toInt64)), none, none, none]) (S' := [.long ((f_PointList_m_11 p0 σ).toInt64 * (f_PointList_e_11 p0 σ).toInt64)]) 4 (fun P9 h9 => c_Whole_gcd (d + 1) (f_PointList_n_11 p0 σ).toInt64 ((f_PointList_m_11 p0 σ).toInt64 * (f_PointList_e_11 p0 σ).toInt64) σ hx6 h9) (fun n h => h) ?_
            refine go_call (r := some (.long (f_Whole_quotient ((f_PointList_m_11 p0 σ).toInt64 * (f_PointList_e_11 p0 σ).toInt64) x6))) (σc := σ) (σ1 := σ) (mi := 97) (vs := [.long ((f_PointList_m_11 p0 σ).toInt64 * (f_PointList_e_11 p0 σ).toInt64), .long x6]) (k' := 43) (L' := [some (.ref 0), some (.int p0), some (.int p1), some (.long (f_PointList_n_11 p0 σ).toInt64), none, some (.long ((f_PointList_m_11 p0 σ).toInt64 * (f_PointList_e_11 p0 σ).toInt64)), none, none, none]) (S' := []) 1 (fun P9 h9 => c_Whole_quotient (d + 1) ((f_PointList_m_11 p0 σ).toInt64 * (f_PointList_e_11 p0 σ).toInt64) x6 σ h9) (fun n h => h) ?_
            cases h
            exact go_ret 5 (fun _ => hp)
          · rw [if_neg hc5] at h
            obtain ⟨x7, hx7, h⟩ := bind_of h
            refine go_call (r := some (.long x7)) (σc := σ) (σ1 := σ) (mi := 38) (vs := [.long (f_PointList_n_11 p0 σ).toInt64, .long ((f_PointList_m_11 p0 σ).toInt64 * (f_PointList_e_11 p0 σ).toInt64)]) (k' := 42) (L' := [some (.ref 0), some (.int p0), some (.int p1), some (.long (f_PointList_n_11 p0 σ).toInt64), none, some (.long ((f_PointList_m_11 p0 σ).toInt64 * (f_PointList_e_11 p0 σ).toInt64)), none, none, none]) (S' := [.long (f_PointList_n_11 p0 σ).toInt64]) 5 (fun P9 h9 => c_Whole_gcd (d + 1) (f_PointList_n_11 p0 σ).toInt64 ((f_PointList_m_11 p0 σ).toInt64 * (f_PointList_e_11 p0 σ).toInt64) σ hx7 h9) (fun n h => h) ?_
            refine go_call (r := some (.long (f_Whole_quotient (f_PointList_n_11 p0 σ).toInt64 x7))) (σc := σ) (σ1 := σ) (mi := 97) (vs := [.long (f_PointList_n_11 p0 σ).toInt64, .long x7]) (k' := 43) (L' := [some (.ref 0), some (.int p0), some (.int p1), some (.long (f_PointList_n_11 p0 σ).toInt64), none, some (.long ((f_PointList_m_11 p0 σ).toInt64 * (f_PointList_e_11 p0 σ).toInt64)), none, none, none]) (S' := []) 1 (fun P9 h9 => c_Whole_quotient (d + 1) (f_PointList_n_11 p0 σ).toInt64 x7 σ h9) (fun n h => h) ?_
            cases h
            exact go_ret 5 (fun _ => hp)
        · rw [if_neg hc4] at h
          cases h
          exact go_ret 2 (fun _ => hp)
def f_X_same (N : Nat) (p0 : Int32) (σ : aSt) : Option Int64 :=
  (if (σ.2.2 0 13) = true then (if p0 < 0 then some (-9223372036854775808 : Int64) else (if p0 ≤ (1 : Int32) then ((f_Whole_gcd N ((((256 : Int64) * (((f_PointList_a_11 σ).toInt64 * (f_PointList_a_11 σ).toInt64) - ((3 : Int64) * (f_PointList_b_11 σ).toInt64))) * (((f_PointList_a_11 σ).toInt64 * (f_PointList_a_11 σ).toInt64) - ((3 : Int64) * (f_PointList_b_11 σ).toInt64))) * (((f_PointList_a_11 σ).toInt64 * (f_PointList_a_11 σ).toInt64) - ((3 : Int64) * (f_PointList_b_11 σ).toInt64))) (((f_PointList_b_11 σ).toInt64 * (f_PointList_b_11 σ).toInt64) * (f_X_besideB σ).toInt64)).bind fun x4 => (if (0 : Int64) ≤ (((f_PointList_b_11 σ).toInt64 * (f_PointList_b_11 σ).toInt64) * (f_X_besideB σ).toInt64) then (if p0 ≠ 0 then some (f_Whole_quotient (((f_PointList_b_11 σ).toInt64 * (f_PointList_b_11 σ).toInt64) * (f_X_besideB σ).toInt64) x4) else some (f_Whole_quotient ((((256 : Int64) * (((f_PointList_a_11 σ).toInt64 * (f_PointList_a_11 σ).toInt64) - ((3 : Int64) * (f_PointList_b_11 σ).toInt64))) * (((f_PointList_a_11 σ).toInt64 * (f_PointList_a_11 σ).toInt64) - ((3 : Int64) * (f_PointList_b_11 σ).toInt64))) * (((f_PointList_a_11 σ).toInt64 * (f_PointList_a_11 σ).toInt64) - ((3 : Int64) * (f_PointList_b_11 σ).toInt64))) x4)) else (if p0 ≠ 0 then some (f_Whole_quotient (((f_PointList_b_11 σ).toInt64 * (f_PointList_b_11 σ).toInt64) * (f_X_besideB σ).toInt64) (-x4)) else some (f_Whole_quotient ((((256 : Int64) * (((f_PointList_a_11 σ).toInt64 * (f_PointList_a_11 σ).toInt64) - ((3 : Int64) * (f_PointList_b_11 σ).toInt64))) * (((f_PointList_a_11 σ).toInt64 * (f_PointList_a_11 σ).toInt64) - ((3 : Int64) * (f_PointList_b_11 σ).toInt64))) * (((f_PointList_a_11 σ).toInt64 * (f_PointList_a_11 σ).toInt64) - ((3 : Int64) * (f_PointList_b_11 σ).toInt64))) (-x4))))) else some (-9223372036854775808 : Int64))) else some (-9223372036854775808 : Int64))
set_option maxRecDepth 20000 in
set_option maxHeartbeats 4000000 in
theorem c_X_same (d : Nat) {N : Nat} (p0 : Int32) (σ : aSt) {P : Option Value → aSt → Prop} {x : Int64} (h : f_X_same N p0 σ = some x) (hp : P (some (.long x)) σ) : aCall MT (d + 3) 243 [.ref 0, .int p0] σ P := by
  unfold f_X_same at h
  refine call_of (code := mc_X_same) (L := [some (.ref 0), some (.int p0), none, none, none, none, none, none, none, none]) rfl rfl rfl rfl ?_
  refine go_ifz (b := (σ.2.2 0 13)) (k1 := 8) (L1 := [some (.ref 0), some (.int p0), none, none, none, none, none, none, none, none]) (S1 := []) (σ1 := σ) (k2 := 3) (L2 := [some (.ref 0), some (.int p0), none, none, none, none, none, none, none, none]) (S2 := []) (σ2 := σ) 3 (fun n h => h) (fun hc1 => ?_) (fun hc1 => ?_)
  · rw [if_neg hc1] at h
    cases h
    exact go_ret 2 (fun _ => hp)
  · rw [if_pos hc1] at h
    refine go_if (c := p0 < 0) (k1 := 8) (L1 := [some (.ref 0), some (.int p0), none, none, none, none, none, none, none, none]) (S1 := []) (σ1 := σ) (k2 := 5) (L2 := [some (.ref 0), some (.int p0), none, none, none, none, none, none, none, none]) (S2 := []) (σ2 := σ) 2 (fun n h => h) (fun hc2 => ?_) (fun hc2 => ?_)
    · rw [if_pos hc2] at h
      cases h
      exact go_ret 2 (fun _ => hp)
    · rw [if_neg hc2] at h
      refine go_if (c := p0 ≤ (1 : Int32)) (k1 := 10) (L1 := [some (.ref 0), some (.int p0), none, none, none, none, none, none, none, none]) (S1 := []) (σ1 := σ) (k2 := 8) (L2 := [some (.ref 0), some (.int p0), none, none, none, none, none, none, none, none]) (S2 := []) (σ2 := σ) 3 (fun n h => h) (fun hc3 => ?_) (fun hc3 => ?_)
      · rw [if_pos hc3] at h
        refine go_call (r := some (.int (f_PointList_a_11 σ))) (σc := σ) (σ1 := σ) (mi := 26) (vs := [.ref 11]) (k' := 13) (L' := [some (.ref 0), some (.int p0), none, none, none, none, none, none, none, none]) (S' := []) 3 (fun P9 h9 => c_PointList_a_11 (d + 1) σ h9) (fun n h => h) ?_
        refine go_call (r := some (.int (f_PointList_a_11 σ))) (σc := σ) (σ1 := σ) (mi := 26) (vs := [.ref 11]) (k' := 17) (L' := [some (.ref 0), some (.int p0), none, none, none, none, none, none, none, none]) (S' := [.long (f_PointList_a_11 σ).toInt64]) 4 (fun P9 h9 => c_PointList_a_11 (d + 1) σ h9) (fun n h => h) ?_
        refine go_call (r := some (.int (f_PointList_b_11 σ))) (σc := σ) (σ1 := σ) (mi := 27) (vs := [.ref 11]) (k' := 23) (L' := [some (.ref 0), some (.int p0), none, none, none, none, none, none, none, none]) (S' := [.long (3 : Int64), .long ((f_PointList_a_11 σ).toInt64 * (f_PointList_a_11 σ).toInt64)]) 6 (fun P9 h9 => c_PointList_b_11 (d + 1) σ h9) (fun n h => h) ?_
        refine go_call (r := some (.int (f_PointList_b_11 σ))) (σc := σ) (σ1 := σ) (mi := 27) (vs := [.ref 11]) (k' := 38) (L' := [some (.ref 0), some (.int p0), some (.long (((f_PointList_a_11 σ).toInt64 * (f_PointList_a_11 σ).toInt64) - ((3 : Int64) * (f_PointList_b_11 σ).toInt64))), none, some (.long ((((256 : Int64) * (((f_PointList_a_11 σ).toInt64 * (f_PointList_a_11 σ).toInt64) - ((3 : Int64) * (f_PointList_b_11 σ).toInt64))) * (((f_PointList_a_11 σ).toInt64 * (f_PointList_a_11 σ).toInt64) - ((3 : Int64) * (f_PointList_b_11 σ).toInt64))) * (((f_PointList_a_11 σ).toInt64 * (f_PointList_a_11 σ).toInt64) - ((3 : Int64) * (f_PointList_b_11 σ).toInt64)))), none, none, none, none, none]) (S' := []) 15 (fun P9 h9 => c_PointList_b_11 (d + 1) σ h9) (fun n h => h) ?_
        refine go_call (r := some (.int (f_PointList_b_11 σ))) (σc := σ) (σ1 := σ) (mi := 27) (vs := [.ref 11]) (k' := 42) (L' := [some (.ref 0), some (.int p0), some (.long (((f_PointList_a_11 σ).toInt64 * (f_PointList_a_11 σ).toInt64) - ((3 : Int64) * (f_PointList_b_11 σ).toInt64))), none, some (.long ((((256 : Int64) * (((f_PointList_a_11 σ).toInt64 * (f_PointList_a_11 σ).toInt64) - ((3 : Int64) * (f_PointList_b_11 σ).toInt64))) * (((f_PointList_a_11 σ).toInt64 * (f_PointList_a_11 σ).toInt64) - ((3 : Int64) * (f_PointList_b_11 σ).toInt64))) * (((f_PointList_a_11 σ).toInt64 * (f_PointList_a_11 σ).toInt64) - ((3 : Int64) * (f_PointList_b_11 σ).toInt64)))), none, none, none, none, none]) (S' := [.long (f_PointList_b_11 σ).toInt64]) 4 (fun P9 h9 => c_PointList_b_11 (d + 1) σ h9) (fun n h => h) ?_
        refine go_call (r := some (.int (f_X_besideB σ))) (σc := σ) (σ1 := σ) (mi := 138) (vs := [.ref 0]) (k' := 46) (L' := [some (.ref 0), some (.int p0), some (.long (((f_PointList_a_11 σ).toInt64 * (f_PointList_a_11 σ).toInt64) - ((3 : Int64) * (f_PointList_b_11 σ).toInt64))), none, some (.long ((((256 : Int64) * (((f_PointList_a_11 σ).toInt64 * (f_PointList_a_11 σ).toInt64) - ((3 : Int64) * (f_PointList_b_11 σ).toInt64))) * (((f_PointList_a_11 σ).toInt64 * (f_PointList_a_11 σ).toInt64) - ((3 : Int64) * (f_PointList_b_11 σ).toInt64))) * (((f_PointList_a_11 σ).toInt64 * (f_PointList_a_11 σ).toInt64) - ((3 : Int64) * (f_PointList_b_11 σ).toInt64)))), none, none, none, none, none]) (S' := [.long ((f_PointList_b_11 σ).toInt64 * (f_PointList_b_11 σ).toInt64)]) 4 (fun P9 h9 => c_X_besideB (d + 0) σ h9) (fun n h => h) ?_
        obtain ⟨x4, hx4, h⟩ := bind_of h
        refine go_call (r := some (.long x4)) (σc := σ) (σ1 := σ) (mi := 38) (vs := [.long ((((256 : Int64) * (((f_PointList_a_11 σ).toInt64 * (f_PointList_a_11 σ).toInt64) - ((3 : Int64) * (f_PointList_b_11 σ).toInt64))) * (((f_PointList_a_11 σ).toInt64 * (f_PointList_a_11 σ).toInt64) - ((3 : Int64) * (f_PointList_b_11 σ).toInt64))) * (((f_PointList_a_11 σ).toInt64 * (f_PointList_a_11 σ).toInt64) - ((3 : Int64) * (f_PointList_b_11 σ).toInt64))), .long (((f_PointList_b_11 σ).toInt64 * (f_PointList_b_11 σ).toInt64) * (f_X_besideB σ).toInt64)]) (k' := 52) (L' := [some (.ref 0), some (.int p0), some (.long (((f_PointList_a_11 σ).toInt64 * (f_PointList_a_11 σ).toInt64) - ((3 : Int64) * (f_PointList_b_11 σ).toInt64))), none, some (.long ((((256 : Int64) * (((f_PointList_a_11 σ).toInt64 * (f_PointList_a_11 σ).toInt64) - ((3 : Int64) * (f_PointList_b_11 σ).toInt64))) * (((f_PointList_a_11 σ).toInt64 * (f_PointList_a_11 σ).toInt64) - ((3 : Int64) * (f_PointList_b_11 σ).toInt64))) * (((f_PointList_a_11 σ).toInt64 * (f_PointList_a_11 σ).toInt64) - ((3 : Int64) * (f_PointList_b_11 σ).toInt64)))), none, some (.long (((f_PointList_b_11 σ).toInt64 * (f_PointList_b_11 σ).toInt64) * (f_X_besideB σ).toInt64)), none, none, none]) (S' := []) 6 (fun P9 h9 => c_Whole_gcd (d + 1) ((((256 : Int64) * (((f_PointList_a_11 σ).toInt64 * (f_PointList_a_11 σ).toInt64) - ((3 : Int64) * (f_PointList_b_11 σ).toInt64))) * (((f_PointList_a_11 σ).toInt64 * (f_PointList_a_11 σ).toInt64) - ((3 : Int64) * (f_PointList_b_11 σ).toInt64))) * (((f_PointList_a_11 σ).toInt64 * (f_PointList_a_11 σ).toInt64) - ((3 : Int64) * (f_PointList_b_11 σ).toInt64))) (((f_PointList_b_11 σ).toInt64 * (f_PointList_b_11 σ).toInt64) * (f_X_besideB σ).toInt64) σ hx4 h9) (fun n h => h) ?_
        refine go_iff (lcmp_ge (((f_PointList_b_11 σ).toInt64 * (f_PointList_b_11 σ).toInt64) * (f_X_besideB σ).toInt64) (0 : Int64)) (k1 := 60) (L1 := [some (.ref 0), some (.int p0), some (.long (((f_PointList_a_11 σ).toInt64 * (f_PointList_a_11 σ).toInt64) - ((3 : Int64) * (f_PointList_b_11 σ).toInt64))), none, some (.long ((((256 : Int64) * (((f_PointList_a_11 σ).toInt64 * (f_PointList_a_11 σ).toInt64) - ((3 : Int64) * (f_PointList_b_11 σ).toInt64))) * (((f_PointList_a_11 σ).toInt64 * (f_PointList_a_11 σ).toInt64) - ((3 : Int64) * (f_PointList_b_11 σ).toInt64))) * (((f_PointList_a_11 σ).toInt64 * (f_PointList_a_11 σ).toInt64) - ((3 : Int64) * (f_PointList_b_11 σ).toInt64)))), none, some (.long (((f_PointList_b_11 σ).toInt64 * (f_PointList_b_11 σ).toInt64) * (f_X_besideB σ).toInt64)), none, some (.long x4), none]) (S1 := []) (σ1 := σ) (k2 := 57) (L2 := [some (.ref 0), some (.int p0), some (.long (((f_PointList_a_11 σ).toInt64 * (f_PointList_a_11 σ).toInt64) - ((3 : Int64) * (f_PointList_b_11 σ).toInt64))), none, some (.long ((((256 : Int64) * (((f_PointList_a_11 σ).toInt64 * (f_PointList_a_11 σ).toInt64) - ((3 : Int64) * (f_PointList_b_11 σ).toInt64))) * (((f_PointList_a_11 σ).toInt64 * (f_PointList_a_11 σ).toInt64) - ((3 : Int64) * (f_PointList_b_11 σ).toInt64))) * (((f_PointList_a_11 σ).toInt64 * (f_PointList_a_11 σ).toInt64) - ((3 : Int64) * (f_PointList_b_11 σ).toInt64)))), none, some (.long (((f_PointList_b_11 σ).toInt64 * (f_PointList_b_11 σ).toInt64) * (f_X_besideB σ).toInt64)), none, some (.long x4), none]) (S2 := []) (σ2 := σ) 5 (fun n h => h) (fun hc5 => ?_) (fun hc5 => ?_)
        · rw [if_pos hc5] at h
          refine go_if (c := p0 ≠ 0) (k1 := 64) (L1 := [some (.ref 0), some (.int p0), some (.long (((f_PointList_a_11 σ).toInt64 * (f_PointList_a_11 σ).toInt64) - ((3 : Int64) * (f_PointList_b_11 σ).toInt64))), none, some (.long ((((256 : Int64) * (((f_PointList_a_11 σ).toInt64 * (f_PointList_a_11 σ).toInt64) - ((3 : Int64) * (f_PointList_b_11 σ).toInt64))) * (((f_PointList_a_11 σ).toInt64 * (f_PointList_a_11 σ).toInt64) - ((3 : Int64) * (f_PointList_b_11 σ).toInt64))) * (((f_PointList_a_11 σ).toInt64 * (f_PointList_a_11 σ).toInt64) - ((3 : Int64) * (f_PointList_b_11 σ).toInt64)))), none, some (.long (((f_PointList_b_11 σ).toInt64 * (f_PointList_b_11 σ).toInt64) * (f_X_besideB σ).toInt64)), none, some (.long x4), none]) (S1 := []) (σ1 := σ) (k2 := 62) (L2 := [some (.ref 0), some (.int p0), some (.long (((f_PointList_a_11 σ).toInt64 * (f_PointList_a_11 σ).toInt64) - ((3 : Int64) * (f_PointList_b_11 σ).toInt64))), none, some (.long ((((256 : Int64) * (((f_PointList_a_11 σ).toInt64 * (f_PointList_a_11 σ).toInt64) - ((3 : Int64) * (f_PointList_b_11 σ).toInt64))) * (((f_PointList_a_11 σ).toInt64 * (f_PointList_a_11 σ).toInt64) - ((3 : Int64) * (f_PointList_b_11 σ).toInt64))) * (((f_PointList_a_11 σ).toInt64 * (f_PointList_a_11 σ).toInt64) - ((3 : Int64) * (f_PointList_b_11 σ).toInt64)))), none, some (.long (((f_PointList_b_11 σ).toInt64 * (f_PointList_b_11 σ).toInt64) * (f_X_besideB σ).toInt64)), none, some (.long x4), none]) (S2 := []) (σ2 := σ) 2 (fun n h => h) (fun hc6 => ?_) (fun hc6 => ?_)
          · rw [if_pos hc6] at h
            refine go_call (r := some (.long (f_Whole_quotient (((f_PointList_b_11 σ).toInt64 * (f_PointList_b_11 σ).toInt64) * (f_X_besideB σ).toInt64) x4))) (σc := σ) (σ1 := σ) (mi := 97) (vs := [.long (((f_PointList_b_11 σ).toInt64 * (f_PointList_b_11 σ).toInt64) * (f_X_besideB σ).toInt64), .long x4]) (k' := 67) (L' := [some (.ref 0), some (.int p0), some (.long (((f_PointList_a_11 σ).toInt64 * (f_PointList_a_11 σ).toInt64) - ((3 : Int64) * (f_PointList_b_11 σ).toInt64))), none, some (.long ((((256 : Int64) * (((f_PointList_a_11 σ).toInt64 * (f_PointList_a_11 σ).toInt64) - ((3 : Int64) * (f_PointList_b_11 σ).toInt64))) * (((f_PointList_a_11 σ).toInt64 * (f_PointList_a_11 σ).toInt64) - ((3 : Int64) * (f_PointList_b_11 σ).toInt64))) * (((f_PointList_a_11 σ).toInt64 * (f_PointList_a_11 σ).toInt64) - ((3 : Int64) * (f_PointList_b_11 σ).toInt64)))), none, some (.long (((f_PointList_b_11 σ).toInt64 * (f_PointList_b_11 σ).toInt64) * (f_X_besideB σ).toInt64)), none, some (.long x4), none]) (S' := []) 3 (fun P9 h9 => c_Whole_quotient (d + 1) (((f_PointList_b_11 σ).toInt64 * (f_PointList_b_11 σ).toInt64) * (f_X_besideB σ).toInt64) x4 σ h9) (fun n h => h) ?_
            cases h
            exact go_ret 1 (fun _ => hp)
          · rw [if_neg hc6] at h
            refine go_call (r := some (.long (f_Whole_quotient ((((256 : Int64) * (((f_PointList_a_11 σ).toInt64 * (f_PointList_a_11 σ).toInt64) - ((3 : Int64) * (f_PointList_b_11 σ).toInt64))) * (((f_PointList_a_11 σ).toInt64 * (f_PointList_a_11 σ).toInt64) - ((3 : Int64) * (f_PointList_b_11 σ).toInt64))) * (((f_PointList_a_11 σ).toInt64 * (f_PointList_a_11 σ).toInt64) - ((3 : Int64) * (f_PointList_b_11 σ).toInt64))) x4))) (σc := σ) (σ1 := σ) (mi := 97) (vs := [.long ((((256 : Int64) * (((f_PointList_a_11 σ).toInt64 * (f_PointList_a_11 σ).toInt64) - ((3 : Int64) * (f_PointList_b_11 σ).toInt64))) * (((f_PointList_a_11 σ).toInt64 * (f_PointList_a_11 σ).toInt64) - ((3 : Int64) * (f_PointList_b_11 σ).toInt64))) * (((f_PointList_a_11 σ).toInt64 * (f_PointList_a_11 σ).toInt64) - ((3 : Int64) * (f_PointList_b_11 σ).toInt64))), .long x4]) (k' := 67) (L' := [some (.ref 0), some (.int p0), some (.long (((f_PointList_a_11 σ).toInt64 * (f_PointList_a_11 σ).toInt64) - ((3 : Int64) * (f_PointList_b_11 σ).toInt64))), none, some (.long ((((256 : Int64) * (((f_PointList_a_11 σ).toInt64 * (f_PointList_a_11 σ).toInt64) - ((3 : Int64) * (f_PointList_b_11 σ).toInt64))) * (((f_PointList_a_11 σ).toInt64 * (f_PointList_a_11 σ).toInt64) - ((3 : Int64) * (f_PointList_b_11 σ).toInt64))) * (((f_PointList_a_11 σ).toInt64 * (f_PointList_a_11 σ).toInt64) - ((3 : Int64) * (f_PointList_b_11 σ).toInt64)))), none, some (.long (((f_PointList_b_11 σ).toInt64 * (f_PointList_b_11 σ).toInt64) * (f_X_besideB σ).toInt64)), none, some (.long x4), none]) (S' := []) 4 (fun P9 h9 => c_Whole_quotient (d + 1) ((((256 : Int64) * (((f_PointList_a_11 σ).toInt64 * (f_PointList_a_11 σ).toInt64) - ((3 : Int64) * (f_PointList_b_11 σ).toInt64))) * (((f_PointList_a_11 σ).toInt64 * (f_PointList_a_11 σ).toInt64) - ((3 : Int64) * (f_PointList_b_11 σ).toInt64))) * (((f_PointList_a_11 σ).toInt64 * (f_PointList_a_11 σ).toInt64) - ((3 : Int64) * (f_PointList_b_11 σ).toInt64))) x4 σ h9) (fun n h => h) ?_
            cases h
            exact go_ret 1 (fun _ => hp)
        · rw [if_neg hc5] at h
          refine go_if (c := p0 ≠ 0) (k1 := 64) (L1 := [some (.ref 0), some (.int p0), some (.long (((f_PointList_a_11 σ).toInt64 * (f_PointList_a_11 σ).toInt64) - ((3 : Int64) * (f_PointList_b_11 σ).toInt64))), none, some (.long ((((256 : Int64) * (((f_PointList_a_11 σ).toInt64 * (f_PointList_a_11 σ).toInt64) - ((3 : Int64) * (f_PointList_b_11 σ).toInt64))) * (((f_PointList_a_11 σ).toInt64 * (f_PointList_a_11 σ).toInt64) - ((3 : Int64) * (f_PointList_b_11 σ).toInt64))) * (((f_PointList_a_11 σ).toInt64 * (f_PointList_a_11 σ).toInt64) - ((3 : Int64) * (f_PointList_b_11 σ).toInt64)))), none, some (.long (((f_PointList_b_11 σ).toInt64 * (f_PointList_b_11 σ).toInt64) * (f_X_besideB σ).toInt64)), none, some (.long (-x4)), none]) (S1 := []) (σ1 := σ) (k2 := 62) (L2 := [some (.ref 0), some (.int p0), some (.long (((f_PointList_a_11 σ).toInt64 * (f_PointList_a_11 σ).toInt64) - ((3 : Int64) * (f_PointList_b_11 σ).toInt64))), none, some (.long ((((256 : Int64) * (((f_PointList_a_11 σ).toInt64 * (f_PointList_a_11 σ).toInt64) - ((3 : Int64) * (f_PointList_b_11 σ).toInt64))) * (((f_PointList_a_11 σ).toInt64 * (f_PointList_a_11 σ).toInt64) - ((3 : Int64) * (f_PointList_b_11 σ).toInt64))) * (((f_PointList_a_11 σ).toInt64 * (f_PointList_a_11 σ).toInt64) - ((3 : Int64) * (f_PointList_b_11 σ).toInt64)))), none, some (.long (((f_PointList_b_11 σ).toInt64 * (f_PointList_b_11 σ).toInt64) * (f_X_besideB σ).toInt64)), none, some (.long (-x4)), none]) (S2 := []) (σ2 := σ) 5 (fun n h => h) (fun hc7 => ?_) (fun hc7 => ?_)
          · rw [if_pos hc7] at h
            refine go_call (r := some (.long (f_Whole_quotient (((f_PointList_b_11 σ).toInt64 * (f_PointList_b_11 σ).toInt64) * (f_X_besideB σ).toInt64) (-x4)))) (σc := σ) (σ1 := σ) (mi := 97) (vs := [.long (((f_PointList_b_11 σ).toInt64 * (f_PointList_b_11 σ).toInt64) * (f_X_besideB σ).toInt64), .long (-x4)]) (k' := 67) (L' := [some (.ref 0), some (.int p0), some (.long (((f_PointList_a_11 σ).toInt64 * (f_PointList_a_11 σ).toInt64) - ((3 : Int64) * (f_PointList_b_11 σ).toInt64))), none, some (.long ((((256 : Int64) * (((f_PointList_a_11 σ).toInt64 * (f_PointList_a_11 σ).toInt64) - ((3 : Int64) * (f_PointList_b_11 σ).toInt64))) * (((f_PointList_a_11 σ).toInt64 * (f_PointList_a_11 σ).toInt64) - ((3 : Int64) * (f_PointList_b_11 σ).toInt64))) * (((f_PointList_a_11 σ).toInt64 * (f_PointList_a_11 σ).toInt64) - ((3 : Int64) * (f_PointList_b_11 σ).toInt64)))), none, some (.long (((f_PointList_b_11 σ).toInt64 * (f_PointList_b_11 σ).toInt64) * (f_X_besideB σ).toInt64)), none, some (.long (-x4)), none]) (S' := []) 3 (fun P9 h9 => c_Whole_quotient (d + 1) (((f_PointList_b_11 σ).toInt64 * (f_PointList_b_11 σ).toInt64) * (f_X_besideB σ).toInt64) (-x4) σ h9) (fun n h => h) ?_
            cases h
            exact go_ret 1 (fun _ => hp)
          · rw [if_neg hc7] at h
            refine go_call (r := some (.long (f_Whole_quotient ((((256 : Int64) * (((f_PointList_a_11 σ).toInt64 * (f_PointList_a_11 σ).toInt64) - ((3 : Int64) * (f_PointList_b_11 σ).toInt64))) * (((f_PointList_a_11 σ).toInt64 * (f_PointList_a_11 σ).toInt64) - ((3 : Int64) * (f_PointList_b_11 σ).toInt64))) * (((f_PointList_a_11 σ).toInt64 * (f_PointList_a_11 σ).toInt64) - ((3 : Int64) * (f_PointList_b_11 σ).toInt64))) (-x4)))) (σc := σ) (σ1 := σ) (mi := 97) (vs := [.long ((((256 : Int64) * (((f_PointList_a_11 σ).toInt64 * (f_PointList_a_11 σ).toInt64) - ((3 : Int64) * (f_PointList_b_11 σ).toInt64))) * (((f_PointList_a_11 σ).toInt64 * (f_PointList_a_11 σ).toInt64) - ((3 : Int64) * (f_PointList_b_11 σ).toInt64))) * (((f_PointList_a_11 σ).toInt64 * (f_PointList_a_11 σ).toInt64) - ((3 : Int64) * (f_PointList_b_11 σ).toInt64))), .long (-x4)]) (k' := 67) (L' := [some (.ref 0), some (.int p0), some (.long (((f_PointList_a_11 σ).toInt64 * (f_PointList_a_11 σ).toInt64) - ((3 : Int64) * (f_PointList_b_11 σ).toInt64))), none, some (.long ((((256 : Int64) * (((f_PointList_a_11 σ).toInt64 * (f_PointList_a_11 σ).toInt64) - ((3 : Int64) * (f_PointList_b_11 σ).toInt64))) * (((f_PointList_a_11 σ).toInt64 * (f_PointList_a_11 σ).toInt64) - ((3 : Int64) * (f_PointList_b_11 σ).toInt64))) * (((f_PointList_a_11 σ).toInt64 * (f_PointList_a_11 σ).toInt64) - ((3 : Int64) * (f_PointList_b_11 σ).toInt64)))), none, some (.long (((f_PointList_b_11 σ).toInt64 * (f_PointList_b_11 σ).toInt64) * (f_X_besideB σ).toInt64)), none, some (.long (-x4)), none]) (S' := []) 4 (fun P9 h9 => c_Whole_quotient (d + 1) ((((256 : Int64) * (((f_PointList_a_11 σ).toInt64 * (f_PointList_a_11 σ).toInt64) - ((3 : Int64) * (f_PointList_b_11 σ).toInt64))) * (((f_PointList_a_11 σ).toInt64 * (f_PointList_a_11 σ).toInt64) - ((3 : Int64) * (f_PointList_b_11 σ).toInt64))) * (((f_PointList_a_11 σ).toInt64 * (f_PointList_a_11 σ).toInt64) - ((3 : Int64) * (f_PointList_b_11 σ).toInt64))) (-x4) σ h9) (fun n h => h) ?_
            cases h
            exact go_ret 1 (fun _ => hp)
      · rw [if_neg hc3] at h
        cases h
        exact go_ret 2 (fun _ => hp)
def f_X_inBounds (p0 : Int32) (p1 : Int32) : Bool :=
  (if p0 < (-60 : Int32) then false else (if (60 : Int32) < p0 then false else (if p1 < (-200 : Int32) then false else (if (200 : Int32) < p1 then false else true))))
set_option maxRecDepth 20000 in
set_option maxHeartbeats 4000000 in
theorem c_X_inBounds (d : Nat) (p0 : Int32) (p1 : Int32) (σ : aSt) {P : Option Value → aSt → Prop} (h : P (some (.int (b2i ((f_X_inBounds p0 p1))))) σ) : aCall MT (d + 1) 245 [.int p0, .int p1] σ P := by
  unfold f_X_inBounds at h
  refine call_of (code := mc_X_inBounds) (L := [some (.int p0), some (.int p1)]) rfl rfl rfl rfl ?_
  refine go_if (c := p0 < (-60 : Int32)) (k1 := 14) (L1 := [some (.int p0), some (.int p1)]) (S1 := []) (σ1 := σ) (k2 := 3) (L2 := [some (.int p0), some (.int p1)]) (S2 := []) (σ2 := σ) 3 (fun n h => h) (fun hc1 => ?_) (fun hc1 => ?_)
  · rw [if_pos hc1] at h
    exact go_ret 2 (fun _ => And.intro (Or.inl rfl) h)
  · rw [if_neg hc1] at h
    refine go_if (c := (60 : Int32) < p0) (k1 := 14) (L1 := [some (.int p0), some (.int p1)]) (S1 := []) (σ1 := σ) (k2 := 6) (L2 := [some (.int p0), some (.int p1)]) (S2 := []) (σ2 := σ) 3 (fun n h => h) (fun hc2 => ?_) (fun hc2 => ?_)
    · rw [if_pos hc2] at h
      exact go_ret 2 (fun _ => And.intro (Or.inl rfl) h)
    · rw [if_neg hc2] at h
      refine go_if (c := p1 < (-200 : Int32)) (k1 := 14) (L1 := [some (.int p0), some (.int p1)]) (S1 := []) (σ1 := σ) (k2 := 9) (L2 := [some (.int p0), some (.int p1)]) (S2 := []) (σ2 := σ) 3 (fun n h => h) (fun hc3 => ?_) (fun hc3 => ?_)
      · rw [if_pos hc3] at h
        exact go_ret 2 (fun _ => And.intro (Or.inl rfl) h)
      · rw [if_neg hc3] at h
        refine go_if (c := (200 : Int32) < p1) (k1 := 14) (L1 := [some (.int p0), some (.int p1)]) (S1 := []) (σ1 := σ) (k2 := 12) (L2 := [some (.int p0), some (.int p1)]) (S2 := []) (σ2 := σ) 3 (fun n h => h) (fun hc4 => ?_) (fun hc4 => ?_)
        · rw [if_pos hc4] at h
          exact go_ret 2 (fun _ => And.intro (Or.inl rfl) h)
        · rw [if_neg hc4] at h
          exact go_ret 3 (fun _ => And.intro (Or.inr rfl) h)
def f_History_push_b15 (v1 : Int32) (v2 : Int32) (v3 : Int32) (v4 : Int32) (σ : aSt) : aSt :=
  (lt (f_store σ 7 ((σ.1 6 1) * (4 : Int32)) v1) fun x2 => (lt (f_store x2 7 (((x2.1 6 1) * (4 : Int32)) + (1 : Int32)) v2) fun x3 => (lt (f_store x3 7 (((x3.1 6 1) * (4 : Int32)) + (2 : Int32)) v3) fun x4 => (lt (f_store x4 7 (((x4.1 6 1) * (4 : Int32)) + (3 : Int32)) v4) fun x5 => (s_i x5 6 1 ((x5.1 6 1) + (1 : Int32)))))))
set_option maxRecDepth 20000 in
set_option maxHeartbeats 4000000 in
theorem t_History_push_b15 (d : Nat) (v1 : Int32) (v2 : Int32) (v3 : Int32) (v4 : Int32) (σ : aSt) {P : Option Value → aSt → Prop} (h : P none (f_History_push_b15 v1 v2 v3 v4 σ)) : aGo (aCall MT (d + 1)) P mc_History_push 15 [some (.ref 6), some (.int v1), some (.int v2), some (.int v3), some (.int v4)] [] σ := by
  unfold f_History_push_b15 at h
  obtain ⟨x2, hx2⟩ : ∃ x2, x2 = f_store σ 7 ((σ.1 6 1) * (4 : Int32)) v1 := ⟨_, rfl⟩
  rw [lt_eq, ← hx2] at h
  refine go_call (r := none) (σc := σ) (σ1 := x2) (mi := 1) (vs := [.ref 7, .int ((σ.1 6 1) * (4 : Int32)), .int v1]) (k' := 23) (L' := [some (.ref 6), some (.int v1), some (.int v2), some (.int v3), some (.int v4)]) (S' := []) 8 (fun P9 h9 => c_store (d + 0) σ 7 rfl rfl ((σ.1 6 1) * (4 : Int32)) v1 (by rw [← hx2]; exact h9)) (fun n h => h) ?_
  obtain ⟨x3, hx3⟩ : ∃ x3, x3 = f_store x2 7 (((x2.1 6 1) * (4 : Int32)) + (1 : Int32)) v2 := ⟨_, rfl⟩
  rw [lt_eq, ← hx3] at h
  refine go_call (r := none) (σc := x2) (σ1 := x3) (mi := 1) (vs := [.ref 7, .int (((x2.1 6 1) * (4 : Int32)) + (1 : Int32)), .int v2]) (k' := 33) (L' := [some (.ref 6), some (.int v1), some (.int v2), some (.int v3), some (.int v4)]) (S' := []) 10 (fun P9 h9 => c_store (d + 0) x2 7 rfl rfl (((x2.1 6 1) * (4 : Int32)) + (1 : Int32)) v2 (by rw [← hx3]; exact h9)) (fun n h => h) ?_
  obtain ⟨x4, hx4⟩ : ∃ x4, x4 = f_store x3 7 (((x3.1 6 1) * (4 : Int32)) + (2 : Int32)) v3 := ⟨_, rfl⟩
  rw [lt_eq, ← hx4] at h
  refine go_call (r := none) (σc := x3) (σ1 := x4) (mi := 1) (vs := [.ref 7, .int (((x3.1 6 1) * (4 : Int32)) + (2 : Int32)), .int v3]) (k' := 43) (L' := [some (.ref 6), some (.int v1), some (.int v2), some (.int v3), some (.int v4)]) (S' := []) 10 (fun P9 h9 => c_store (d + 0) x3 7 rfl rfl (((x3.1 6 1) * (4 : Int32)) + (2 : Int32)) v3 (by rw [← hx4]; exact h9)) (fun n h => h) ?_
  obtain ⟨x5, hx5⟩ : ∃ x5, x5 = f_store x4 7 (((x4.1 6 1) * (4 : Int32)) + (3 : Int32)) v4 := ⟨_, rfl⟩
  rw [lt_eq, ← hx5] at h
  refine go_call (r := none) (σc := x4) (σ1 := x5) (mi := 1) (vs := [.ref 7, .int (((x4.1 6 1) * (4 : Int32)) + (3 : Int32)), .int v4]) (k' := 53) (L' := [some (.ref 6), some (.int v1), some (.int v2), some (.int v3), some (.int v4)]) (S' := []) 10 (fun P9 h9 => c_store (d + 0) x4 7 rfl rfl (((x4.1 6 1) * (4 : Int32)) + (3 : Int32)) v4 (by rw [← hx5]; exact h9)) (fun n h => h) ?_
  exact go_ret 7 (fun _ => h)
def f_History_push (p0 : Int32) (p1 : Int32) (p2 : Int32) (p3 : Int32) (σ : aSt) : aSt :=
  (if (σ.1 6 1) < (10 : Int32) then f_History_push_b15 p0 p1 p2 p3 σ else f_History_push_b15 p0 p1 p2 p3 (s_i (cpI σ 7 4 0 36) 6 1 (9 : Int32)))
set_option maxRecDepth 20000 in
set_option maxHeartbeats 4000000 in
theorem c_History_push (d : Nat) (p0 : Int32) (p1 : Int32) (p2 : Int32) (p3 : Int32) (σ : aSt) {P : Option Value → aSt → Prop} (h : P none (f_History_push p0 p1 p2 p3 σ)) : aCall MT (d + 2) 246 [.ref 6, .int p0, .int p1, .int p2, .int p3] σ P := by
  unfold f_History_push at h
  refine call_of (code := mc_History_push) (L := [some (.ref 6), some (.int p0), some (.int p1), some (.int p2), some (.int p3)]) rfl rfl rfl rfl ?_
  refine go_if (c := (σ.1 6 1) < (10 : Int32)) (k1 := 15) (L1 := [some (.ref 6), some (.int p0), some (.int p1), some (.int p2), some (.int p3)]) (S1 := []) (σ1 := σ) (k2 := 4) (L2 := [some (.ref 6), some (.int p0), some (.int p1), some (.int p2), some (.int p3)]) (S2 := []) (σ2 := σ) 4 (fun n h => h) (fun hc1 => ?_) (fun hc1 => ?_)
  · rw [if_pos hc1] at h
    exact t_History_push_b15 d p0 p1 p2 p3 σ h
  · rw [if_neg hc1] at h
    refine go_st (k' := 12) (L' := [some (.ref 6), some (.int p0), some (.int p1), some (.int p2), some (.int p3)]) (S' := []) (σ' := (cpI σ 7 4 0 36)) 8 (fun n h => And.intro rfl (And.intro (by decide) (And.intro rfl (And.intro (by decide) (And.intro (by decide) (And.intro (by decide) (And.intro (by decide) (And.intro (by decide) (And.intro (by decide) h))))))))) ?_
    refine go_st (k' := 15) (L' := [some (.ref 6), some (.int p0), some (.int p1), some (.int p2), some (.int p3)]) (S' := []) (σ' := (s_i (cpI σ 7 4 0 36) 6 1 (9 : Int32))) 3 (fun n h => h) ?_
    exact t_History_push_b15 d p0 p1 p2 p3 (s_i (cpI σ 7 4 0 36) 6 1 (9 : Int32)) h
def f_X_change (N : Nat) (p0 : Int32) (p1 : Int32) (p2 : Int32) (p3 : Int32) (σ : aSt) : Option (Int32 × aSt) :=
  (lt (f_History_push (f_PointList_a_11 σ) (f_PointList_b_11 σ) (f_PointList_most_11 σ) (f_PointList_deepest_11 σ) σ) fun x1 => ((f_X_become N p0 p1 p2 p3 x1).bind fun x2 => some (x2.1, x2.2)))
set_option maxRecDepth 20000 in
set_option maxHeartbeats 4000000 in
theorem c_X_change (d : Nat) {N : Nat} (p0 : Int32) (p1 : Int32) (p2 : Int32) (p3 : Int32) (σ : aSt) {P : Option Value → aSt → Prop} {x : (Int32 × aSt)} (h : f_X_change N p0 p1 p2 p3 σ = some x) (hp : P (some (.int x.1)) x.2) : aCall MT (d + 7) 247 [.ref 0, .int p0, .int p1, .int p2, .int p3] σ P := by
  unfold f_X_change at h
  refine call_of (code := mc_X_change) (L := [some (.ref 0), some (.int p0), some (.int p1), some (.int p2), some (.int p3)]) rfl rfl rfl rfl ?_
  refine go_call (r := some (.int (f_PointList_a_11 σ))) (σc := σ) (σ1 := σ) (mi := 26) (vs := [.ref 11]) (k' := 5) (L' := [some (.ref 0), some (.int p0), some (.int p1), some (.int p2), some (.int p3)]) (S' := [.ref 6]) 5 (fun P9 h9 => c_PointList_a_11 (d + 5) σ h9) (fun n h => h) ?_
  refine go_call (r := some (.int (f_PointList_b_11 σ))) (σc := σ) (σ1 := σ) (mi := 27) (vs := [.ref 11]) (k' := 8) (L' := [some (.ref 0), some (.int p0), some (.int p1), some (.int p2), some (.int p3)]) (S' := [.int (f_PointList_a_11 σ), .ref 6]) 3 (fun P9 h9 => c_PointList_b_11 (d + 5) σ h9) (fun n h => h) ?_
  refine go_call (r := some (.int (f_PointList_most_11 σ))) (σc := σ) (σ1 := σ) (mi := 69) (vs := [.ref 11]) (k' := 11) (L' := [some (.ref 0), some (.int p0), some (.int p1), some (.int p2), some (.int p3)]) (S' := [.int (f_PointList_b_11 σ), .int (f_PointList_a_11 σ), .ref 6]) 3 (fun P9 h9 => c_PointList_most_11 (d + 5) σ h9) (fun n h => h) ?_
  refine go_call (r := some (.int (f_PointList_deepest_11 σ))) (σc := σ) (σ1 := σ) (mi := 70) (vs := [.ref 11]) (k' := 14) (L' := [some (.ref 0), some (.int p0), some (.int p1), some (.int p2), some (.int p3)]) (S' := [.int (f_PointList_most_11 σ), .int (f_PointList_b_11 σ), .int (f_PointList_a_11 σ), .ref 6]) 3 (fun P9 h9 => c_PointList_deepest_11 (d + 5) σ h9) (fun n h => h) ?_
  obtain ⟨x1, hx1, h⟩ := lt_of h
  refine go_call (r := none) (σc := σ) (σ1 := x1) (mi := 246) (vs := [.ref 6, .int (f_PointList_a_11 σ), .int (f_PointList_b_11 σ), .int (f_PointList_most_11 σ), .int (f_PointList_deepest_11 σ)]) (k' := 15) (L' := [some (.ref 0), some (.int p0), some (.int p1), some (.int p2), some (.int p3)]) (S' := []) 1 (fun P9 h9 => c_History_push (d + 4) (f_PointList_a_11 σ) (f_PointList_b_11 σ) (f_PointList_most_11 σ) (f_PointList_deepest_11 σ) σ (by rw [← hx1]; exact h9)) (fun n h => h) ?_
  obtain ⟨x2, hx2, h⟩ := bind_of h
  refine go_call (r := some (.int x2.1)) (σc := x1) (σ1 := x2.2) (mi := 45) (vs := [.ref 0, .int p0, .int p1, .int p2, .int p3]) (k' := 21) (L' := [some (.ref 0), some (.int p0), some (.int p1), some (.int p2), some (.int p3)]) (S' := []) 6 (fun P9 h9 => c_X_become (d + 0) p0 p1 p2 p3 x1 hx2 h9) (fun n h => h) ?_
  cases h
  exact go_ret 1 (fun _ => hp)
def f_X_goesBeside (N : Nat) (σ : aSt) : Option (Int32 × aSt) :=
  (if (σ.2.2 0 13) = true then (if (f_X_inBounds ((-2 : Int32) * (f_PointList_a_11 σ)) (f_X_besideB σ)) = true then ((f_X_change N ((-2 : Int32) * (f_PointList_a_11 σ)) (f_X_besideB σ) (f_PointList_most_11 σ) (f_PointList_deepest_11 σ) σ).bind fun x3 => some (x3.1, x3.2)) else some ((-5 : Int32), σ)) else some ((-2 : Int32), σ))
set_option maxRecDepth 20000 in
set_option maxHeartbeats 4000000 in
theorem c_X_goesBeside (d : Nat) {N : Nat} (σ : aSt) {P : Option Value → aSt → Prop} {x : (Int32 × aSt)} (h : f_X_goesBeside N σ = some x) (hp : P (some (.int x.1)) x.2) : aCall MT (d + 8) 248 [.ref 0] σ P := by
  unfold f_X_goesBeside at h
  refine call_of (code := mc_X_goesBeside) (L := [some (.ref 0), none, none]) rfl rfl rfl rfl ?_
  refine go_ifn (b := (σ.2.2 0 13)) (k1 := 5) (L1 := [some (.ref 0), none, none]) (S1 := []) (σ1 := σ) (k2 := 3) (L2 := [some (.ref 0), none, none]) (S2 := []) (σ2 := σ) 3 (fun n h => h) (fun hc1 => ?_) (fun hc1 => ?_)
  · rw [if_pos hc1] at h
    refine go_call (r := some (.int (f_PointList_a_11 σ))) (σc := σ) (σ1 := σ) (mi := 26) (vs := [.ref 11]) (k' := 9) (L' := [some (.ref 0), none, none]) (S' := [.int (-2 : Int32)]) 4 (fun P9 h9 => c_PointList_a_11 (d + 6) σ h9) (fun n h => h) ?_
    refine go_call (r := some (.int (f_X_besideB σ))) (σc := σ) (σ1 := σ) (mi := 138) (vs := [.ref 0]) (k' := 13) (L' := [some (.ref 0), some (.int ((-2 : Int32) * (f_PointList_a_11 σ))), none]) (S' := []) 4 (fun P9 h9 => c_X_besideB (d + 5) σ h9) (fun n h => h) ?_
    refine go_call (r := some (.int (b2i (f_X_inBounds ((-2 : Int32) * (f_PointList_a_11 σ)) (f_X_besideB σ))))) (σc := σ) (σ1 := σ) (mi := 245) (vs := [.int ((-2 : Int32) * (f_PointList_a_11 σ)), .int (f_X_besideB σ)]) (k' := 17) (L' := [some (.ref 0), some (.int ((-2 : Int32) * (f_PointList_a_11 σ))), some (.int (f_X_besideB σ))]) (S' := []) 4 (fun P9 h9 => c_X_inBounds (d + 6) ((-2 : Int32) * (f_PointList_a_11 σ)) (f_X_besideB σ) σ h9) (fun n h => h) ?_
    refine go_ifz (b := (f_X_inBounds ((-2 : Int32) * (f_PointList_a_11 σ)) (f_X_besideB σ))) (k1 := 29) (L1 := [some (.ref 0), some (.int ((-2 : Int32) * (f_PointList_a_11 σ))), some (.int (f_X_besideB σ))]) (S1 := []) (σ1 := σ) (k2 := 18) (L2 := [some (.ref 0), some (.int ((-2 : Int32) * (f_PointList_a_11 σ))), some (.int (f_X_besideB σ))]) (S2 := []) (σ2 := σ) 1 (fun n h => h) (fun hc2 => ?_) (fun hc2 => ?_)
    · rw [if_neg hc2] at h
      cases h
      exact go_ret 2 (fun _ => hp)
    · rw [if_pos hc2] at h
      refine go_call (r := some (.int (f_PointList_most_11 σ))) (σc := σ) (σ1 := σ) (mi := 69) (vs := [.ref 11]) (k' := 24) (L' := [some (.ref 0), some (.int ((-2 : Int32) * (f_PointList_a_11 σ))), some (.int (f_X_besideB σ))]) (S' := [.int (f_X_besideB σ), .int ((-2 : Int32) * (f_PointList_a_11 σ)), .ref 0]) 6 (fun P9 h9 => c_PointList_most_11 (d + 6) σ h9) (fun n h => h) ?_
      refine go_call (r := some (.int (f_PointList_deepest_11 σ))) (σc := σ) (σ1 := σ) (mi := 70) (vs := [.ref 11]) (k' := 27) (L' := [some (.ref 0), some (.int ((-2 : Int32) * (f_PointList_a_11 σ))), some (.int (f_X_besideB σ))]) (S' := [.int (f_PointList_most_11 σ), .int (f_X_besideB σ), .int ((-2 : Int32) * (f_PointList_a_11 σ)), .ref 0]) 3 (fun P9 h9 => c_PointList_deepest_11 (d + 6) σ h9) (fun n h => h) ?_
      obtain ⟨x3, hx3, h⟩ := bind_of h
      refine go_call (r := some (.int x3.1)) (σc := σ) (σ1 := x3.2) (mi := 247) (vs := [.ref 0, .int ((-2 : Int32) * (f_PointList_a_11 σ)), .int (f_X_besideB σ), .int (f_PointList_most_11 σ), .int (f_PointList_deepest_11 σ)]) (k' := 28) (L' := [some (.ref 0), some (.int ((-2 : Int32) * (f_PointList_a_11 σ))), some (.int (f_X_besideB σ))]) (S' := []) 1 (fun P9 h9 => c_X_change (d + 0) ((-2 : Int32) * (f_PointList_a_11 σ)) (f_X_besideB σ) (f_PointList_most_11 σ) (f_PointList_deepest_11 σ) σ hx3 h9) (fun n h => h) ?_
      cases h
      exact go_ret 2 (fun _ => hp)
  · rw [if_neg hc1] at h
    cases h
    exact go_ret 2 (fun _ => hp)
def f_X_twists (N : Nat) (p0 : Int32) (σ : aSt) : Option (Int32 × aSt) :=
  (if (σ.2.2 0 13) = true then (if p0 = 0 then some ((-2 : Int32), σ) else (if p0 < (-9 : Int32) then some ((-2 : Int32), σ) else (if p0 ≤ (9 : Int32) then (if (f_X_inBounds ((f_PointList_a_11 σ) * p0) (((f_PointList_b_11 σ) * p0) * p0)) = true then ((f_X_change N ((f_PointList_a_11 σ) * p0) (((f_PointList_b_11 σ) * p0) * p0) (f_PointList_most_11 σ) (f_PointList_deepest_11 σ) σ).bind fun x6 => some (x6.1, x6.2)) else some ((-5 : Int32), σ)) else some ((-2 : Int32), σ)))) else some ((-2 : Int32), σ))
set_option maxRecDepth 20000 in
set_option maxHeartbeats 4000000 in
theorem c_X_twists (d : Nat) {N : Nat} (p0 : Int32) (σ : aSt) {P : Option Value → aSt → Prop} {x : (Int32 × aSt)} (h : f_X_twists N p0 σ = some x) (hp : P (some (.int x.1)) x.2) : aCall MT (d + 8) 252 [.ref 0, .int p0] σ P := by
  unfold f_X_twists at h
  refine call_of (code := mc_X_twists) (L := [some (.ref 0), some (.int p0), none, none]) rfl rfl rfl rfl ?_
  refine go_ifz (b := (σ.2.2 0 13)) (k1 := 11) (L1 := [some (.ref 0), some (.int p0), none, none]) (S1 := []) (σ1 := σ) (k2 := 3) (L2 := [some (.ref 0), some (.int p0), none, none]) (S2 := []) (σ2 := σ) 3 (fun n h => h) (fun hc1 => ?_) (fun hc1 => ?_)
  · rw [if_neg hc1] at h
    cases h
    exact go_ret 2 (fun _ => hp)
  · rw [if_pos hc1] at h
    refine go_if (c := p0 = 0) (k1 := 11) (L1 := [some (.ref 0), some (.int p0), none, none]) (S1 := []) (σ1 := σ) (k2 := 5) (L2 := [some (.ref 0), some (.int p0), none, none]) (S2 := []) (σ2 := σ) 2 (fun n h => h) (fun hc2 => ?_) (fun hc2 => ?_)
    · rw [if_pos hc2] at h
      cases h
      exact go_ret 2 (fun _ => hp)
    · rw [if_neg hc2] at h
      refine go_if (c := p0 < (-9 : Int32)) (k1 := 11) (L1 := [some (.ref 0), some (.int p0), none, none]) (S1 := []) (σ1 := σ) (k2 := 8) (L2 := [some (.ref 0), some (.int p0), none, none]) (S2 := []) (σ2 := σ) 3 (fun n h => h) (fun hc3 => ?_) (fun hc3 => ?_)
      · rw [if_pos hc3] at h
        cases h
        exact go_ret 2 (fun _ => hp)
      · rw [if_neg hc3] at h
        refine go_if (c := p0 ≤ (9 : Int32)) (k1 := 13) (L1 := [some (.ref 0), some (.int p0), none, none]) (S1 := []) (σ1 := σ) (k2 := 11) (L2 := [some (.ref 0), some (.int p0), none, none]) (S2 := []) (σ2 := σ) 3 (fun n h => h) (fun hc4 => ?_) (fun hc4 => ?_)
        · rw [if_pos hc4] at h
          refine go_call (r := some (.int (f_PointList_a_11 σ))) (σc := σ) (σ1 := σ) (mi := 26) (vs := [.ref 11]) (k' := 16) (L' := [some (.ref 0), some (.int p0), none, none]) (S' := []) 3 (fun P9 h9 => c_PointList_a_11 (d + 6) σ h9) (fun n h => h) ?_
          refine go_call (r := some (.int (f_PointList_b_11 σ))) (σc := σ) (σ1 := σ) (mi := 27) (vs := [.ref 11]) (k' := 22) (L' := [some (.ref 0), some (.int p0), some (.int ((f_PointList_a_11 σ) * p0)), none]) (S' := []) 6 (fun P9 h9 => c_PointList_b_11 (d + 6) σ h9) (fun n h => h) ?_
          refine go_call (r := some (.int (b2i (f_X_inBounds ((f_PointList_a_11 σ) * p0) (((f_PointList_b_11 σ) * p0) * p0))))) (σc := σ) (σ1 := σ) (mi := 245) (vs := [.int ((f_PointList_a_11 σ) * p0), .int (((f_PointList_b_11 σ) * p0) * p0)]) (k' := 30) (L' := [some (.ref 0), some (.int p0), some (.int ((f_PointList_a_11 σ) * p0)), some (.int (((f_PointList_b_11 σ) * p0) * p0))]) (S' := []) 8 (fun P9 h9 => c_X_inBounds (d + 6) ((f_PointList_a_11 σ) * p0) (((f_PointList_b_11 σ) * p0) * p0) σ h9) (fun n h => h) ?_
          refine go_ifz (b := (f_X_inBounds ((f_PointList_a_11 σ) * p0) (((f_PointList_b_11 σ) * p0) * p0))) (k1 := 42) (L1 := [some (.ref 0), some (.int p0), some (.int ((f_PointList_a_11 σ) * p0)), some (.int (((f_PointList_b_11 σ) * p0) * p0))]) (S1 := []) (σ1 := σ) (k2 := 31) (L2 := [some (.ref 0), some (.int p0), some (.int ((f_PointList_a_11 σ) * p0)), some (.int (((f_PointList_b_11 σ) * p0) * p0))]) (S2 := []) (σ2 := σ) 1 (fun n h => h) (fun hc5 => ?_) (fun hc5 => ?_)
          · rw [if_neg hc5] at h
            cases h
            exact go_ret 2 (fun _ => hp)
          · rw [if_pos hc5] at h
            refine go_call (r := some (.int (f_PointList_most_11 σ))) (σc := σ) (σ1 := σ) (mi := 69) (vs := [.ref 11]) (k' := 37) (L' := [some (.ref 0), some (.int p0), some (.int ((f_PointList_a_11 σ) * p0)), some (.int (((f_PointList_b_11 σ) * p0) * p0))]) (S' := [.int (((f_PointList_b_11 σ) * p0) * p0), .int ((f_PointList_a_11 σ) * p0), .ref 0]) 6 (fun P9 h9 => c_PointList_most_11 (d + 6) σ h9) (fun n h => h) ?_
            refine go_call (r := some (.int (f_PointList_deepest_11 σ))) (σc := σ) (σ1 := σ) (mi := 70) (vs := [.ref 11]) (k' := 40) (L' := [some (.ref 0), some (.int p0), some (.int ((f_PointList_a_11 σ) * p0)), some (.int (((f_PointList_b_11 σ) * p0) * p0))]) (S' := [.int (f_PointList_most_11 σ), .int (((f_PointList_b_11 σ) * p0) * p0), .int ((f_PointList_a_11 σ) * p0), .ref 0]) 3 (fun P9 h9 => c_PointList_deepest_11 (d + 6) σ h9) (fun n h => h) ?_
            obtain ⟨x6, hx6, h⟩ := bind_of h
            refine go_call (r := some (.int x6.1)) (σc := σ) (σ1 := x6.2) (mi := 247) (vs := [.ref 0, .int ((f_PointList_a_11 σ) * p0), .int (((f_PointList_b_11 σ) * p0) * p0), .int (f_PointList_most_11 σ), .int (f_PointList_deepest_11 σ)]) (k' := 41) (L' := [some (.ref 0), some (.int p0), some (.int ((f_PointList_a_11 σ) * p0)), some (.int (((f_PointList_b_11 σ) * p0) * p0))]) (S' := []) 1 (fun P9 h9 => c_X_change (d + 0) ((f_PointList_a_11 σ) * p0) (((f_PointList_b_11 σ) * p0) * p0) (f_PointList_most_11 σ) (f_PointList_deepest_11 σ) σ hx6 h9) (fun n h => h) ?_
            cases h
            exact go_ret 2 (fun _ => hp)
        · rw [if_neg hc4] at h
          cases h
          exact go_ret 2 (fun _ => hp)
def f_X_within (N : Nat) (p0 : Int32) (p1 : Int32) (σ : aSt) : Option (Int32 × aSt) :=
  (if (σ.2.2 0 13) = true then (if p0 < (1 : Int32) then some ((-2 : Int32), σ) else (if (1000 : Int32) < p0 then some ((-2 : Int32), σ) else (if p1 < (1 : Int32) then some ((-2 : Int32), σ) else (if p1 ≤ (6 : Int32) then ((f_X_change N (f_PointList_a_11 σ) (f_PointList_b_11 σ) p0 p1 σ).bind fun x6 => some (x6.1, x6.2)) else some ((-2 : Int32), σ))))) else some ((-2 : Int32), σ))
set_option maxRecDepth 20000 in
set_option maxHeartbeats 4000000 in
theorem c_X_within (d : Nat) {N : Nat} (p0 : Int32) (p1 : Int32) (σ : aSt) {P : Option Value → aSt → Prop} {x : (Int32 × aSt)} (h : f_X_within N p0 p1 σ = some x) (hp : P (some (.int x.1)) x.2) : aCall MT (d + 8) 254 [.ref 0, .int p0, .int p1] σ P := by
  unfold f_X_within at h
  refine call_of (code := mc_X_within) (L := [some (.ref 0), some (.int p0), some (.int p1)]) rfl rfl rfl rfl ?_
  refine go_ifz (b := (σ.2.2 0 13)) (k1 := 15) (L1 := [some (.ref 0), some (.int p0), some (.int p1)]) (S1 := []) (σ1 := σ) (k2 := 3) (L2 := [some (.ref 0), some (.int p0), some (.int p1)]) (S2 := []) (σ2 := σ) 3 (fun n h => h) (fun hc1 => ?_) (fun hc1 => ?_)
  · rw [if_neg hc1] at h
    cases h
    exact go_ret 2 (fun _ => hp)
  · rw [if_pos hc1] at h
    refine go_if (c := p0 < (1 : Int32)) (k1 := 15) (L1 := [some (.ref 0), some (.int p0), some (.int p1)]) (S1 := []) (σ1 := σ) (k2 := 6) (L2 := [some (.ref 0), some (.int p0), some (.int p1)]) (S2 := []) (σ2 := σ) 3 (fun n h => h) (fun hc2 => ?_) (fun hc2 => ?_)
    · rw [if_pos hc2] at h
      cases h
      exact go_ret 2 (fun _ => hp)
    · rw [if_neg hc2] at h
      refine go_if (c := (1000 : Int32) < p0) (k1 := 15) (L1 := [some (.ref 0), some (.int p0), some (.int p1)]) (S1 := []) (σ1 := σ) (k2 := 9) (L2 := [some (.ref 0), some (.int p0), some (.int p1)]) (S2 := []) (σ2 := σ) 3 (fun n h => h) (fun hc3 => ?_) (fun hc3 => ?_)
      · rw [if_pos hc3] at h
        cases h
        exact go_ret 2 (fun _ => hp)
      · rw [if_neg hc3] at h
        refine go_if (c := p1 < (1 : Int32)) (k1 := 15) (L1 := [some (.ref 0), some (.int p0), some (.int p1)]) (S1 := []) (σ1 := σ) (k2 := 12) (L2 := [some (.ref 0), some (.int p0), some (.int p1)]) (S2 := []) (σ2 := σ) 3 (fun n h => h) (fun hc4 => ?_) (fun hc4 => ?_)
        · rw [if_pos hc4] at h
          cases h
          exact go_ret 2 (fun _ => hp)
        · rw [if_neg hc4] at h
          refine go_if (c := p1 ≤ (6 : Int32)) (k1 := 17) (L1 := [some (.ref 0), some (.int p0), some (.int p1)]) (S1 := []) (σ1 := σ) (k2 := 15) (L2 := [some (.ref 0), some (.int p0), some (.int p1)]) (S2 := []) (σ2 := σ) 3 (fun n h => h) (fun hc5 => ?_) (fun hc5 => ?_)
          · rw [if_pos hc5] at h
            refine go_call (r := some (.int (f_PointList_a_11 σ))) (σc := σ) (σ1 := σ) (mi := 26) (vs := [.ref 11]) (k' := 21) (L' := [some (.ref 0), some (.int p0), some (.int p1)]) (S' := [.ref 0]) 4 (fun P9 h9 => c_PointList_a_11 (d + 6) σ h9) (fun n h => h) ?_
            refine go_call (r := some (.int (f_PointList_b_11 σ))) (σc := σ) (σ1 := σ) (mi := 27) (vs := [.ref 11]) (k' := 24) (L' := [some (.ref 0), some (.int p0), some (.int p1)]) (S' := [.int (f_PointList_a_11 σ), .ref 0]) 3 (fun P9 h9 => c_PointList_b_11 (d + 6) σ h9) (fun n h => h) ?_
            obtain ⟨x6, hx6, h⟩ := bind_of h
            refine go_call (r := some (.int x6.1)) (σc := σ) (σ1 := x6.2) (mi := 247) (vs := [.ref 0, .int (f_PointList_a_11 σ), .int (f_PointList_b_11 σ), .int p0, .int p1]) (k' := 27) (L' := [some (.ref 0), some (.int p0), some (.int p1)]) (S' := []) 3 (fun P9 h9 => c_X_change (d + 0) (f_PointList_a_11 σ) (f_PointList_b_11 σ) p0 p1 σ hx6 h9) (fun n h => h) ?_
            cases h
            exact go_ret 1 (fun _ => hp)
          · rw [if_neg hc5] at h
            cases h
            exact go_ret 2 (fun _ => hp)
def f_Told_clear (σ : aSt) : aSt :=
  (s_i σ 4 1 (0 : Int32))
set_option maxRecDepth 20000 in
set_option maxHeartbeats 4000000 in
theorem c_Told_clear (d : Nat) (σ : aSt) {P : Option Value → aSt → Prop} (h : P none (f_Told_clear σ)) : aCall MT (d + 1) 256 [.ref 4] σ P := by
  unfold f_Told_clear at h
  refine call_of (code := mc_Told_clear) (L := [some (.ref 4)]) rfl rfl rfl rfl ?_
  exact go_ret 4 (fun _ => h)
def f_Told_putByte (p0 : Int32) (σ : aSt) : aSt :=
  (if (σ.1 4 1) < (64 : Int32) then (lt (f_store σ 5 (σ.1 4 1) p0) fun x2 => (s_i x2 4 1 ((x2.1 4 1) + (1 : Int32)))) else σ)
set_option maxRecDepth 20000 in
set_option maxHeartbeats 4000000 in
theorem c_Told_putByte (d : Nat) (p0 : Int32) (σ : aSt) {P : Option Value → aSt → Prop} (h : P none (f_Told_putByte p0 σ)) : aCall MT (d + 2) 257 [.ref 4, .int p0] σ P := by
  unfold f_Told_putByte at h
  refine call_of (code := mc_Told_putByte) (L := [some (.ref 4), some (.int p0)]) rfl rfl rfl rfl ?_
  refine go_if (c := (σ.1 4 1) < (64 : Int32)) (k1 := 7) (L1 := [some (.ref 4), some (.int p0)]) (S1 := []) (σ1 := σ) (k2 := 6) (L2 := [some (.ref 4), some (.int p0)]) (S2 := []) (σ2 := σ) 6 (fun n h => h) (fun hc1 => ?_) (fun hc1 => ?_)
  · rw [if_pos hc1] at h
    obtain ⟨x2, hx2⟩ : ∃ x2, x2 = f_store σ 5 (σ.1 4 1) p0 := ⟨_, rfl⟩
    rw [lt_eq, ← hx2] at h
    refine go_call (r := none) (σc := σ) (σ1 := x2) (mi := 1) (vs := [.ref 5, .int (σ.1 4 1), .int p0]) (k' := 13) (L' := [some (.ref 4), some (.int p0)]) (S' := []) 6 (fun P9 h9 => c_store (d + 0) σ 5 rfl rfl (σ.1 4 1) p0 (by rw [← hx2]; exact h9)) (fun n h => h) ?_
    exact go_ret 7 (fun _ => h)
  · rw [if_neg hc1] at h
    exact go_ret 1 (fun _ => h)
def f_Told_putNumber_l30 (N : Nat) : Nat → Int64 → Int64 → Int32 → aSt → Option aSt
  | 0, _, _, _, _ => none
  | n + 1, v2, v4, v6, σ => (if (12 : Int32) ≤ v6 then some σ else (if v4 ≤ (0 : Int64) then some σ else (lt (f_Told_putByte ((48 : Int64) + (lrem (v2 / v4) (10 : Int64))).toInt32 σ) fun x5 => f_Told_putNumber_l30 N n v2 (v4 / (10 : Int64)) (v6 + (1 : Int32)) x5)))
set_option maxRecDepth 20000 in
set_option maxHeartbeats 4000000 in
theorem t_Told_putNumber_l30 (d : Nat) {N : Nat} {x : aSt} {P : Option Value → aSt → Prop} (hp : P none x) : ∀ (n : Nat) (d1 : Option Value) (v2 : Int64) (v4 : Int64) (v6 : Int32) (σ : aSt), f_Told_putNumber_l30 N n v2 v4 v6 σ = some x → aGo (aCall MT (d + 2)) P mc_Told_putNumber 30 [some (.ref 4), d1, some (.long v2), none, some (.long v4), none, some (.int v6)] [] σ := by
  intro n
  induction n with
  | zero => intro d1 v2 v4 v6 σ h; cases h
  | succ n ih =>
    intro d1 v2 v4 v6 σ h
    rw [f_Told_putNumber_l30] at h
    refine go_if (c := (12 : Int32) ≤ v6) (k1 := 53) (L1 := [some (.ref 4), d1, some (.long v2), none, some (.long v4), none, some (.int v6)]) (S1 := []) (σ1 := σ) (k2 := 33) (L2 := [some (.ref 4), d1, some (.long v2), none, some (.long v4), none, some (.int v6)]) (S2 := []) (σ2 := σ) 3 (fun n h => h) (fun hc3 => ?_) (fun hc3 => ?_)
    · rw [if_pos hc3] at h
      cases h
      exact go_ret 1 (fun _ => hp)
    · rw [if_neg hc3] at h
      refine go_iff (lcmp_le v4 (0 : Int64)) (k1 := 53) (L1 := [some (.ref 4), d1, some (.long v2), none, some (.long v4), none, some (.int v6)]) (S1 := []) (σ1 := σ) (k2 := 37) (L2 := [some (.ref 4), d1, some (.long v2), none, some (.long v4), none, some (.int v6)]) (S2 := []) (σ2 := σ) 4 (fun n h => h) (fun hc4 => ?_) (fun hc4 => ?_)
      · rw [if_pos hc4] at h
        cases h
        exact go_ret 1 (fun _ => hp)
      · rw [if_neg hc4] at h
        refine go_q (Q := ¬ v4 = 0) (k' := 42) (L' := [some (.ref 4), d1, some (.long v2), none, some (.long v4), none, some (.int v6)]) (S' := [.long (v2 / v4), .long (48 : Int64), .ref 4]) (σ' := σ) 5 (fun q => hc4 (by rw [q]; decide)) (fun n h => h) ?_
        refine go_q (Q := ¬ (10 : Int64) = 0) (k' := 44) (L' := [some (.ref 4), d1, some (.long v2), none, some (.long v4), none, some (.int v6)]) (S' := [.long (lrem (v2 / v4) (10 : Int64)), .long (48 : Int64), .ref 4]) (σ' := σ) 2 (by decide) (fun n h => h) ?_
        obtain ⟨x5, hx5, h⟩ := lt_of h
        refine go_call (r := none) (σc := σ) (σ1 := x5) (mi := 257) (vs := [.ref 4, .int ((48 : Int64) + (lrem (v2 / v4) (10 : Int64))).toInt32]) (k' := 47) (L' := [some (.ref 4), d1, some (.long v2), none, some (.long v4), none, some (.int v6)]) (S' := []) 3 (fun P9 h9 => c_Told_putByte (d + 0) ((48 : Int64) + (lrem (v2 / v4) (10 : Int64))).toInt32 σ (by rw [← hx5]; exact h9)) (fun n h => h) ?_
        refine go_q (Q := ¬ (10 : Int64) = 0) (k' := 50) (L' := [some (.ref 4), d1, some (.long v2), none, some (.long v4), none, some (.int v6)]) (S' := [.long (v4 / (10 : Int64))]) (σ' := x5) 3 (by decide) (fun n h => h) ?_
        refine go_st (k' := 30) (L' := [some (.ref 4), d1, some (.long v2), none, some (.long (v4 / (10 : Int64))), none, some (.int (v6 + (1 : Int32)))]) (S' := []) (σ' := x5) 3 (fun n h => h) ?_
        exact ih _ v2 (v4 / (10 : Int64)) (v6 + (1 : Int32)) x5 h
def f_Told_putNumber_b28 (N : Nat) (v2 : Int64) (v4 : Int64) (σ : aSt) : Option aSt :=
  f_Told_putNumber_l30 N N v2 v4 (0 : Int32) σ
set_option maxRecDepth 20000 in
set_option maxHeartbeats 4000000 in
theorem t_Told_putNumber_b28 (d : Nat) {N : Nat} (d1 d6 : Option Value) (v2 : Int64) (v4 : Int64) (σ : aSt) {P : Option Value → aSt → Prop} {x : aSt} (h : f_Told_putNumber_b28 N v2 v4 σ = some x) (hp : P none x) : aGo (aCall MT (d + 2)) P mc_Told_putNumber 28 [some (.ref 4), d1, some (.long v2), none, some (.long v4), none, d6] [] σ := by
  unfold f_Told_putNumber_b28 at h
  refine go_st (k' := 30) (L' := [some (.ref 4), d1, some (.long v2), none, some (.long v4), none, some (.int (0 : Int32))]) (S' := []) (σ' := σ) 2 (fun n h => h) ?_
  exact t_Told_putNumber_l30 d hp N _ v2 v4 (0 : Int32) σ h
def f_Told_putNumber_l13 (N : Nat) : Nat → Int64 → Int64 → Int32 → aSt → Option aSt
  | 0, _, _, _, _ => none
  | n + 1, v2, v4, v6, σ => (if (12 : Int32) ≤ v6 then f_Told_putNumber_b28 N v2 v4 σ else (if v2 < (v4 * (10 : Int64)) then f_Told_putNumber_b28 N v2 v4 σ else f_Told_putNumber_l13 N n v2 (v4 * (10 : Int64)) (v6 + (1 : Int32)) σ))
set_option maxRecDepth 20000 in
set_option maxHeartbeats 4000000 in
theorem t_Told_putNumber_l13 (d : Nat) {N : Nat} {x : aSt} {P : Option Value → aSt → Prop} (hp : P none x) : ∀ (n : Nat) (d1 : Option Value) (v2 : Int64) (v4 : Int64) (v6 : Int32) (σ : aSt), f_Told_putNumber_l13 N n v2 v4 v6 σ = some x → aGo (aCall MT (d + 2)) P mc_Told_putNumber 13 [some (.ref 4), d1, some (.long v2), none, some (.long v4), none, some (.int v6)] [] σ := by
  intro n
  induction n with
  | zero => intro d1 v2 v4 v6 σ h; cases h
  | succ n ih =>
    intro d1 v2 v4 v6 σ h
    rw [f_Told_putNumber_l13] at h
    refine go_if (c := (12 : Int32) ≤ v6) (k1 := 28) (L1 := [some (.ref 4), d1, some (.long v2), none, some (.long v4), none, some (.int v6)]) (S1 := []) (σ1 := σ) (k2 := 16) (L2 := [some (.ref 4), d1, some (.long v2), none, some (.long v4), none, some (.int v6)]) (S2 := []) (σ2 := σ) 3 (fun n h => h) (fun hc2 => ?_) (fun hc2 => ?_)
    · rw [if_pos hc2] at h
      exact t_Told_putNumber_b28 d _ _ v2 v4 σ h hp
    · rw [if_neg hc2] at h
      refine go_iff (lcmp_gt (v4 * (10 : Int64)) v2) (k1 := 28) (L1 := [some (.ref 4), d1, some (.long v2), none, some (.long v4), none, some (.int v6)]) (S1 := []) (σ1 := σ) (k2 := 22) (L2 := [some (.ref 4), d1, some (.long v2), none, some (.long v4), none, some (.int v6)]) (S2 := []) (σ2 := σ) 6 (fun n h => h) (fun hc6 => ?_) (fun hc6 => ?_)
      · rw [if_pos hc6] at h
        exact t_Told_putNumber_b28 d _ _ v2 v4 σ h hp
      · rw [if_neg hc6] at h
        refine go_st (k' := 13) (L' := [some (.ref 4), d1, some (.long v2), none, some (.long (v4 * (10 : Int64))), none, some (.int (v6 + (1 : Int32)))]) (S' := []) (σ' := σ) 6 (fun n h => h) ?_
        exact ih _ v2 (v4 * (10 : Int64)) (v6 + (1 : Int32)) σ h
def f_Told_putNumber_b5 (N : Nat) (v1 : Int32) (σ : aSt) : Option aSt :=
  f_Told_putNumber_l13 N N (labs v1.toInt64) (1 : Int64) (0 : Int32) σ
set_option maxRecDepth 20000 in
set_option maxHeartbeats 4000000 in
theorem t_Told_putNumber_b5 (d : Nat) {N : Nat} (d2 d3 d4 d5 d6 : Option Value) (v1 : Int32) (σ : aSt) {P : Option Value → aSt → Prop} {x : aSt} (h : f_Told_putNumber_b5 N v1 σ = some x) (hp : P none x) : aGo (aCall MT (d + 2)) P mc_Told_putNumber 5 [some (.ref 4), some (.int v1), d2, d3, d4, d5, d6] [] σ := by
  unfold f_Told_putNumber_b5 at h
  refine go_st (k' := 13) (L' := [some (.ref 4), none, some (.long (labs v1.toInt64)), none, some (.long (1 : Int64)), none, some (.int (0 : Int32))]) (S' := []) (σ' := σ) 8 (fun n h => h) ?_
  exact t_Told_putNumber_l13 d hp N _ (labs v1.toInt64) (1 : Int64) (0 : Int32) σ h
def f_Told_putNumber (N : Nat) (p0 : Int32) (σ : aSt) : Option aSt :=
  (if 0 ≤ p0 then f_Told_putNumber_b5 N p0 σ else (lt (f_Told_putByte (45 : Int32) σ) fun x7 => f_Told_putNumber_b5 N p0 x7))
set_option maxRecDepth 20000 in
set_option maxHeartbeats 4000000 in
theorem c_Told_putNumber (d : Nat) {N : Nat} (p0 : Int32) (σ : aSt) {P : Option Value → aSt → Prop} {x : aSt} (h : f_Told_putNumber N p0 σ = some x) (hp : P none x) : aCall MT (d + 3) 258 [.ref 4, .int p0] σ P := by
  unfold f_Told_putNumber at h
  refine call_of (code := mc_Told_putNumber) (L := [some (.ref 4), some (.int p0), none, none, none, none, none]) rfl rfl rfl rfl ?_
  refine go_if (c := 0 ≤ p0) (k1 := 5) (L1 := [some (.ref 4), some (.int p0), none, none, none, none, none]) (S1 := []) (σ1 := σ) (k2 := 2) (L2 := [some (.ref 4), some (.int p0), none, none, none, none, none]) (S2 := []) (σ2 := σ) 2 (fun n h => h) (fun hc1 => ?_) (fun hc1 => ?_)
  · rw [if_pos hc1] at h
    exact t_Told_putNumber_b5 d _ _ _ _ _ p0 σ h hp
  · rw [if_neg hc1] at h
    obtain ⟨x7, hx7, h⟩ := lt_of h
    refine go_call (r := none) (σc := σ) (σ1 := x7) (mi := 257) (vs := [.ref 4, .int (45 : Int32)]) (k' := 5) (L' := [some (.ref 4), some (.int p0), none, none, none, none, none]) (S' := []) 3 (fun P9 h9 => c_Told_putByte (d + 0) (45 : Int32) σ (by rw [← hx7]; exact h9)) (fun n h => h) ?_
    exact t_Told_putNumber_b5 d _ _ _ _ _ p0 x7 h hp
def f_X_tellFraction (N : Nat) (p0 : Int32) (p1 : Int32) (σ : aSt) : Option aSt :=
  ((f_Told_putNumber N p0 σ).bind fun x1 => (if p1 ≠ (1 : Int32) then (lt (f_Told_putByte (47 : Int32) x1) fun x3 => ((f_Told_putNumber N p1 x3).bind fun x4 => some x4)) else some x1))
set_option maxRecDepth 20000 in
set_option maxHeartbeats 4000000 in
theorem c_X_tellFraction (d : Nat) {N : Nat} (p0 : Int32) (p1 : Int32) (σ : aSt) {P : Option Value → aSt → Prop} {x : aSt} (h : f_X_tellFraction N p0 p1 σ = some x) (hp : P none x) : aCall MT (d + 4) 259 [.ref 0, .int p0, .int p1] σ P := by
  unfold f_X_tellFraction at h
  refine call_of (code := mc_X_tellFraction) (L := [some (.ref 0), some (.int p0), some (.int p1)]) rfl rfl rfl rfl ?_
  obtain ⟨x1, hx1, h⟩ := bind_of h
  refine go_call (r := none) (σc := σ) (σ1 := x1) (mi := 258) (vs := [.ref 4, .int p0]) (k' := 4) (L' := [some (.ref 0), some (.int p0), some (.int p1)]) (S' := []) 4 (fun P9 h9 => c_Told_putNumber (d + 0) p0 σ hx1 h9) (fun n h => h) ?_
  refine go_if (c := p1 ≠ (1 : Int32)) (k1 := 8) (L1 := [some (.ref 0), some (.int p0), some (.int p1)]) (S1 := []) (σ1 := x1) (k2 := 7) (L2 := [some (.ref 0), some (.int p0), some (.int p1)]) (S2 := []) (σ2 := x1) 3 (fun n h => h) (fun hc2 => ?_) (fun hc2 => ?_)
  · rw [if_pos hc2] at h
    obtain ⟨x3, hx3, h⟩ := lt_of h
    refine go_call (r := none) (σc := x1) (σ1 := x3) (mi := 257) (vs := [.ref 4, .int (47 : Int32)]) (k' := 12) (L' := [some (.ref 0), some (.int p0), some (.int p1)]) (S' := []) 4 (fun P9 h9 => c_Told_putByte (d + 1) (47 : Int32) x1 (by rw [← hx3]; exact h9)) (fun n h => h) ?_
    obtain ⟨x4, hx4, h⟩ := bind_of h
    refine go_call (r := none) (σc := x3) (σ1 := x4) (mi := 258) (vs := [.ref 4, .int p1]) (k' := 16) (L' := [some (.ref 0), some (.int p0), some (.int p1)]) (S' := []) 4 (fun P9 h9 => c_Told_putNumber (d + 0) p1 x3 hx4 h9) (fun n h => h) ?_
    cases h
    exact go_ret 1 (fun _ => hp)
  · rw [if_neg hc2] at h
    cases h
    exact go_ret 1 (fun _ => hp)
def f_Told_putText_204_l2 (N : Nat) : Nat → Int32 → aSt → Option aSt
  | 0, _, _ => none
  | n + 1, v2, σ => (if (2 : Int32) ≤ v2 then some σ else (if 0 ≤ v2 ∧ v2 < (2 : Int32) then (lt (f_Told_putByte (sch 204 v2) σ) fun x3 => f_Told_putText_204_l2 N n (v2 + (1 : Int32)) x3) else none))
set_option maxRecDepth 20000 in
set_option maxHeartbeats 4000000 in
theorem t_Told_putText_204_l2 (d : Nat) {N : Nat} {x : aSt} {P : Option Value → aSt → Prop} (hp : P none x) : ∀ (n : Nat) (v2 : Int32) (σ : aSt), f_Told_putText_204_l2 N n v2 σ = some x → aGo (aCall MT (d + 2)) P mc_Told_putText 2 [some (.ref 4), some (.ref 204), some (.int v2)] [] σ := by
  intro n
  induction n with
  | zero => intro v2 σ h; cases h
  | succ n ih =>
    intro v2 σ h
    rw [f_Told_putText_204_l2] at h
    refine go_if (c := (2 : Int32) ≤ v2) (k1 := 13) (L1 := [some (.ref 4), some (.ref 204), some (.int v2)]) (S1 := []) (σ1 := σ) (k2 := 6) (L2 := [some (.ref 4), some (.ref 204), some (.int v2)]) (S2 := []) (σ2 := σ) 4 (fun n h => h) (fun hc1 => ?_) (fun hc1 => ?_)
    · rw [if_pos hc1] at h
      cases h
      exact go_ret 1 (fun _ => hp)
    · rw [if_neg hc1] at h
      obtain ⟨hc2, h⟩ := ite_of h
      refine go_q (Q := 0 ≤ v2 ∧ v2 < slen 204) (k' := 10) (L' := [some (.ref 4), some (.ref 204), some (.int v2)]) (S' := [.int (sch 204 v2), .ref 4]) (σ' := σ) 4 hc2 (fun n h => h) ?_
      obtain ⟨x3, hx3, h⟩ := lt_of h
      refine go_call (r := none) (σc := σ) (σ1 := x3) (mi := 257) (vs := [.ref 4, .int (sch 204 v2)]) (k' := 11) (L' := [some (.ref 4), some (.ref 204), some (.int v2)]) (S' := []) 1 (fun P9 h9 => c_Told_putByte (d + 0) (sch 204 v2) σ (by rw [← hx3]; exact h9)) (fun n h => h) ?_
      refine go_st (k' := 2) (L' := [some (.ref 4), some (.ref 204), some (.int (v2 + (1 : Int32)))]) (S' := []) (σ' := x3) 2 (fun n h => h) ?_
      exact ih (v2 + (1 : Int32)) x3 h
def f_Told_putText_204 (N : Nat) (σ : aSt) : Option aSt :=
  f_Told_putText_204_l2 N N (0 : Int32) σ
set_option maxRecDepth 20000 in
set_option maxHeartbeats 4000000 in
theorem c_Told_putText_204 (d : Nat) {N : Nat} (σ : aSt) {P : Option Value → aSt → Prop} {x : aSt} (h : f_Told_putText_204 N σ = some x) (hp : P none x) : aCall MT (d + 3) 260 [.ref 4, .ref 204] σ P := by
  unfold f_Told_putText_204 at h
  refine call_of (code := mc_Told_putText) (L := [some (.ref 4), some (.ref 204), none]) rfl rfl rfl rfl ?_
  refine go_st (k' := 2) (L' := [some (.ref 4), some (.ref 204), some (.int (0 : Int32))]) (S' := []) (σ' := σ) 2 (fun n h => h) ?_
  exact t_Told_putText_204_l2 d hp N (0 : Int32) σ h
def f_X_tell (N : Nat) (p0 : Int32) (σ : aSt) : Option (Int32 × aSt) :=
  (if (f_X_isPoint p0 σ) = true then (lt (f_Told_clear σ) fun x2 => (if p0 ≠ (1000 : Int32) then (lt (f_Told_putByte (40 : Int32) x2) fun x4 => ((f_X_tellFraction N (f_PointList_m_11 p0 x4) ((f_PointList_e_11 p0 x2) * (f_PointList_e_11 p0 x2)) x4).bind fun x5 => ((f_Told_putText_204 N x5).bind fun x6 => ((f_X_tellFraction N (f_PointList_n_11 p0 x6) (((f_PointList_e_11 p0 x2) * (f_PointList_e_11 p0 x2)) * (f_PointList_e_11 p0 x2)) x6).bind fun x7 => (lt (f_Told_putByte (41 : Int32) x7) fun x8 => some ((f_Told_length x8), x8)))))) else ((f_Told_putNumber N (0 : Int32) x2).bind fun x9 => some ((f_Told_length x9), x9)))) else some ((-2 : Int32), σ))
set_option maxRecDepth 20000 in
set_option maxHeartbeats 4000000 in
theorem c_X_tell (d : Nat) {N : Nat} (p0 : Int32) (σ : aSt) {P : Option Value → aSt → Prop} {x : (Int32 × aSt)} (h : f_X_tell N p0 σ = some x) (hp : P (some (.int x.1)) x.2) : aCall MT (d + 5) 261 [.ref 0, .int p0] σ P := by
  unfold f_X_tell at h
  refine call_of (code := mc_X_tell) (L := [some (.ref 0), some (.int p0), none]) rfl rfl rfl rfl ?_
  refine go_call (r := some (.int (b2i (f_X_isPoint p0 σ)))) (σc := σ) (σ1 := σ) (mi := 85) (vs := [.ref 0, .int p0]) (k' := 3) (L' := [some (.ref 0), some (.int p0), none]) (S' := []) 3 (fun P9 h9 => c_X_isPoint (d + 1) p0 σ h9) (fun n h => h) ?_
  refine go_ifn (b := (f_X_isPoint p0 σ)) (k1 := 6) (L1 := [some (.ref 0), some (.int p0), none]) (S1 := []) (σ1 := σ) (k2 := 4) (L2 := [some (.ref 0), some (.int p0), none]) (S2 := []) (σ2 := σ) 1 (fun n h => h) (fun hc1 => ?_) (fun hc1 => ?_)
  · rw [if_pos hc1] at h
    obtain ⟨x2, hx2, h⟩ := lt_of h
    refine go_call (r := none) (σc := σ) (σ1 := x2) (mi := 256) (vs := [.ref 4]) (k' := 9) (L' := [some (.ref 0), some (.int p0), none]) (S' := []) 3 (fun P9 h9 => c_Told_clear (d + 3) σ (by rw [← hx2]; exact h9)) (fun n h => h) ?_
    refine go_if (c := p0 ≠ (1000 : Int32)) (k1 := 20) (L1 := [some (.ref 0), some (.int p0), none]) (S1 := []) (σ1 := x2) (k2 := 12) (L2 := [some (.ref 0), some (.int p0), none]) (S2 := []) (σ2 := x2) 3 (fun n h => h) (fun hc3 => ?_) (fun hc3 => ?_)
    · rw [if_pos hc3] at h
      refine go_call (r := some (.int (f_PointList_e_11 p0 x2))) (σc := x2) (σ1 := x2) (mi := 76) (vs := [.ref 11, .int p0]) (k' := 24) (L' := [some (.ref 0), some (.int p0), none]) (S' := []) 4 (fun P9 h9 => c_PointList_e_11 (d + 3) p0 x2 h9) (fun n h => h) ?_
      obtain ⟨x4, hx4, h⟩ := lt_of h
      refine go_call (r := none) (σc := x2) (σ1 := x4) (mi := 257) (vs := [.ref 4, .int (40 : Int32)]) (k' := 29) (L' := [some (.ref 0), some (.int p0), some (.int (f_PointList_e_11 p0 x2))]) (S' := []) 5 (fun P9 h9 => c_Told_putByte (d + 2) (40 : Int32) x2 (by rw [← hx4]; exact h9)) (fun n h => h) ?_
      refine go_call (r := some (.int (f_PointList_m_11 p0 x4))) (σc := x4) (σ1 := x4) (mi := 74) (vs := [.ref 11, .int p0]) (k' := 34) (L' := [some (.ref 0), some (.int p0), some (.int (f_PointList_e_11 p0 x2))]) (S' := [.ref 0]) 5 (fun P9 h9 => c_PointList_m_11 (d + 3) p0 x4 h9) (fun n h => h) ?_
      obtain ⟨x5, hx5, h⟩ := bind_of h
      refine go_call (r := none) (σc := x4) (σ1 := x5) (mi := 259) (vs := [.ref 0, .int (f_PointList_m_11 p0 x4), .int ((f_PointList_e_11 p0 x2) * (f_PointList_e_11 p0 x2))]) (k' := 38) (L' := [some (.ref 0), some (.int p0), some (.int (f_PointList_e_11 p0 x2))]) (S' := []) 4 (fun P9 h9 => c_X_tellFraction (d + 0) (f_PointList_m_11 p0 x4) ((f_PointList_e_11 p0 x2) * (f_PointList_e_11 p0 x2)) x4 hx5 h9) (fun n h => h) ?_
      obtain ⟨x6, hx6, h⟩ := bind_of h
      refine go_call (r := none) (σc := x5) (σ1 := x6) (mi := 260) (vs := [.ref 4, .ref 204]) (k' := 42) (L' := [some (.ref 0), some (.int p0), some (.int (f_PointList_e_11 p0 x2))]) (S' := []) 4 (fun P9 h9 => c_Told_putText_204 (d + 1) x5 hx6 h9) (fun n h => h) ?_
      refine go_call (r := some (.int (f_PointList_n_11 p0 x6))) (σc := x6) (σ1 := x6) (mi := 75) (vs := [.ref 11, .int p0]) (k' := 47) (L' := [some (.ref 0), some (.int p0), some (.int (f_PointList_e_11 p0 x2))]) (S' := [.ref 0]) 5 (fun P9 h9 => c_PointList_n_11 (d + 3) p0 x6 h9) (fun n h => h) ?_
      obtain ⟨x7, hx7, h⟩ := bind_of h
      refine go_call (r := none) (σc := x6) (σ1 := x7) (mi := 259) (vs := [.ref 0, .int (f_PointList_n_11 p0 x6), .int (((f_PointList_e_11 p0 x2) * (f_PointList_e_11 p0 x2)) * (f_PointList_e_11 p0 x2))]) (k' := 53) (L' := [some (.ref 0), some (.int p0), some (.int (f_PointList_e_11 p0 x2))]) (S' := []) 6 (fun P9 h9 => c_X_tellFraction (d + 0) (f_PointList_n_11 p0 x6) (((f_PointList_e_11 p0 x2) * (f_PointList_e_11 p0 x2)) * (f_PointList_e_11 p0 x2)) x6 hx7 h9) (fun n h => h) ?_
      obtain ⟨x8, hx8, h⟩ := lt_of h
      refine go_call (r := none) (σc := x7) (σ1 := x8) (mi := 257) (vs := [.ref 4, .int (41 : Int32)]) (k' := 57) (L' := [some (.ref 0), some (.int p0), some (.int (f_PointList_e_11 p0 x2))]) (S' := []) 4 (fun P9 h9 => c_Told_putByte (d + 2) (41 : Int32) x7 (by rw [← hx8]; exact h9)) (fun n h => h) ?_
      refine go_call (r := some (.int (f_Told_length x8))) (σc := x8) (σ1 := x8) (mi := 68) (vs := [.ref 4]) (k' := 60) (L' := [some (.ref 0), some (.int p0), some (.int (f_PointList_e_11 p0 x2))]) (S' := []) 3 (fun P9 h9 => c_Told_length (d + 3) x8 h9) (fun n h => h) ?_
      cases h
      exact go_ret 1 (fun _ => hp)
    · rw [if_neg hc3] at h
      obtain ⟨x9, hx9, h⟩ := bind_of h
      refine go_call (r := none) (σc := x2) (σ1 := x9) (mi := 258) (vs := [.ref 4, .int (0 : Int32)]) (k' := 16) (L' := [some (.ref 0), some (.int p0), none]) (S' := []) 4 (fun P9 h9 => c_Told_putNumber (d + 1) (0 : Int32) x2 hx9 h9) (fun n h => h) ?_
      refine go_call (r := some (.int (f_Told_length x9))) (σc := x9) (σ1 := x9) (mi := 68) (vs := [.ref 4]) (k' := 19) (L' := [some (.ref 0), some (.int p0), none]) (S' := []) 3 (fun P9 h9 => c_Told_length (d + 3) x9 h9) (fun n h => h) ?_
      cases h
      exact go_ret 1 (fun _ => hp)
  · rw [if_neg hc1] at h
    cases h
    exact go_ret 2 (fun _ => hp)
def f_Told_byteAt (p0 : Int32) (σ : aSt) : Int32 :=
  (if p0 < 0 then (-1 : Int32) else (if (σ.1 4 1) ≤ p0 then (-1 : Int32) else (f_pick σ 5 p0)))
set_option maxRecDepth 20000 in
set_option maxHeartbeats 4000000 in
theorem c_Told_byteAt (d : Nat) (p0 : Int32) (σ : aSt) {P : Option Value → aSt → Prop} (h : P (some (.int ((f_Told_byteAt p0 σ)))) σ) : aCall MT (d + 2) 266 [.ref 4, .int p0] σ P := by
  unfold f_Told_byteAt at h
  refine call_of (code := mc_Told_byteAt) (L := [some (.ref 4), some (.int p0)]) rfl rfl rfl rfl ?_
  refine go_if (c := p0 < 0) (k1 := 11) (L1 := [some (.ref 4), some (.int p0)]) (S1 := []) (σ1 := σ) (k2 := 2) (L2 := [some (.ref 4), some (.int p0)]) (S2 := []) (σ2 := σ) 2 (fun n h => h) (fun hc1 => ?_) (fun hc1 => ?_)
  · rw [if_pos hc1] at h
    exact go_ret 2 (fun _ => h)
  · rw [if_neg hc1] at h
    refine go_if (c := (σ.1 4 1) ≤ p0) (k1 := 11) (L1 := [some (.ref 4), some (.int p0)]) (S1 := []) (σ1 := σ) (k2 := 6) (L2 := [some (.ref 4), some (.int p0)]) (S2 := []) (σ2 := σ) 4 (fun n h => h) (fun hc2 => ?_) (fun hc2 => ?_)
    · rw [if_pos hc2] at h
      exact go_ret 2 (fun _ => h)
    · rw [if_neg hc2] at h
      refine go_call (r := some (.int (f_pick σ 5 p0))) (σc := σ) (σ1 := σ) (mi := 9) (vs := [.ref 5, .int p0]) (k' := 10) (L' := [some (.ref 4), some (.int p0)]) (S' := []) 4 (fun P9 h9 => c_pick (d + 0) σ 5 rfl p0 h9) (fun n h => h) ?_
      exact go_ret 2 (fun _ => h)
def f_X_octet (p0 : Int32) (σ : aSt) : Int32 :=
  (f_Told_byteAt p0 σ)
set_option maxRecDepth 20000 in
set_option maxHeartbeats 4000000 in
theorem c_X_octet (d : Nat) (p0 : Int32) (σ : aSt) {P : Option Value → aSt → Prop} (h : P (some (.int ((f_X_octet p0 σ)))) σ) : aCall MT (d + 3) 267 [.ref 0, .int p0] σ P := by
  unfold f_X_octet at h
  refine call_of (code := mc_X_octet) (L := [some (.ref 0), some (.int p0)]) rfl rfl rfl rfl ?_
  refine go_call (r := some (.int (f_Told_byteAt p0 σ))) (σc := σ) (σ1 := σ) (mi := 266) (vs := [.ref 4, .int p0]) (k' := 4) (L' := [some (.ref 0), some (.int p0)]) (S' := []) 4 (fun P9 h9 => c_Told_byteAt (d + 0) p0 σ h9) (fun n h => h) ?_
  exact go_ret 1 (fun _ => h)
def f_X_half_l12 (N : Nat) : Nat → Int32 → Int32 → Int32 → Int32 → aSt → Option (Int32 × aSt)
  | 0, _, _, _, _, _ => none
  | n + 1, v1, v2, v3, v4, σ => (if (f_PointList_shown_11 σ) ≤ v4 then some ((-1 : Int32), σ) else ((f_Sums_total N v4 v4 σ).bind fun x4 => (if x4.1 = v1 then (if v3 ≠ v2 then f_X_half_l12 N n v1 v2 (v3 + (1 : Int32)) (v4 + (1 : Int32)) x4.2 else some (v4, x4.2)) else f_X_half_l12 N n v1 v2 v3 (v4 + (1 : Int32)) x4.2)))
set_option maxRecDepth 20000 in
set_option maxHeartbeats 4000000 in
theorem t_X_half_l12 (d : Nat) {N : Nat} {x : (Int32 × aSt)} {P : Option Value → aSt → Prop} (hp : P (some (.int x.1)) x.2) : ∀ (n : Nat) (v1 : Int32) (v2 : Int32) (v3 : Int32) (v4 : Int32) (σ : aSt), f_X_half_l12 N n v1 v2 v3 v4 σ = some x → aGo (aCall MT (d + 4)) P mc_X_half 12 [some (.ref 0), some (.int v1), some (.int v2), some (.int v3), some (.int v4)] [] σ := by
  intro n
  induction n with
  | zero => intro v1 v2 v3 v4 σ h; cases h
  | succ n ih =>
    intro v1 v2 v3 v4 σ h
    rw [f_X_half_l12] at h
    refine go_call (r := some (.int (f_PointList_shown_11 σ))) (σc := σ) (σ1 := σ) (mi := 44) (vs := [.ref 11]) (k' := 16) (L' := [some (.ref 0), some (.int v1), some (.int v2), some (.int v3), some (.int v4)]) (S' := [.int v4]) 4 (fun P9 h9 => c_PointList_shown_11 (d + 3) σ h9) (fun n h => h) ?_
    refine go_if (c := (f_PointList_shown_11 σ) ≤ v4) (k1 := 33) (L1 := [some (.ref 0), some (.int v1), some (.int v2), some (.int v3), some (.int v4)]) (S1 := []) (σ1 := σ) (k2 := 17) (L2 := [some (.ref 0), some (.int v1), some (.int v2), some (.int v3), some (.int v4)]) (S2 := []) (σ2 := σ) 1 (fun n h => h) (fun hc3 => ?_) (fun hc3 => ?_)
    · rw [if_pos hc3] at h
      cases h
      exact go_ret 2 (fun _ => hp)
    · rw [if_neg hc3] at h
      obtain ⟨x4, hx4, h⟩ := bind_of h
      refine go_call (r := some (.int x4.1)) (σc := σ) (σ1 := x4.2) (mi := 101) (vs := [.ref 21, .int v4, .int v4]) (k' := 22) (L' := [some (.ref 0), some (.int v1), some (.int v2), some (.int v3), some (.int v4)]) (S' := []) 5 (fun P9 h9 => c_Sums_total (d + 0) v4 v4 σ hx4 h9) (fun n h => h) ?_
      refine go_if (c := x4.1 = v1) (k1 := 25) (L1 := [some (.ref 0), some (.int v1), some (.int v2), some (.int v3), some (.int v4)]) (S1 := []) (σ1 := x4.2) (k2 := 24) (L2 := [some (.ref 0), some (.int v1), some (.int v2), some (.int v3), some (.int v4)]) (S2 := []) (σ2 := x4.2) 2 (fun n h => h) (fun hc5 => ?_) (fun hc5 => ?_)
      · rw [if_pos hc5] at h
        refine go_if (c := v3 ≠ v2) (k1 := 30) (L1 := [some (.ref 0), some (.int v1), some (.int v2), some (.int v3), some (.int v4)]) (S1 := []) (σ1 := x4.2) (k2 := 28) (L2 := [some (.ref 0), some (.int v1), some (.int v2), some (.int v3), some (.int v4)]) (S2 := []) (σ2 := x4.2) 3 (fun n h => h) (fun hc6 => ?_) (fun hc6 => ?_)
        · rw [if_pos hc6] at h
          refine go_st (k' := 12) (L' := [some (.ref 0), some (.int v1), some (.int v2), some (.int (v3 + (1 : Int32))), some (.int (v4 + (1 : Int32)))]) (S' := []) (σ' := x4.2) 3 (fun n h => h) ?_
          exact ih v1 v2 (v3 + (1 : Int32)) (v4 + (1 : Int32)) x4.2 h
        · rw [if_neg hc6] at h
          cases h
          exact go_ret 2 (fun _ => hp)
      · rw [if_neg hc5] at h
        refine go_st (k' := 12) (L' := [some (.ref 0), some (.int v1), some (.int v2), some (.int v3), some (.int (v4 + (1 : Int32)))]) (S' := []) (σ' := x4.2) 3 (fun n h => h) ?_
        exact ih v1 v2 v3 (v4 + (1 : Int32)) x4.2 h
def f_X_half (N : Nat) (p0 : Int32) (p1 : Int32) (σ : aSt) : Option (Int32 × aSt) :=
  (if (f_X_isPoint p0 σ) = true then (if 0 ≤ p1 then f_X_half_l12 N N p0 p1 (0 : Int32) (0 : Int32) σ else some ((-2 : Int32), σ)) else some ((-2 : Int32), σ))
set_option maxRecDepth 20000 in
set_option maxHeartbeats 4000000 in
theorem c_X_half (d : Nat) {N : Nat} (p0 : Int32) (p1 : Int32) (σ : aSt) {P : Option Value → aSt → Prop} {x : (Int32 × aSt)} (h : f_X_half N p0 p1 σ = some x) (hp : P (some (.int x.1)) x.2) : aCall MT (d + 5) 269 [.ref 0, .int p0, .int p1] σ P := by
  unfold f_X_half at h
  refine call_of (code := mc_X_half) (L := [some (.ref 0), some (.int p0), some (.int p1), none, none]) rfl rfl rfl rfl ?_
  refine go_call (r := some (.int (b2i (f_X_isPoint p0 σ)))) (σc := σ) (σ1 := σ) (mi := 85) (vs := [.ref 0, .int p0]) (k' := 3) (L' := [some (.ref 0), some (.int p0), some (.int p1), none, none]) (S' := []) 3 (fun P9 h9 => c_X_isPoint (d + 1) p0 σ h9) (fun n h => h) ?_
  refine go_ifz (b := (f_X_isPoint p0 σ)) (k1 := 6) (L1 := [some (.ref 0), some (.int p0), some (.int p1), none, none]) (S1 := []) (σ1 := σ) (k2 := 4) (L2 := [some (.ref 0), some (.int p0), some (.int p1), none, none]) (S2 := []) (σ2 := σ) 1 (fun n h => h) (fun hc1 => ?_) (fun hc1 => ?_)
  · rw [if_neg hc1] at h
    cases h
    exact go_ret 2 (fun _ => hp)
  · rw [if_pos hc1] at h
    refine go_if (c := 0 ≤ p1) (k1 := 8) (L1 := [some (.ref 0), some (.int p0), some (.int p1), none, none]) (S1 := []) (σ1 := σ) (k2 := 6) (L2 := [some (.ref 0), some (.int p0), some (.int p1), none, none]) (S2 := []) (σ2 := σ) 2 (fun n h => h) (fun hc2 => ?_) (fun hc2 => ?_)
    · rw [if_pos hc2] at h
      refine go_st (k' := 12) (L' := [some (.ref 0), some (.int p0), some (.int p1), some (.int (0 : Int32)), some (.int (0 : Int32))]) (S' := []) (σ' := σ) 4 (fun n h => h) ?_
      exact t_X_half_l12 d hp N p0 p1 (0 : Int32) (0 : Int32) σ h
    · rw [if_neg hc2] at h
      cases h
      exact go_ret 2 (fun _ => hp)
def f_X_straight (N : Nat) (p0 : Int32) (p1 : Int32) (p2 : Int32) (σ : aSt) : Option (Int32 × aSt) :=
  (if (f_X_isPoint p0 σ) = true then (if (f_X_isPoint p1 σ) = true then (if (f_X_isPoint p2 σ) = true then ((f_Sums_heldTotal N p0 p1 σ).bind fun x4 => (if x4.1 ≠ (f_Sums_negative p2 x4.2) then some ((0 : Int32), x4.2) else some ((1 : Int32), x4.2))) else some ((-2 : Int32), σ)) else some ((-2 : Int32), σ)) else some ((-2 : Int32), σ))
set_option maxRecDepth 20000 in
set_option maxHeartbeats 4000000 in
theorem c_X_straight (d : Nat) {N : Nat} (p0 : Int32) (p1 : Int32) (p2 : Int32) (σ : aSt) {P : Option Value → aSt → Prop} {x : (Int32 × aSt)} (h : f_X_straight N p0 p1 p2 σ = some x) (hp : P (some (.int x.1)) x.2) : aCall MT (d + 4) 271 [.ref 0, .int p0, .int p1, .int p2] σ P := by
  unfold f_X_straight at h
  refine call_of (code := mc_X_straight) (L := [some (.ref 0), some (.int p0), some (.int p1), some (.int p2)]) rfl rfl rfl rfl ?_
  refine go_call (r := some (.int (b2i (f_X_isPoint p0 σ)))) (σc := σ) (σ1 := σ) (mi := 85) (vs := [.ref 0, .int p0]) (k' := 3) (L' := [some (.ref 0), some (.int p0), some (.int p1), some (.int p2)]) (S' := []) 3 (fun P9 h9 => c_X_isPoint (d + 0) p0 σ h9) (fun n h => h) ?_
  refine go_ifz (b := (f_X_isPoint p0 σ)) (k1 := 12) (L1 := [some (.ref 0), some (.int p0), some (.int p1), some (.int p2)]) (S1 := []) (σ1 := σ) (k2 := 4) (L2 := [some (.ref 0), some (.int p0), some (.int p1), some (.int p2)]) (S2 := []) (σ2 := σ) 1 (fun n h => h) (fun hc1 => ?_) (fun hc1 => ?_)
  · rw [if_neg hc1] at h
    cases h
    exact go_ret 2 (fun _ => hp)
  · rw [if_pos hc1] at h
    refine go_call (r := some (.int (b2i (f_X_isPoint p1 σ)))) (σc := σ) (σ1 := σ) (mi := 85) (vs := [.ref 0, .int p1]) (k' := 7) (L' := [some (.ref 0), some (.int p0), some (.int p1), some (.int p2)]) (S' := []) 3 (fun P9 h9 => c_X_isPoint (d + 0) p1 σ h9) (fun n h => h) ?_
    refine go_ifz (b := (f_X_isPoint p1 σ)) (k1 := 12) (L1 := [some (.ref 0), some (.int p0), some (.int p1), some (.int p2)]) (S1 := []) (σ1 := σ) (k2 := 8) (L2 := [some (.ref 0), some (.int p0), some (.int p1), some (.int p2)]) (S2 := []) (σ2 := σ) 1 (fun n h => h) (fun hc2 => ?_) (fun hc2 => ?_)
    · rw [if_neg hc2] at h
      cases h
      exact go_ret 2 (fun _ => hp)
    · rw [if_pos hc2] at h
      refine go_call (r := some (.int (b2i (f_X_isPoint p2 σ)))) (σc := σ) (σ1 := σ) (mi := 85) (vs := [.ref 0, .int p2]) (k' := 11) (L' := [some (.ref 0), some (.int p0), some (.int p1), some (.int p2)]) (S' := []) 3 (fun P9 h9 => c_X_isPoint (d + 0) p2 σ h9) (fun n h => h) ?_
      refine go_ifn (b := (f_X_isPoint p2 σ)) (k1 := 14) (L1 := [some (.ref 0), some (.int p0), some (.int p1), some (.int p2)]) (S1 := []) (σ1 := σ) (k2 := 12) (L2 := [some (.ref 0), some (.int p0), some (.int p1), some (.int p2)]) (S2 := []) (σ2 := σ) 1 (fun n h => h) (fun hc3 => ?_) (fun hc3 => ?_)
      · rw [if_pos hc3] at h
        obtain ⟨x4, hx4, h⟩ := bind_of h
        refine go_call (r := some (.int x4.1)) (σc := σ) (σ1 := x4.2) (mi := 100) (vs := [.ref 21, .int p0, .int p1]) (k' := 19) (L' := [some (.ref 0), some (.int p0), some (.int p1), some (.int p2)]) (S' := []) 5 (fun P9 h9 => c_Sums_heldTotal (d + 0) p0 p1 σ hx4 h9) (fun n h => h) ?_
        refine go_call (r := some (.int (f_Sums_negative p2 x4.2))) (σc := x4.2) (σ1 := x4.2) (mi := 87) (vs := [.ref 21, .int p2]) (k' := 23) (L' := [some (.ref 0), some (.int p0), some (.int p1), some (.int p2)]) (S' := [.int x4.1]) 4 (fun P9 h9 => c_Sums_negative (d + 0) p2 x4.2 h9) (fun n h => h) ?_
        refine go_if (c := x4.1 ≠ (f_Sums_negative p2 x4.2)) (k1 := 26) (L1 := [some (.ref 0), some (.int p0), some (.int p1), some (.int p2)]) (S1 := []) (σ1 := x4.2) (k2 := 24) (L2 := [some (.ref 0), some (.int p0), some (.int p1), some (.int p2)]) (S2 := []) (σ2 := x4.2) 1 (fun n h => h) (fun hc5 => ?_) (fun hc5 => ?_)
        · rw [if_pos hc5] at h
          cases h
          exact go_ret 2 (fun _ => hp)
        · rw [if_neg hc5] at h
          cases h
          exact go_ret 3 (fun _ => hp)
      · rw [if_neg hc3] at h
        cases h
        exact go_ret 2 (fun _ => hp)
def f_Sums_lineCount_l20 (N : Nat) (k43 : Int32 → Int32 → aSt → Option (Int32 × aSt)) : Nat → Int32 → Int32 → Int32 → aSt → Option (Int32 × aSt)
  | 0, _, _, _, _ => none
  | n + 1, v1, v2, v3, σ => (if (f_PointList_shown_11 σ) ≤ v3 then k43 v1 v2 σ else ((f_Sums_heldTotal N v2 v3 σ).bind fun x4 => (if (f_Sums_negative x4.1 x4.2) ≤ v3 then f_Sums_lineCount_l20 N k43 n v1 v2 (v3 + (1 : Int32)) x4.2 else (if (f_PointList_shown_11 x4.2) ≤ (f_Sums_negative x4.1 x4.2) then f_Sums_lineCount_l20 N k43 n v1 v2 (v3 + (1 : Int32)) x4.2 else f_Sums_lineCount_l20 N k43 n (v1 + (1 : Int32)) v2 (v3 + (1 : Int32)) x4.2))))
set_option maxRecDepth 20000 in
set_option maxHeartbeats 4000000 in
theorem t_Sums_lineCount_l20 (d : Nat) {N : Nat} (k43 : Int32 → Int32 → aSt → Option (Int32 × aSt)) {x : (Int32 × aSt)} {P : Option Value → aSt → Prop} (hp : P (some (.int x.1)) x.2) (hk43 : ∀ (d3 d4 : Option Value) (v1 : Int32) (v2 : Int32) (σ : aSt), k43 v1 v2 σ = some x → aGo (aCall MT (d + 3)) P mc_Sums_lineCount 43 [some (.ref 21), some (.int v1), some (.int v2), d3, d4] [] σ) : ∀ (n : Nat) (d4 : Option Value) (v1 : Int32) (v2 : Int32) (v3 : Int32) (σ : aSt), f_Sums_lineCount_l20 N k43 n v1 v2 v3 σ = some x → aGo (aCall MT (d + 3)) P mc_Sums_lineCount 20 [some (.ref 21), some (.int v1), some (.int v2), some (.int v3), d4] [] σ := by
  intro n
  induction n with
  | zero => intro d4 v1 v2 v3 σ h; cases h
  | succ n ih =>
    intro d4 v1 v2 v3 σ h
    rw [f_Sums_lineCount_l20] at h
    refine go_call (r := some (.int (f_PointList_shown_11 σ))) (σc := σ) (σ1 := σ) (mi := 44) (vs := [.ref 11]) (k' := 24) (L' := [some (.ref 21), some (.int v1), some (.int v2), some (.int v3), d4]) (S' := [.int v3]) 4 (fun P9 h9 => c_PointList_shown_11 (d + 2) σ h9) (fun n h => h) ?_
    refine go_if (c := (f_PointList_shown_11 σ) ≤ v3) (k1 := 43) (L1 := [some (.ref 21), some (.int v1), some (.int v2), some (.int v3), d4]) (S1 := []) (σ1 := σ) (k2 := 25) (L2 := [some (.ref 21), some (.int v1), some (.int v2), some (.int v3), d4]) (S2 := []) (σ2 := σ) 1 (fun n h => h) (fun hc3 => ?_) (fun hc3 => ?_)
    · rw [if_pos hc3] at h
      exact hk43 _ _ v1 v2 σ h
    · rw [if_neg hc3] at h
      obtain ⟨x4, hx4, h⟩ := bind_of h
      refine go_call (r := some (.int x4.1)) (σc := σ) (σ1 := x4.2) (mi := 100) (vs := [.ref 21, .int v2, .int v3]) (k' := 30) (L' := [some (.ref 21), some (.int v1), some (.int v2), some (.int v3), d4]) (S' := [.ref 21]) 5 (fun P9 h9 => c_Sums_heldTotal (d + 0) v2 v3 σ hx4 h9) (fun n h => h) ?_
      refine go_call (r := some (.int (f_Sums_negative x4.1 x4.2))) (σc := x4.2) (σ1 := x4.2) (mi := 87) (vs := [.ref 21, .int x4.1]) (k' := 31) (L' := [some (.ref 21), some (.int v1), some (.int v2), some (.int v3), d4]) (S' := []) 1 (fun P9 h9 => c_Sums_negative (d + 0) x4.1 x4.2 h9) (fun n h => h) ?_
      refine go_if (c := (f_Sums_negative x4.1 x4.2) ≤ v3) (k1 := 41) (L1 := [some (.ref 21), some (.int v1), some (.int v2), some (.int v3), some (.int (f_Sums_negative x4.1 x4.2))]) (S1 := []) (σ1 := x4.2) (k2 := 35) (L2 := [some (.ref 21), some (.int v1), some (.int v2), some (.int v3), some (.int (f_Sums_negative x4.1 x4.2))]) (S2 := []) (σ2 := x4.2) 4 (fun n h => h) (fun hc5 => ?_) (fun hc5 => ?_)
      · rw [if_pos hc5] at h
        refine go_st (k' := 20) (L' := [some (.ref 21), some (.int v1), some (.int v2), some (.int (v3 + (1 : Int32))), some (.int (f_Sums_negative x4.1 x4.2))]) (S' := []) (σ' := x4.2) 2 (fun n h => h) ?_
        exact ih _ v1 v2 (v3 + (1 : Int32)) x4.2 h
      · rw [if_neg hc5] at h
        refine go_call (r := some (.int (f_PointList_shown_11 x4.2))) (σc := x4.2) (σ1 := x4.2) (mi := 44) (vs := [.ref 11]) (k' := 39) (L' := [some (.ref 21), some (.int v1), some (.int v2), some (.int v3), some (.int (f_Sums_negative x4.1 x4.2))]) (S' := [.int (f_Sums_negative x4.1 x4.2)]) 4 (fun P9 h9 => c_PointList_shown_11 (d + 2) x4.2 h9) (fun n h => h) ?_
        refine go_if (c := (f_PointList_shown_11 x4.2) ≤ (f_Sums_negative x4.1 x4.2)) (k1 := 41) (L1 := [some (.ref 21), some (.int v1), some (.int v2), some (.int v3), some (.int (f_Sums_negative x4.1 x4.2))]) (S1 := []) (σ1 := x4.2) (k2 := 40) (L2 := [some (.ref 21), some (.int v1), some (.int v2), some (.int v3), some (.int (f_Sums_negative x4.1 x4.2))]) (S2 := []) (σ2 := x4.2) 1 (fun n h => h) (fun hc6 => ?_) (fun hc6 => ?_)
        · rw [if_pos hc6] at h
          refine go_st (k' := 20) (L' := [some (.ref 21), some (.int v1), some (.int v2), some (.int (v3 + (1 : Int32))), some (.int (f_Sums_negative x4.1 x4.2))]) (S' := []) (σ' := x4.2) 2 (fun n h => h) ?_
          exact ih _ v1 v2 (v3 + (1 : Int32)) x4.2 h
        · rw [if_neg hc6] at h
          refine go_st (k' := 20) (L' := [some (.ref 21), some (.int (v1 + (1 : Int32))), some (.int v2), some (.int (v3 + (1 : Int32))), some (.int (f_Sums_negative x4.1 x4.2))]) (S' := []) (σ' := x4.2) 3 (fun n h => h) ?_
          exact ih _ (v1 + (1 : Int32)) v2 (v3 + (1 : Int32)) x4.2 h
def f_Sums_lineCount_l11 (N : Nat) : Nat → Int32 → Int32 → aSt → Option (Int32 × aSt)
  | 0, _, _, _ => none
  | n + 1, v1, v2, σ => (if (f_PointList_shown_11 σ) ≤ v2 then some (v1, (s_i σ 21 5 v1)) else f_Sums_lineCount_l20 N (fun (y7 : Int32) (y8 : Int32) σ9 => f_Sums_lineCount_l11 N n y7 (y8 + (1 : Int32)) σ9) N v1 v2 (v2 + (1 : Int32)) σ)
set_option maxRecDepth 20000 in
set_option maxHeartbeats 4000000 in
theorem t_Sums_lineCount_l11 (d : Nat) {N : Nat} {x : (Int32 × aSt)} {P : Option Value → aSt → Prop} (hp : P (some (.int x.1)) x.2) : ∀ (n : Nat) (d3 d4 : Option Value) (v1 : Int32) (v2 : Int32) (σ : aSt), f_Sums_lineCount_l11 N n v1 v2 σ = some x → aGo (aCall MT (d + 3)) P mc_Sums_lineCount 11 [some (.ref 21), some (.int v1), some (.int v2), d3, d4] [] σ := by
  intro n
  induction n with
  | zero => intro d3 d4 v1 v2 σ h; cases h
  | succ n ih =>
    intro d3 d4 v1 v2 σ h
    rw [f_Sums_lineCount_l11] at h
    refine go_call (r := some (.int (f_PointList_shown_11 σ))) (σc := σ) (σ1 := σ) (mi := 44) (vs := [.ref 11]) (k' := 15) (L' := [some (.ref 21), some (.int v1), some (.int v2), d3, d4]) (S' := [.int v2]) 4 (fun P9 h9 => c_PointList_shown_11 (d + 2) σ h9) (fun n h => h) ?_
    refine go_if (c := (f_PointList_shown_11 σ) ≤ v2) (k1 := 45) (L1 := [some (.ref 21), some (.int v1), some (.int v2), d3, d4]) (S1 := []) (σ1 := σ) (k2 := 16) (L2 := [some (.ref 21), some (.int v1), some (.int v2), d3, d4]) (S2 := []) (σ2 := σ) 1 (fun n h => h) (fun hc2 => ?_) (fun hc2 => ?_)
    · rw [if_pos hc2] at h
      cases h
      exact go_ret 6 (fun _ => hp)
    · rw [if_neg hc2] at h
      refine go_st (k' := 20) (L' := [some (.ref 21), some (.int v1), some (.int v2), some (.int (v2 + (1 : Int32))), d4]) (S' := []) (σ' := σ) 4 (fun n h => h) ?_
      refine t_Sums_lineCount_l20 d _ hp (fun d3 d4 y7 y8 σ9 h => ?_) N _ v1 v2 (v2 + (1 : Int32)) σ h
      · refine go_st (k' := 11) (L' := [some (.ref 21), some (.int y7), some (.int (y8 + (1 : Int32))), d3, d4]) (S' := []) (σ' := σ9) 2 (fun n h => h) ?_
        exact ih _ _ y7 (y8 + (1 : Int32)) σ9 h
def f_Sums_lineCount (N : Nat) (σ : aSt) : Option (Int32 × aSt) :=
  (if (σ.1 21 5) = (-1 : Int32) then f_Sums_lineCount_l11 N N (0 : Int32) (0 : Int32) σ else some ((σ.1 21 5), σ))
set_option maxRecDepth 20000 in
set_option maxHeartbeats 4000000 in
theorem c_Sums_lineCount (d : Nat) {N : Nat} (σ : aSt) {P : Option Value → aSt → Prop} {x : (Int32 × aSt)} (h : f_Sums_lineCount N σ = some x) (hp : P (some (.int x.1)) x.2) : aCall MT (d + 4) 274 [.ref 21] σ P := by
  unfold f_Sums_lineCount at h
  refine call_of (code := mc_Sums_lineCount) (L := [some (.ref 21), none, none, none, none]) rfl rfl rfl rfl ?_
  refine go_if (c := (σ.1 21 5) = (-1 : Int32)) (k1 := 7) (L1 := [some (.ref 21), none, none, none, none]) (S1 := []) (σ1 := σ) (k2 := 4) (L2 := [some (.ref 21), none, none, none, none]) (S2 := []) (σ2 := σ) 4 (fun n h => h) (fun hc1 => ?_) (fun hc1 => ?_)
  · rw [if_pos hc1] at h
    refine go_st (k' := 11) (L' := [some (.ref 21), some (.int (0 : Int32)), some (.int (0 : Int32)), none, none]) (S' := []) (σ' := σ) 4 (fun n h => h) ?_
    exact t_Sums_lineCount_l11 d hp N _ _ (0 : Int32) (0 : Int32) σ h
  · rw [if_neg hc1] at h
    cases h
    exact go_ret 3 (fun _ => hp)
def f_X_lines (N : Nat) (σ : aSt) : Option (Int32 × aSt) :=
  (if (σ.2.2 0 13) = true then ((f_Sums_lineCount N σ).bind fun x2 => some (x2.1, x2.2)) else some ((-2 : Int32), σ))
set_option maxRecDepth 20000 in
set_option maxHeartbeats 4000000 in
theorem c_X_lines (d : Nat) {N : Nat} (σ : aSt) {P : Option Value → aSt → Prop} {x : (Int32 × aSt)} (h : f_X_lines N σ = some x) (hp : P (some (.int x.1)) x.2) : aCall MT (d + 5) 275 [.ref 0] σ P := by
  unfold f_X_lines at h
  refine call_of (code := mc_X_lines) (L := [some (.ref 0)]) rfl rfl rfl rfl ?_
  refine go_ifz (b := (σ.2.2 0 13)) (k1 := 7) (L1 := [some (.ref 0)]) (S1 := []) (σ1 := σ) (k2 := 3) (L2 := [some (.ref 0)]) (S2 := []) (σ2 := σ) 3 (fun n h => h) (fun hc1 => ?_) (fun hc1 => ?_)
  · rw [if_neg hc1] at h
    cases h
    exact go_ret 2 (fun _ => hp)
  · rw [if_pos hc1] at h
    obtain ⟨x2, hx2, h⟩ := bind_of h
    refine go_call (r := some (.int x2.1)) (σc := σ) (σ1 := x2.2) (mi := 274) (vs := [.ref 21]) (k' := 6) (L' := [some (.ref 0)]) (S' := []) 3 (fun P9 h9 => c_Sums_lineCount (d + 0) σ hx2 h9) (fun n h => h) ?_
    cases h
    exact go_ret 2 (fun _ => hp)
