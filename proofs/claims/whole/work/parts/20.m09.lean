def f_M_makers_l15 (N : Nat) : Nat → Int32 → Int32 → aSt → Option (Int32 × aSt)
  | 0, _, _, _ => none
  | n + 1, v1, v2, σ => (if (σ.1 66 9) ≤ v2 then (if v1 ≠ (-1 : Int32) then some ((-1 : Int32), σ) else some ((σ.1 66 55), σ)) else (if 0 ≤ v2 ∧ v2 < (121 : Int32) then (if (σ.2.2 84 v2.toNatClampNeg) = true then f_M_makers_l15 N n v1 (v2 + (1 : Int32)) σ else (if (σ.1 66 55) ≠ v1 then (if 0 ≤ (σ.1 66 55) ∧ (σ.1 66 55) < (120 : Int32) then ((f_M_laysIn N (s_i (s_i σ 85 (σ.1 66 55).toNatClampNeg v2) 66 55 ((σ.1 66 55) + (1 : Int32)))).bind fun x10 => f_M_makers_l15 N n v1 (v2 + (1 : Int32)) x10) else none) else some (v2, σ))) else none))
set_option maxRecDepth 20000 in
set_option maxHeartbeats 4000000 in
theorem t_M_makers_l15 (d : Nat) {N : Nat} {x : (Int32 × aSt)} {P : Option Value → aSt → Prop} (hp : P (some (.int x.1)) x.2) : ∀ (n : Nat) (v1 : Int32) (v2 : Int32) (σ : aSt), f_M_makers_l15 N n v1 v2 σ = some x → aGo (aCall MT (d + 5)) P mc_M_makers 15 [some (.ref 66), some (.int v1), some (.int v2)] [] σ := by
  intro n
  induction n with
  | zero => intro v1 v2 σ h; cases h
  | succ n ih =>
    intro v1 v2 σ h
    rw [f_M_makers_l15] at h
    refine go_if (c := (σ.1 66 9) ≤ v2) (k1 := 47) (L1 := [some (.ref 66), some (.int v1), some (.int v2)]) (S1 := []) (σ1 := σ) (k2 := 19) (L2 := [some (.ref 66), some (.int v1), some (.int v2)]) (S2 := []) (σ2 := σ) 4 (fun n h => h) (fun hc4 => ?_) (fun hc4 => ?_)
    · rw [if_pos hc4] at h
      refine go_if (c := v1 ≠ (-1 : Int32)) (k1 := 53) (L1 := [some (.ref 66), some (.int v1), some (.int v2)]) (S1 := []) (σ1 := σ) (k2 := 50) (L2 := [some (.ref 66), some (.int v1), some (.int v2)]) (S2 := []) (σ2 := σ) 3 (fun n h => h) (fun hc5 => ?_) (fun hc5 => ?_)
      · rw [if_pos hc5] at h
        cases h
        exact go_ret 2 (fun _ => hp)
      · rw [if_neg hc5] at h
        cases h
        exact go_ret 4 (fun _ => hp)
    · rw [if_neg hc4] at h
      obtain ⟨hc6, h⟩ := ite_of h
      refine go_q (Q := inb 3 σ 84 v2) (k' := 23) (L' := [some (.ref 66), some (.int v1), some (.int v2)]) (S' := [.int (b2i (σ.2.2 84 v2.toNatClampNeg))]) (σ' := σ) 4 (inb_mk rfl hc6.1 hc6.2) (fun n h => h) ?_
      refine go_ifz (b := (σ.2.2 84 v2.toNatClampNeg)) (k1 := 25) (L1 := [some (.ref 66), some (.int v1), some (.int v2)]) (S1 := []) (σ1 := σ) (k2 := 24) (L2 := [some (.ref 66), some (.int v1), some (.int v2)]) (S2 := []) (σ2 := σ) 1 (fun n h => h) (fun hc7 => ?_) (fun hc7 => ?_)
      · rw [if_neg hc7] at h
        refine go_if (c := (σ.1 66 55) ≠ v1) (k1 := 31) (L1 := [some (.ref 66), some (.int v1), some (.int v2)]) (S1 := []) (σ1 := σ) (k2 := 29) (L2 := [some (.ref 66), some (.int v1), some (.int v2)]) (S2 := []) (σ2 := σ) 4 (fun n h => h) (fun hc8 => ?_) (fun hc8 => ?_)
        · rw [if_pos hc8] at h
          obtain ⟨hc9, h⟩ := ite_of h
          refine go_q (Q := inb 0 σ 85 (σ.1 66 55)) (k' := 37) (L' := [some (.ref 66), some (.int v1), some (.int v2)]) (S' := []) (σ' := (s_i σ 85 (σ.1 66 55).toNatClampNeg v2)) 6 (inb_mk rfl hc9.1 hc9.2) (fun n h => h) ?_
          obtain ⟨x10, hx10, h⟩ := bind_of h
          refine go_call (r := none) (σc := (s_i (s_i σ 85 (σ.1 66 55).toNatClampNeg v2) 66 55 ((σ.1 66 55) + (1 : Int32)))) (σ1 := x10) (mi := 223) (vs := [.ref 66]) (k' := 45) (L' := [some (.ref 66), some (.int v1), some (.int v2)]) (S' := []) 8 (fun P9 h9 => c_M_laysIn (d + 0) (s_i (s_i σ 85 (σ.1 66 55).toNatClampNeg v2) 66 55 ((σ.1 66 55) + (1 : Int32))) hx10 h9) (fun n h => h) ?_
          refine go_st (k' := 15) (L' := [some (.ref 66), some (.int v1), some (.int (v2 + (1 : Int32)))]) (S' := []) (σ' := x10) 2 (fun n h => h) ?_
          exact ih v1 (v2 + (1 : Int32)) x10 h
        · rw [if_neg hc8] at h
          cases h
          exact go_ret 2 (fun _ => hp)
      · rw [if_pos hc7] at h
        refine go_st (k' := 15) (L' := [some (.ref 66), some (.int v1), some (.int (v2 + (1 : Int32)))]) (S' := []) (σ' := σ) 3 (fun n h => h) ?_
        exact ih v1 (v2 + (1 : Int32)) σ h
def f_M_makers (N : Nat) (p0 : Int32) (σ : aSt) : Option (Int32 × aSt) :=
  (if (σ.2.2 66 1) = true then (if (-1 : Int32) ≤ p0 then ((f_M_laysIn N (s_i σ 66 55 (0 : Int32))).bind fun x3 => f_M_makers_l15 N N p0 (0 : Int32) x3) else some ((-2 : Int32), σ)) else some ((-2 : Int32), σ))
set_option maxRecDepth 20000 in
set_option maxHeartbeats 4000000 in
theorem c_M_makers (d : Nat) {N : Nat} (p0 : Int32) (σ : aSt) {P : Option Value → aSt → Prop} {x : (Int32 × aSt)} (h : f_M_makers N p0 σ = some x) (hp : P (some (.int x.1)) x.2) : aCall MT (d + 6) 228 [.ref 66, .int p0] σ P := by
  unfold f_M_makers at h
  refine call_of (code := mc_M_makers) (L := [some (.ref 66), some (.int p0), none]) rfl rfl rfl rfl ?_
  refine go_ifz (b := (σ.2.2 66 1)) (k1 := 6) (L1 := [some (.ref 66), some (.int p0), none]) (S1 := []) (σ1 := σ) (k2 := 3) (L2 := [some (.ref 66), some (.int p0), none]) (S2 := []) (σ2 := σ) 3 (fun n h => h) (fun hc1 => ?_) (fun hc1 => ?_)
  · rw [if_neg hc1] at h
    cases h
    exact go_ret 2 (fun _ => hp)
  · rw [if_pos hc1] at h
    refine go_if (c := (-1 : Int32) ≤ p0) (k1 := 8) (L1 := [some (.ref 66), some (.int p0), none]) (S1 := []) (σ1 := σ) (k2 := 6) (L2 := [some (.ref 66), some (.int p0), none]) (S2 := []) (σ2 := σ) 3 (fun n h => h) (fun hc2 => ?_) (fun hc2 => ?_)
    · rw [if_pos hc2] at h
      obtain ⟨x3, hx3, h⟩ := bind_of h
      refine go_call (r := none) (σc := (s_i σ 66 55 (0 : Int32))) (σ1 := x3) (mi := 223) (vs := [.ref 66]) (k' := 13) (L' := [some (.ref 66), some (.int p0), none]) (S' := []) 5 (fun P9 h9 => c_M_laysIn (d + 0) (s_i σ 66 55 (0 : Int32)) hx3 h9) (fun n h => h) ?_
      refine go_st (k' := 15) (L' := [some (.ref 66), some (.int p0), some (.int (0 : Int32))]) (S' := []) (σ' := x3) 2 (fun n h => h) ?_
      exact t_M_makers_l15 d hp N p0 (0 : Int32) x3 h
    · rw [if_neg hc2] at h
      cases h
      exact go_ret 2 (fun _ => hp)
def f_M_isRound (N : Nat) (p0 : Int32) (σ : aSt) : Option (Bool × aSt) :=
  (if p0 = (-6 : Int32) then some (false, σ) else ((f_M_orderOf N p0 σ).bind fun x2 => (if x2.1 ≤ 0 then some (false, x2.2) else some (true, x2.2))))
set_option maxRecDepth 20000 in
set_option maxHeartbeats 4000000 in
theorem c_M_isRound (d : Nat) {N : Nat} (p0 : Int32) (σ : aSt) {P : Option Value → aSt → Prop} {x : (Bool × aSt)} (h : f_M_isRound N p0 σ = some x) (hp : P (some (.int (b2i x.1))) x.2) : aCall MT (d + 6) 234 [.ref 66, .int p0] σ P := by
  unfold f_M_isRound at h
  refine call_of (code := mc_M_isRound) (L := [some (.ref 66), some (.int p0)]) rfl rfl rfl rfl ?_
  refine go_if (c := p0 = (-6 : Int32)) (k1 := 9) (L1 := [some (.ref 66), some (.int p0)]) (S1 := []) (σ1 := σ) (k2 := 3) (L2 := [some (.ref 66), some (.int p0)]) (S2 := []) (σ2 := σ) 3 (fun n h => h) (fun hc1 => ?_) (fun hc1 => ?_)
  · rw [if_pos hc1] at h
    cases h
    exact go_ret 2 (fun _ => And.intro (Or.inl rfl) hp)
  · rw [if_neg hc1] at h
    obtain ⟨x2, hx2, h⟩ := bind_of h
    refine go_call (r := some (.int x2.1)) (σc := σ) (σ1 := x2.2) (mi := 122) (vs := [.ref 66, .int p0]) (k' := 6) (L' := [some (.ref 66), some (.int p0)]) (S' := []) 3 (fun P9 h9 => c_M_orderOf (d + 0) p0 σ hx2 h9) (fun n h => h) ?_
    refine go_if (c := x2.1 ≤ 0) (k1 := 9) (L1 := [some (.ref 66), some (.int p0)]) (S1 := []) (σ1 := x2.2) (k2 := 7) (L2 := [some (.ref 66), some (.int p0)]) (S2 := []) (σ2 := x2.2) 1 (fun n h => h) (fun hc3 => ?_) (fun hc3 => ?_)
    · rw [if_pos hc3] at h
      cases h
      exact go_ret 2 (fun _ => And.intro (Or.inl rfl) hp)
    · rw [if_neg hc3] at h
      cases h
      exact go_ret 3 (fun _ => And.intro (Or.inr rfl) hp)
def f_M_isRelated (N : Nat) (p0 : Int32) (p1 : Int32) (p2 : Int32) (p3 : Int32) (σ : aSt) : Option (Bool × aSt) :=
  ((f_M_timesOf N p0 p2 σ).bind fun x1 => ((f_M_timesOf N p1 p3 x1.2).bind fun x2 => (if x1.1 = (-6 : Int32) then some (false, x2.2) else (if x2.1 = (-6 : Int32) then some (false, x2.2) else ((f_M_sumOf N x1.1 x2.1 (1 : Int32) x2.2).bind fun x5 => ((f_M_isRound N x5.1 x5.2).bind fun x6 => (if x6.1 = true then some (true, x6.2) else some (false, x6.2))))))))
set_option maxRecDepth 20000 in
set_option maxHeartbeats 4000000 in
theorem c_M_isRelated (d : Nat) {N : Nat} (p0 : Int32) (p1 : Int32) (p2 : Int32) (p3 : Int32) (σ : aSt) {P : Option Value → aSt → Prop} {x : (Bool × aSt)} (h : f_M_isRelated N p0 p1 p2 p3 σ = some x) (hp : P (some (.int (b2i x.1))) x.2) : aCall MT (d + 7) 235 [.ref 66, .int p0, .int p1, .int p2, .int p3] σ P := by
  unfold f_M_isRelated at h
  refine call_of (code := mc_M_isRelated) (L := [some (.ref 66), some (.int p0), some (.int p1), some (.int p2), some (.int p3), none, none]) rfl rfl rfl rfl ?_
  obtain ⟨x1, hx1, h⟩ := bind_of h
  refine go_call (r := some (.int x1.1)) (σc := σ) (σ1 := x1.2) (mi := 118) (vs := [.ref 66, .int p0, .int p2]) (k' := 4) (L' := [some (.ref 66), some (.int p0), some (.int p1), some (.int p2), some (.int p3), none, none]) (S' := []) 4 (fun P9 h9 => c_M_timesOf (d + 1) p0 p2 σ hx1 h9) (fun n h => h) ?_
  obtain ⟨x2, hx2, h⟩ := bind_of h
  refine go_call (r := some (.int x2.1)) (σc := x1.2) (σ1 := x2.2) (mi := 118) (vs := [.ref 66, .int p1, .int p3]) (k' := 9) (L' := [some (.ref 66), some (.int p0), some (.int p1), some (.int p2), some (.int p3), some (.int x1.1), none]) (S' := []) 5 (fun P9 h9 => c_M_timesOf (d + 1) p1 p3 x1.2 hx2 h9) (fun n h => h) ?_
  refine go_if (c := x1.1 = (-6 : Int32)) (k1 := 26) (L1 := [some (.ref 66), some (.int p0), some (.int p1), some (.int p2), some (.int p3), some (.int x1.1), some (.int x2.1)]) (S1 := []) (σ1 := x2.2) (k2 := 13) (L2 := [some (.ref 66), some (.int p0), some (.int p1), some (.int p2), some (.int p3), some (.int x1.1), some (.int x2.1)]) (S2 := []) (σ2 := x2.2) 4 (fun n h => h) (fun hc3 => ?_) (fun hc3 => ?_)
  · rw [if_pos hc3] at h
    cases h
    exact go_ret 2 (fun _ => And.intro (Or.inl rfl) hp)
  · rw [if_neg hc3] at h
    refine go_if (c := x2.1 = (-6 : Int32)) (k1 := 26) (L1 := [some (.ref 66), some (.int p0), some (.int p1), some (.int p2), some (.int p3), some (.int x1.1), some (.int x2.1)]) (S1 := []) (σ1 := x2.2) (k2 := 16) (L2 := [some (.ref 66), some (.int p0), some (.int p1), some (.int p2), some (.int p3), some (.int x1.1), some (.int x2.1)]) (S2 := []) (σ2 := x2.2) 3 (fun n h => h) (fun hc4 => ?_) (fun hc4 => ?_)
    · rw [if_pos hc4] at h
      cases h
      exact go_ret 2 (fun _ => And.intro (Or.inl rfl) hp)
    · rw [if_neg hc4] at h
      obtain ⟨x5, hx5, h⟩ := bind_of h
      refine go_call (r := some (.int x5.1)) (σc := x2.2) (σ1 := x5.2) (mi := 105) (vs := [.ref 66, .int x1.1, .int x2.1, .int (1 : Int32)]) (k' := 22) (L' := [some (.ref 66), some (.int p0), some (.int p1), some (.int p2), some (.int p3), some (.int x1.1), some (.int x2.1)]) (S' := [.ref 66]) 6 (fun P9 h9 => c_M_sumOf (d + 2) x1.1 x2.1 (1 : Int32) x2.2 hx5 h9) (fun n h => h) ?_
      obtain ⟨x6, hx6, h⟩ := bind_of h
      refine go_call (r := some (.int (b2i x6.1))) (σc := x5.2) (σ1 := x6.2) (mi := 234) (vs := [.ref 66, .int x5.1]) (k' := 23) (L' := [some (.ref 66), some (.int p0), some (.int p1), some (.int p2), some (.int p3), some (.int x1.1), some (.int x2.1)]) (S' := []) 1 (fun P9 h9 => c_M_isRound (d + 0) x5.1 x5.2 hx6 h9) (fun n h => h) ?_
      refine go_ifz (b := x6.1) (k1 := 26) (L1 := [some (.ref 66), some (.int p0), some (.int p1), some (.int p2), some (.int p3), some (.int x1.1), some (.int x2.1)]) (S1 := []) (σ1 := x6.2) (k2 := 24) (L2 := [some (.ref 66), some (.int p0), some (.int p1), some (.int p2), some (.int p3), some (.int x1.1), some (.int x2.1)]) (S2 := []) (σ2 := x6.2) 1 (fun n h => h) (fun hc7 => ?_) (fun hc7 => ?_)
      · rw [if_neg hc7] at h
        cases h
        exact go_ret 2 (fun _ => And.intro (Or.inl rfl) hp)
      · rw [if_pos hc7] at h
        cases h
        exact go_ret 3 (fun _ => And.intro (Or.inr rfl) hp)
def f_M_related_l28 (N : Nat) (k56 : Int32 → Int32 → Int32 → Int32 → Int32 → aSt → Option (Int64 × aSt)) : Nat → Int32 → Int32 → Int32 → Int32 → Int32 → Int32 → aSt → Option (Int64 × aSt)
  | 0, _, _, _, _, _, _, _ => none
  | n + 1, v1, v2, v3, v4, v5, v6, σ => (if (5 : Int32) < v6 then k56 v1 v2 v3 v4 v5 σ else (if ((iabs v5) + (iabs v6)) ≠ v4 then f_M_related_l28 N k56 n v1 v2 v3 v4 v5 (v6 + (1 : Int32)) σ else ((f_M_isRelated N v1 v2 v5 v6 σ).bind fun x8 => (if x8.1 = true then (if v3 ≠ 0 then some (v6.toInt64, x8.2) else some (v5.toInt64, x8.2)) else f_M_related_l28 N k56 n v1 v2 v3 v4 v5 (v6 + (1 : Int32)) x8.2))))
set_option maxRecDepth 20000 in
set_option maxHeartbeats 4000000 in
theorem t_M_related_l28 (d : Nat) {N : Nat} (k56 : Int32 → Int32 → Int32 → Int32 → Int32 → aSt → Option (Int64 × aSt)) {x : (Int64 × aSt)} {P : Option Value → aSt → Prop} (hp : P (some (.long x.1)) x.2) (hk56 : ∀ (d6 : Option Value) (v1 : Int32) (v2 : Int32) (v3 : Int32) (v4 : Int32) (v5 : Int32) (σ : aSt), k56 v1 v2 v3 v4 v5 σ = some x → aGo (aCall MT (d + 7)) P mc_M_related 56 [some (.ref 66), some (.int v1), some (.int v2), some (.int v3), some (.int v4), some (.int v5), d6] [] σ) : ∀ (n : Nat) (v1 : Int32) (v2 : Int32) (v3 : Int32) (v4 : Int32) (v5 : Int32) (v6 : Int32) (σ : aSt), f_M_related_l28 N k56 n v1 v2 v3 v4 v5 v6 σ = some x → aGo (aCall MT (d + 7)) P mc_M_related 28 [some (.ref 66), some (.int v1), some (.int v2), some (.int v3), some (.int v4), some (.int v5), some (.int v6)] [] σ := by
  intro n
  induction n with
  | zero => intro v1 v2 v3 v4 v5 v6 σ h; cases h
  | succ n ih =>
    intro v1 v2 v3 v4 v5 v6 σ h
    rw [f_M_related_l28] at h
    refine go_if (c := (5 : Int32) < v6) (k1 := 56) (L1 := [some (.ref 66), some (.int v1), some (.int v2), some (.int v3), some (.int v4), some (.int v5), some (.int v6)]) (S1 := []) (σ1 := σ) (k2 := 31) (L2 := [some (.ref 66), some (.int v1), some (.int v2), some (.int v3), some (.int v4), some (.int v5), some (.int v6)]) (S2 := []) (σ2 := σ) 3 (fun n h => h) (fun hc6 => ?_) (fun hc6 => ?_)
    · rw [if_pos hc6] at h
      exact hk56 _ v1 v2 v3 v4 v5 σ h
    · rw [if_neg hc6] at h
      refine go_if (c := ((iabs v5) + (iabs v6)) ≠ v4) (k1 := 54) (L1 := [some (.ref 66), some (.int v1), some (.int v2), some (.int v3), some (.int v4), some (.int v5), some (.int v6)]) (S1 := []) (σ1 := σ) (k2 := 38) (L2 := [some (.ref 66), some (.int v1), some (.int v2), some (.int v3), some (.int v4), some (.int v5), some (.int v6)]) (S2 := []) (σ2 := σ) 7 (fun n h => h) (fun hc7 => ?_) (fun hc7 => ?_)
      · rw [if_pos hc7] at h
        refine go_st (k' := 28) (L' := [some (.ref 66), some (.int v1), some (.int v2), some (.int v3), some (.int v4), some (.int v5), some (.int (v6 + (1 : Int32)))]) (S' := []) (σ' := σ) 2 (fun n h => h) ?_
        exact ih v1 v2 v3 v4 v5 (v6 + (1 : Int32)) σ h
      · rw [if_neg hc7] at h
        obtain ⟨x8, hx8, h⟩ := bind_of h
        refine go_call (r := some (.int (b2i x8.1))) (σc := σ) (σ1 := x8.2) (mi := 235) (vs := [.ref 66, .int v1, .int v2, .int v5, .int v6]) (k' := 44) (L' := [some (.ref 66), some (.int v1), some (.int v2), some (.int v3), some (.int v4), some (.int v5), some (.int v6)]) (S' := []) 6 (fun P9 h9 => c_M_isRelated (d + 0) v1 v2 v5 v6 σ hx8 h9) (fun n h => h) ?_
        refine go_ifn (b := x8.1) (k1 := 46) (L1 := [some (.ref 66), some (.int v1), some (.int v2), some (.int v3), some (.int v4), some (.int v5), some (.int v6)]) (S1 := []) (σ1 := x8.2) (k2 := 45) (L2 := [some (.ref 66), some (.int v1), some (.int v2), some (.int v3), some (.int v4), some (.int v5), some (.int v6)]) (S2 := []) (σ2 := x8.2) 1 (fun n h => h) (fun hc9 => ?_) (fun hc9 => ?_)
        · rw [if_pos hc9] at h
          refine go_if (c := v3 ≠ 0) (k1 := 51) (L1 := [some (.ref 66), some (.int v1), some (.int v2), some (.int v3), some (.int v4), some (.int v5), some (.int v6)]) (S1 := []) (σ1 := x8.2) (k2 := 48) (L2 := [some (.ref 66), some (.int v1), some (.int v2), some (.int v3), some (.int v4), some (.int v5), some (.int v6)]) (S2 := []) (σ2 := x8.2) 2 (fun n h => h) (fun hc10 => ?_) (fun hc10 => ?_)
          · rw [if_pos hc10] at h
            cases h
            exact go_ret 3 (fun _ => hp)
          · rw [if_neg hc10] at h
            cases h
            exact go_ret 4 (fun _ => hp)
        · rw [if_neg hc9] at h
          refine go_st (k' := 28) (L' := [some (.ref 66), some (.int v1), some (.int v2), some (.int v3), some (.int v4), some (.int v5), some (.int (v6 + (1 : Int32)))]) (S' := []) (σ' := x8.2) 3 (fun n h => h) ?_
          exact ih v1 v2 v3 v4 v5 (v6 + (1 : Int32)) x8.2 h
def f_M_related_l23 (N : Nat) (k58 : Int32 → Int32 → Int32 → Int32 → aSt → Option (Int64 × aSt)) : Nat → Int32 → Int32 → Int32 → Int32 → Int32 → aSt → Option (Int64 × aSt)
  | 0, _, _, _, _, _, _ => none
  | n + 1, v1, v2, v3, v4, v5, σ => (if (5 : Int32) < v5 then k58 v1 v2 v3 v4 σ else f_M_related_l28 N (fun (y11 : Int32) (y12 : Int32) (y13 : Int32) (y14 : Int32) (y15 : Int32) σ16 => f_M_related_l23 N k58 n y11 y12 y13 y14 (y15 + (1 : Int32)) σ16) N v1 v2 v3 v4 v5 (-5 : Int32) σ)
set_option maxRecDepth 20000 in
set_option maxHeartbeats 4000000 in
theorem t_M_related_l23 (d : Nat) {N : Nat} (k58 : Int32 → Int32 → Int32 → Int32 → aSt → Option (Int64 × aSt)) {x : (Int64 × aSt)} {P : Option Value → aSt → Prop} (hp : P (some (.long x.1)) x.2) (hk58 : ∀ (d5 d6 : Option Value) (v1 : Int32) (v2 : Int32) (v3 : Int32) (v4 : Int32) (σ : aSt), k58 v1 v2 v3 v4 σ = some x → aGo (aCall MT (d + 7)) P mc_M_related 58 [some (.ref 66), some (.int v1), some (.int v2), some (.int v3), some (.int v4), d5, d6] [] σ) : ∀ (n : Nat) (d6 : Option Value) (v1 : Int32) (v2 : Int32) (v3 : Int32) (v4 : Int32) (v5 : Int32) (σ : aSt), f_M_related_l23 N k58 n v1 v2 v3 v4 v5 σ = some x → aGo (aCall MT (d + 7)) P mc_M_related 23 [some (.ref 66), some (.int v1), some (.int v2), some (.int v3), some (.int v4), some (.int v5), d6] [] σ := by
  intro n
  induction n with
  | zero => intro d6 v1 v2 v3 v4 v5 σ h; cases h
  | succ n ih =>
    intro d6 v1 v2 v3 v4 v5 σ h
    rw [f_M_related_l23] at h
    refine go_if (c := (5 : Int32) < v5) (k1 := 58) (L1 := [some (.ref 66), some (.int v1), some (.int v2), some (.int v3), some (.int v4), some (.int v5), d6]) (S1 := []) (σ1 := σ) (k2 := 26) (L2 := [some (.ref 66), some (.int v1), some (.int v2), some (.int v3), some (.int v4), some (.int v5), d6]) (S2 := []) (σ2 := σ) 3 (fun n h => h) (fun hc5 => ?_) (fun hc5 => ?_)
    · rw [if_pos hc5] at h
      exact hk58 _ _ v1 v2 v3 v4 σ h
    · rw [if_neg hc5] at h
      refine go_st (k' := 28) (L' := [some (.ref 66), some (.int v1), some (.int v2), some (.int v3), some (.int v4), some (.int v5), some (.int (-5 : Int32))]) (S' := []) (σ' := σ) 2 (fun n h => h) ?_
      refine t_M_related_l28 d _ hp (fun d6 y11 y12 y13 y14 y15 σ16 h => ?_) N v1 v2 v3 v4 v5 (-5 : Int32) σ h
      · refine go_st (k' := 23) (L' := [some (.ref 66), some (.int y11), some (.int y12), some (.int y13), some (.int y14), some (.int (y15 + (1 : Int32))), d6]) (S' := []) (σ' := σ16) 2 (fun n h => h) ?_
        exact ih _ y11 y12 y13 y14 (y15 + (1 : Int32)) σ16 h
def f_M_related_l18 (N : Nat) : Nat → Int32 → Int32 → Int32 → Int32 → aSt → Option (Int64 × aSt)
  | 0, _, _, _, _, _ => none
  | n + 1, v1, v2, v3, v4, σ => (if (10 : Int32) < v4 then some ((-9223372036854775808 : Int64), σ) else f_M_related_l23 N (fun (y17 : Int32) (y18 : Int32) (y19 : Int32) (y20 : Int32) σ21 => f_M_related_l18 N n y17 y18 y19 (y20 + (1 : Int32)) σ21) N v1 v2 v3 v4 (-5 : Int32) σ)
set_option maxRecDepth 20000 in
set_option maxHeartbeats 4000000 in
theorem t_M_related_l18 (d : Nat) {N : Nat} {x : (Int64 × aSt)} {P : Option Value → aSt → Prop} (hp : P (some (.long x.1)) x.2) : ∀ (n : Nat) (d5 d6 : Option Value) (v1 : Int32) (v2 : Int32) (v3 : Int32) (v4 : Int32) (σ : aSt), f_M_related_l18 N n v1 v2 v3 v4 σ = some x → aGo (aCall MT (d + 7)) P mc_M_related 18 [some (.ref 66), some (.int v1), some (.int v2), some (.int v3), some (.int v4), d5, d6] [] σ := by
  intro n
  induction n with
  | zero => intro d5 d6 v1 v2 v3 v4 σ h; cases h
  | succ n ih =>
    intro d5 d6 v1 v2 v3 v4 σ h
    rw [f_M_related_l18] at h
    refine go_if (c := (10 : Int32) < v4) (k1 := 60) (L1 := [some (.ref 66), some (.int v1), some (.int v2), some (.int v3), some (.int v4), d5, d6]) (S1 := []) (σ1 := σ) (k2 := 21) (L2 := [some (.ref 66), some (.int v1), some (.int v2), some (.int v3), some (.int v4), d5, d6]) (S2 := []) (σ2 := σ) 3 (fun n h => h) (fun hc4 => ?_) (fun hc4 => ?_)
    · rw [if_pos hc4] at h
      cases h
      exact go_ret 2 (fun _ => hp)
    · rw [if_neg hc4] at h
      refine go_st (k' := 23) (L' := [some (.ref 66), some (.int v1), some (.int v2), some (.int v3), some (.int v4), some (.int (-5 : Int32)), d6]) (S' := []) (σ' := σ) 2 (fun n h => h) ?_
      refine t_M_related_l23 d _ hp (fun d5 d6 y17 y18 y19 y20 σ21 h => ?_) N _ v1 v2 v3 v4 (-5 : Int32) σ h
      · refine go_st (k' := 18) (L' := [some (.ref 66), some (.int y17), some (.int y18), some (.int y19), some (.int (y20 + (1 : Int32))), d5, d6]) (S' := []) (σ' := σ21) 2 (fun n h => h) ?_
        exact ih _ _ y17 y18 y19 (y20 + (1 : Int32)) σ21 h
def f_M_related (N : Nat) (p0 : Int32) (p1 : Int32) (p2 : Int32) (σ : aSt) : Option (Int64 × aSt) :=
  (if (f_M_isPoint p0 σ) = true then (if (f_M_isPoint p1 σ) = true then (if (f_M_in p2.toInt64 (0 : Int64) (1 : Int64)) = true then f_M_related_l18 N N p0 p1 p2 (1 : Int32) σ else some ((-9223372036854775808 : Int64), σ)) else some ((-9223372036854775808 : Int64), σ)) else some ((-9223372036854775808 : Int64), σ))
set_option maxRecDepth 20000 in
set_option maxHeartbeats 4000000 in
theorem c_M_related (d : Nat) {N : Nat} (p0 : Int32) (p1 : Int32) (p2 : Int32) (σ : aSt) {P : Option Value → aSt → Prop} {x : (Int64 × aSt)} (h : f_M_related N p0 p1 p2 σ = some x) (hp : P (some (.long x.1)) x.2) : aCall MT (d + 8) 236 [.ref 66, .int p0, .int p1, .int p2] σ P := by
  unfold f_M_related at h
  refine call_of (code := mc_M_related) (L := [some (.ref 66), some (.int p0), some (.int p1), some (.int p2), none, none, none]) rfl rfl rfl rfl ?_
  refine go_call (r := some (.int (b2i (f_M_isPoint p0 σ)))) (σc := σ) (σ1 := σ) (mi := 90) (vs := [.ref 66, .int p0]) (k' := 3) (L' := [some (.ref 66), some (.int p0), some (.int p1), some (.int p2), none, none, none]) (S' := []) 3 (fun P9 h9 => c_M_isPoint (d + 4) p0 σ h9) (fun n h => h) ?_
  refine go_ifz (b := (f_M_isPoint p0 σ)) (k1 := 14) (L1 := [some (.ref 66), some (.int p0), some (.int p1), some (.int p2), none, none, none]) (S1 := []) (σ1 := σ) (k2 := 4) (L2 := [some (.ref 66), some (.int p0), some (.int p1), some (.int p2), none, none, none]) (S2 := []) (σ2 := σ) 1 (fun n h => h) (fun hc1 => ?_) (fun hc1 => ?_)
  · rw [if_neg hc1] at h
    cases h
    exact go_ret 2 (fun _ => hp)
  · rw [if_pos hc1] at h
    refine go_call (r := some (.int (b2i (f_M_isPoint p1 σ)))) (σc := σ) (σ1 := σ) (mi := 90) (vs := [.ref 66, .int p1]) (k' := 7) (L' := [some (.ref 66), some (.int p0), some (.int p1), some (.int p2), none, none, none]) (S' := []) 3 (fun P9 h9 => c_M_isPoint (d + 4) p1 σ h9) (fun n h => h) ?_
    refine go_ifz (b := (f_M_isPoint p1 σ)) (k1 := 14) (L1 := [some (.ref 66), some (.int p0), some (.int p1), some (.int p2), none, none, none]) (S1 := []) (σ1 := σ) (k2 := 8) (L2 := [some (.ref 66), some (.int p0), some (.int p1), some (.int p2), none, none, none]) (S2 := []) (σ2 := σ) 1 (fun n h => h) (fun hc2 => ?_) (fun hc2 => ?_)
    · rw [if_neg hc2] at h
      cases h
      exact go_ret 2 (fun _ => hp)
    · rw [if_pos hc2] at h
      refine go_call (r := some (.int (b2i (f_M_in p2.toInt64 (0 : Int64) (1 : Int64))))) (σc := σ) (σ1 := σ) (mi := 7) (vs := [.long p2.toInt64, .long (0 : Int64), .long (1 : Int64)]) (k' := 13) (L' := [some (.ref 66), some (.int p0), some (.int p1), some (.int p2), none, none, none]) (S' := []) 5 (fun P9 h9 => c_M_in (d + 6) p2.toInt64 (0 : Int64) (1 : Int64) σ h9) (fun n h => h) ?_
      refine go_ifn (b := (f_M_in p2.toInt64 (0 : Int64) (1 : Int64))) (k1 := 16) (L1 := [some (.ref 66), some (.int p0), some (.int p1), some (.int p2), none, none, none]) (S1 := []) (σ1 := σ) (k2 := 14) (L2 := [some (.ref 66), some (.int p0), some (.int p1), some (.int p2), none, none, none]) (S2 := []) (σ2 := σ) 1 (fun n h => h) (fun hc3 => ?_) (fun hc3 => ?_)
      · rw [if_pos hc3] at h
        refine go_st (k' := 18) (L' := [some (.ref 66), some (.int p0), some (.int p1), some (.int p2), some (.int (1 : Int32)), none, none]) (S' := []) (σ' := σ) 2 (fun n h => h) ?_
        exact t_M_related_l18 d hp N _ _ p0 p1 p2 (1 : Int32) σ h
      · rw [if_neg hc3] at h
        cases h
        exact go_ret 2 (fun _ => hp)
def f_M_above_l13 (N : Nat) (σ : aSt) : Nat → Int32 → Int32 → Option Int32
  | 0, _, _ => none
  | n + 1, v1, v2 => (if (σ.1 66 9) ≤ v2 then some (-1 : Int32) else ((f_M_heightAt N v2 σ).bind fun x4 => (if x4 < v1.toInt64 then f_M_above_l13 N σ n v1 (v2 + (1 : Int32)) else some v2)))
set_option maxRecDepth 20000 in
set_option maxHeartbeats 4000000 in
theorem t_M_above_l13 (d : Nat) {N : Nat} (σ : aSt) {x : Int32} {P : Option Value → aSt → Prop} (hp : P (some (.int x)) σ) : ∀ (n : Nat) (v1 : Int32) (v2 : Int32), f_M_above_l13 N σ n v1 v2 = some x → aGo (aCall MT (d + 2)) P mc_M_above 13 [some (.ref 66), some (.int v1), some (.int v2)] [] σ := by
  intro n
  induction n with
  | zero => intro v1 v2 h; cases h
  | succ n ih =>
    intro v1 v2 h
    rw [f_M_above_l13] at h
    refine go_if (c := (σ.1 66 9) ≤ v2) (k1 := 28) (L1 := [some (.ref 66), some (.int v1), some (.int v2)]) (S1 := []) (σ1 := σ) (k2 := 17) (L2 := [some (.ref 66), some (.int v1), some (.int v2)]) (S2 := []) (σ2 := σ) 4 (fun n h => h) (fun hc3 => ?_) (fun hc3 => ?_)
    · rw [if_pos hc3] at h
      cases h
      exact go_ret 2 (fun _ => hp)
    · rw [if_neg hc3] at h
      obtain ⟨x4, hx4, h⟩ := bind_of h
      refine go_call (r := some (.long x4)) (σc := σ) (σ1 := σ) (mi := 209) (vs := [.ref 66, .int v2]) (k' := 20) (L' := [some (.ref 66), some (.int v1), some (.int v2)]) (S' := []) 3 (fun P9 h9 => c_M_heightAt (d + 0) v2 σ hx4 h9) (fun n h => h) ?_
      refine go_iff (lcmp_lt x4 v1.toInt64) (k1 := 26) (L1 := [some (.ref 66), some (.int v1), some (.int v2)]) (S1 := []) (σ1 := σ) (k2 := 24) (L2 := [some (.ref 66), some (.int v1), some (.int v2)]) (S2 := []) (σ2 := σ) 4 (fun n h => h) (fun hc5 => ?_) (fun hc5 => ?_)
      · rw [if_pos hc5] at h
        refine go_st (k' := 13) (L' := [some (.ref 66), some (.int v1), some (.int (v2 + (1 : Int32)))]) (S' := []) (σ' := σ) 2 (fun n h => h) ?_
        exact ih v1 (v2 + (1 : Int32)) h
      · rw [if_neg hc5] at h
        cases h
        exact go_ret 2 (fun _ => hp)
def f_M_above (N : Nat) (p0 : Int32) (σ : aSt) : Option Int32 :=
  (if (σ.2.2 66 1) = true then (if (f_M_in p0.toInt64 (1 : Int64) (1000 : Int64)) = true then f_M_above_l13 N σ N p0 (0 : Int32) else some (-2 : Int32)) else some (-2 : Int32))
set_option maxRecDepth 20000 in
set_option maxHeartbeats 4000000 in
theorem c_M_above (d : Nat) {N : Nat} (p0 : Int32) (σ : aSt) {P : Option Value → aSt → Prop} {x : Int32} (h : f_M_above N p0 σ = some x) (hp : P (some (.int x)) σ) : aCall MT (d + 3) 238 [.ref 66, .int p0] σ P := by
  unfold f_M_above at h
  refine call_of (code := mc_M_above) (L := [some (.ref 66), some (.int p0), none]) rfl rfl rfl rfl ?_
  refine go_ifz (b := (σ.2.2 66 1)) (k1 := 9) (L1 := [some (.ref 66), some (.int p0), none]) (S1 := []) (σ1 := σ) (k2 := 3) (L2 := [some (.ref 66), some (.int p0), none]) (S2 := []) (σ2 := σ) 3 (fun n h => h) (fun hc1 => ?_) (fun hc1 => ?_)
  · rw [if_neg hc1] at h
    cases h
    exact go_ret 2 (fun _ => hp)
  · rw [if_pos hc1] at h
    refine go_call (r := some (.int (b2i (f_M_in p0.toInt64 (1 : Int64) (1000 : Int64))))) (σc := σ) (σ1 := σ) (mi := 7) (vs := [.long p0.toInt64, .long (1 : Int64), .long (1000 : Int64)]) (k' := 8) (L' := [some (.ref 66), some (.int p0), none]) (S' := []) 5 (fun P9 h9 => c_M_in (d + 1) p0.toInt64 (1 : Int64) (1000 : Int64) σ h9) (fun n h => h) ?_
    refine go_ifn (b := (f_M_in p0.toInt64 (1 : Int64) (1000 : Int64))) (k1 := 11) (L1 := [some (.ref 66), some (.int p0), none]) (S1 := []) (σ1 := σ) (k2 := 9) (L2 := [some (.ref 66), some (.int p0), none]) (S2 := []) (σ2 := σ) 1 (fun n h => h) (fun hc2 => ?_) (fun hc2 => ?_)
    · rw [if_pos hc2] at h
      refine go_st (k' := 13) (L' := [some (.ref 66), some (.int p0), some (.int (0 : Int32))]) (S' := []) (σ' := σ) 2 (fun n h => h) ?_
      exact t_M_above_l13 d σ hp N p0 (0 : Int32) h
    · rw [if_neg hc2] at h
      cases h
      exact go_ret 2 (fun _ => hp)
def f_M_upTo_l15 (N : Nat) (σ : aSt) : Nat → Int32 → Int32 → Int32 → Option Int32
  | 0, _, _, _ => none
  | n + 1, v1, v2, v3 => (if (σ.1 66 9) ≤ v3 then some v2 else ((f_M_heightAt N v3 σ).bind fun x4 => (if v1.toInt64 < x4 then f_M_upTo_l15 N σ n v1 (v2 + (0 : Int32)) (v3 + (1 : Int32)) else f_M_upTo_l15 N σ n v1 (v2 + (1 : Int32)) (v3 + (1 : Int32)))))
set_option maxRecDepth 20000 in
set_option maxHeartbeats 4000000 in
theorem t_M_upTo_l15 (d : Nat) {N : Nat} (σ : aSt) {x : Int32} {P : Option Value → aSt → Prop} (hp : P (some (.int x)) σ) : ∀ (n : Nat) (v1 : Int32) (v2 : Int32) (v3 : Int32), f_M_upTo_l15 N σ n v1 v2 v3 = some x → aGo (aCall MT (d + 2)) P mc_M_upTo 15 [some (.ref 66), some (.int v1), some (.int v2), some (.int v3)] [] σ := by
  intro n
  induction n with
  | zero => intro v1 v2 v3 h; cases h
  | succ n ih =>
    intro v1 v2 v3 h
    rw [f_M_upTo_l15] at h
    refine go_if (c := (σ.1 66 9) ≤ v3) (k1 := 34) (L1 := [some (.ref 66), some (.int v1), some (.int v2), some (.int v3)]) (S1 := []) (σ1 := σ) (k2 := 19) (L2 := [some (.ref 66), some (.int v1), some (.int v2), some (.int v3)]) (S2 := []) (σ2 := σ) 4 (fun n h => h) (fun hc3 => ?_) (fun hc3 => ?_)
    · rw [if_pos hc3] at h
      cases h
      exact go_ret 2 (fun _ => hp)
    · rw [if_neg hc3] at h
      obtain ⟨x4, hx4, h⟩ := bind_of h
      refine go_call (r := some (.long x4)) (σc := σ) (σ1 := σ) (mi := 209) (vs := [.ref 66, .int v3]) (k' := 23) (L' := [some (.ref 66), some (.int v1), some (.int v2), some (.int v3)]) (S' := [.int v2]) 4 (fun P9 h9 => c_M_heightAt (d + 0) v3 σ hx4 h9) (fun n h => h) ?_
      refine go_iff (lcmp_gt x4 v1.toInt64) (k1 := 29) (L1 := [some (.ref 66), some (.int v1), some (.int v2), some (.int v3)]) (S1 := [.int v2]) (σ1 := σ) (k2 := 27) (L2 := [some (.ref 66), some (.int v1), some (.int v2), some (.int v3)]) (S2 := [.int v2]) (σ2 := σ) 4 (fun n h => h) (fun hc5 => ?_) (fun hc5 => ?_)
      · rw [if_pos hc5] at h
        refine go_st (k' := 15) (L' := [some (.ref 66), some (.int v1), some (.int (v2 + (0 : Int32))), some (.int (v3 + (1 : Int32)))]) (S' := []) (σ' := σ) 5 (fun n h => h) ?_
        exact ih v1 (v2 + (0 : Int32)) (v3 + (1 : Int32)) h
      · rw [if_neg hc5] at h
        refine go_st (k' := 15) (L' := [some (.ref 66), some (.int v1), some (.int (v2 + (1 : Int32))), some (.int (v3 + (1 : Int32)))]) (S' := []) (σ' := σ) 6 (fun n h => h) ?_
        exact ih v1 (v2 + (1 : Int32)) (v3 + (1 : Int32)) h
def f_M_upTo (N : Nat) (p0 : Int32) (σ : aSt) : Option Int32 :=
  (if (σ.2.2 66 1) = true then (if (f_M_in p0.toInt64 (1 : Int64) (1000 : Int64)) = true then f_M_upTo_l15 N σ N p0 (0 : Int32) (0 : Int32) else some (-2 : Int32)) else some (-2 : Int32))
set_option maxRecDepth 20000 in
set_option maxHeartbeats 4000000 in
theorem c_M_upTo (d : Nat) {N : Nat} (p0 : Int32) (σ : aSt) {P : Option Value → aSt → Prop} {x : Int32} (h : f_M_upTo N p0 σ = some x) (hp : P (some (.int x)) σ) : aCall MT (d + 3) 240 [.ref 66, .int p0] σ P := by
  unfold f_M_upTo at h
  refine call_of (code := mc_M_upTo) (L := [some (.ref 66), some (.int p0), none, none]) rfl rfl rfl rfl ?_
  refine go_ifz (b := (σ.2.2 66 1)) (k1 := 9) (L1 := [some (.ref 66), some (.int p0), none, none]) (S1 := []) (σ1 := σ) (k2 := 3) (L2 := [some (.ref 66), some (.int p0), none, none]) (S2 := []) (σ2 := σ) 3 (fun n h => h) (fun hc1 => ?_) (fun hc1 => ?_)
  · rw [if_neg hc1] at h
    cases h
    exact go_ret 2 (fun _ => hp)
  · rw [if_pos hc1] at h
    refine go_call (r := some (.int (b2i (f_M_in p0.toInt64 (1 : Int64) (1000 : Int64))))) (σc := σ) (σ1 := σ) (mi := 7) (vs := [.long p0.toInt64, .long (1 : Int64), .long (1000 : Int64)]) (k' := 8) (L' := [some (.ref 66), some (.int p0), none, none]) (S' := []) 5 (fun P9 h9 => c_M_in (d + 1) p0.toInt64 (1 : Int64) (1000 : Int64) σ h9) (fun n h => h) ?_
    refine go_ifn (b := (f_M_in p0.toInt64 (1 : Int64) (1000 : Int64))) (k1 := 11) (L1 := [some (.ref 66), some (.int p0), none, none]) (S1 := []) (σ1 := σ) (k2 := 9) (L2 := [some (.ref 66), some (.int p0), none, none]) (S2 := []) (σ2 := σ) 1 (fun n h => h) (fun hc2 => ?_) (fun hc2 => ?_)
    · rw [if_pos hc2] at h
      refine go_st (k' := 15) (L' := [some (.ref 66), some (.int p0), some (.int (0 : Int32)), some (.int (0 : Int32))]) (S' := []) (σ' := σ) 4 (fun n h => h) ?_
      exact t_M_upTo_l15 d σ hp N p0 (0 : Int32) (0 : Int32) h
    · rw [if_neg hc2] at h
      cases h
      exact go_ret 2 (fun _ => hp)
def f_M_beside (N : Nat) (p0 : Int32) (p1 : Int32) (σ : aSt) : Option (Int64 × aSt) :=
  (if (f_M_isListed p0 σ) = true then (if (f_M_in p1.toInt64 (0 : Int64) (1 : Int64)) = true then (if 0 ≤ p0 ∧ p0 < (120 : Int32) then (if (σ.1 67 p0.toNatClampNeg) ≠ 0 then ((f_M_lowers N ((σ.2.1 68 p0.toNatClampNeg) * (σ.2.1 68 p0.toNatClampNeg)) ((((σ.1 69 p0.toNatClampNeg).toInt64 * (σ.1 69 p0.toNatClampNeg).toInt64) * (σ.1 67 p0.toNatClampNeg).toInt64) * (σ.1 67 p0.toNatClampNeg).toInt64) σ).bind fun x5 => (if p1 ≠ 0 then some ((x5.2.1 66 24), x5) else some ((x5.2.1 66 23), x5))) else some ((-9223372036854775808 : Int64), σ)) else none) else some ((-9223372036854775808 : Int64), σ)) else some ((-9223372036854775808 : Int64), σ))
set_option maxRecDepth 20000 in
set_option maxHeartbeats 4000000 in
theorem c_M_beside (d : Nat) {N : Nat} (p0 : Int32) (p1 : Int32) (σ : aSt) {P : Option Value → aSt → Prop} {x : (Int64 × aSt)} (h : f_M_beside N p0 p1 σ = some x) (hp : P (some (.long x.1)) x.2) : aCall MT (d + 3) 242 [.ref 66, .int p0, .int p1] σ P := by
  unfold f_M_beside at h
  refine call_of (code := mc_M_beside) (L := [some (.ref 66), some (.int p0), some (.int p1)]) rfl rfl rfl rfl ?_
  refine go_call (r := some (.int (b2i (f_M_isListed p0 σ)))) (σc := σ) (σ1 := σ) (mi := 79) (vs := [.ref 66, .int p0]) (k' := 3) (L' := [some (.ref 66), some (.int p0), some (.int p1)]) (S' := []) 3 (fun P9 h9 => c_M_isListed (d + 0) p0 σ h9) (fun n h => h) ?_
  refine go_ifz (b := (f_M_isListed p0 σ)) (k1 := 15) (L1 := [some (.ref 66), some (.int p0), some (.int p1)]) (S1 := []) (σ1 := σ) (k2 := 4) (L2 := [some (.ref 66), some (.int p0), some (.int p1)]) (S2 := []) (σ2 := σ) 1 (fun n h => h) (fun hc1 => ?_) (fun hc1 => ?_)
  · rw [if_neg hc1] at h
    cases h
    exact go_ret 2 (fun _ => hp)
  · rw [if_pos hc1] at h
    refine go_call (r := some (.int (b2i (f_M_in p1.toInt64 (0 : Int64) (1 : Int64))))) (σc := σ) (σ1 := σ) (mi := 7) (vs := [.long p1.toInt64, .long (0 : Int64), .long (1 : Int64)]) (k' := 9) (L' := [some (.ref 66), some (.int p0), some (.int p1)]) (S' := []) 5 (fun P9 h9 => c_M_in (d + 1) p1.toInt64 (0 : Int64) (1 : Int64) σ h9) (fun n h => h) ?_
    refine go_ifz (b := (f_M_in p1.toInt64 (0 : Int64) (1 : Int64))) (k1 := 15) (L1 := [some (.ref 66), some (.int p0), some (.int p1)]) (S1 := []) (σ1 := σ) (k2 := 10) (L2 := [some (.ref 66), some (.int p0), some (.int p1)]) (S2 := []) (σ2 := σ) 1 (fun n h => h) (fun hc2 => ?_) (fun hc2 => ?_)
    · rw [if_neg hc2] at h
      cases h
      exact go_ret 2 (fun _ => hp)
    · rw [if_pos hc2] at h
      obtain ⟨hc3, h⟩ := ite_of h
      refine go_q (Q := inb 0 σ 67 p0) (k' := 14) (L' := [some (.ref 66), some (.int p0), some (.int p1)]) (S' := [.int (σ.1 67 p0.toNatClampNeg)]) (σ' := σ) 4 (inb_mk rfl hc3.1 hc3.2) (fun n h => h) ?_
      refine go_if (c := (σ.1 67 p0.toNatClampNeg) ≠ 0) (k1 := 17) (L1 := [some (.ref 66), some (.int p0), some (.int p1)]) (S1 := []) (σ1 := σ) (k2 := 15) (L2 := [some (.ref 66), some (.int p0), some (.int p1)]) (S2 := []) (σ2 := σ) 1 (fun n h => h) (fun hc4 => ?_) (fun hc4 => ?_)
      · rw [if_pos hc4] at h
        refine go_q (Q := inb 1 σ 68 p0) (k' := 22) (L' := [some (.ref 66), some (.int p0), some (.int p1)]) (S' := [.long (σ.2.1 68 p0.toNatClampNeg), .ref 66]) (σ' := σ) 5 (inb_mk rfl hc3.1 hc3.2) (fun n h => h) ?_
        refine go_q (Q := inb 1 σ 68 p0) (k' := 26) (L' := [some (.ref 66), some (.int p0), some (.int p1)]) (S' := [.long (σ.2.1 68 p0.toNatClampNeg), .long (σ.2.1 68 p0.toNatClampNeg), .ref 66]) (σ' := σ) 4 (inb_mk rfl hc3.1 hc3.2) (fun n h => h) ?_
        refine go_q (Q := inb 0 σ 69 p0) (k' := 31) (L' := [some (.ref 66), some (.int p0), some (.int p1)]) (S' := [.int (σ.1 69 p0.toNatClampNeg), .long ((σ.2.1 68 p0.toNatClampNeg) * (σ.2.1 68 p0.toNatClampNeg)), .ref 66]) (σ' := σ) 5 (inb_mk rfl hc3.1 hc3.2) (fun n h => h) ?_
        refine go_q (Q := inb 0 σ 69 p0) (k' := 36) (L' := [some (.ref 66), some (.int p0), some (.int p1)]) (S' := [.int (σ.1 69 p0.toNatClampNeg), .long (σ.1 69 p0.toNatClampNeg).toInt64, .long ((σ.2.1 68 p0.toNatClampNeg) * (σ.2.1 68 p0.toNatClampNeg)), .ref 66]) (σ' := σ) 5 (inb_mk rfl hc3.1 hc3.2) (fun n h => h) ?_
        refine go_q (Q := inb 0 σ 67 p0) (k' := 42) (L' := [some (.ref 66), some (.int p0), some (.int p1)]) (S' := [.int (σ.1 67 p0.toNatClampNeg), .long ((σ.1 69 p0.toNatClampNeg).toInt64 * (σ.1 69 p0.toNatClampNeg).toInt64), .long ((σ.2.1 68 p0.toNatClampNeg) * (σ.2.1 68 p0.toNatClampNeg)), .ref 66]) (σ' := σ) 6 (inb_mk rfl hc3.1 hc3.2) (fun n h => h) ?_
        refine go_q (Q := inb 0 σ 67 p0) (k' := 48) (L' := [some (.ref 66), some (.int p0), some (.int p1)]) (S' := [.int (σ.1 67 p0.toNatClampNeg), .long (((σ.1 69 p0.toNatClampNeg).toInt64 * (σ.1 69 p0.toNatClampNeg).toInt64) * (σ.1 67 p0.toNatClampNeg).toInt64), .long ((σ.2.1 68 p0.toNatClampNeg) * (σ.2.1 68 p0.toNatClampNeg)), .ref 66]) (σ' := σ) 6 (inb_mk rfl hc3.1 hc3.2) (fun n h => h) ?_
        obtain ⟨x5, hx5, h⟩ := bind_of h
        refine go_call (r := none) (σc := σ) (σ1 := x5) (mi := 103) (vs := [.ref 66, .long ((σ.2.1 68 p0.toNatClampNeg) * (σ.2.1 68 p0.toNatClampNeg)), .long ((((σ.1 69 p0.toNatClampNeg).toInt64 * (σ.1 69 p0.toNatClampNeg).toInt64) * (σ.1 67 p0.toNatClampNeg).toInt64) * (σ.1 67 p0.toNatClampNeg).toInt64)]) (k' := 51) (L' := [some (.ref 66), some (.int p0), some (.int p1)]) (S' := []) 3 (fun P9 h9 => c_M_lowers (d + 0) ((σ.2.1 68 p0.toNatClampNeg) * (σ.2.1 68 p0.toNatClampNeg)) ((((σ.1 69 p0.toNatClampNeg).toInt64 * (σ.1 69 p0.toNatClampNeg).toInt64) * (σ.1 67 p0.toNatClampNeg).toInt64) * (σ.1 67 p0.toNatClampNeg).toInt64) σ hx5 h9) (fun n h => h) ?_
        refine go_if (c := p1 ≠ 0) (k1 := 56) (L1 := [some (.ref 66), some (.int p0), some (.int p1)]) (S1 := []) (σ1 := x5) (k2 := 53) (L2 := [some (.ref 66), some (.int p0), some (.int p1)]) (S2 := []) (σ2 := x5) 2 (fun n h => h) (fun hc6 => ?_) (fun hc6 => ?_)
        · rw [if_pos hc6] at h
          cases h
          exact go_ret 3 (fun _ => hp)
        · rw [if_neg hc6] at h
          cases h
          exact go_ret 4 (fun _ => hp)
      · rw [if_neg hc4] at h
        cases h
        exact go_ret 2 (fun _ => hp)
def f_M_same (N : Nat) (p0 : Int32) (σ : aSt) : Option (Int64 × aSt) :=
  (if (σ.2.2 66 1) = true then (if (f_M_in p0.toInt64 (0 : Int64) (1 : Int64)) = true then ((f_M_lowers N ((((256 : Int64) * (((σ.1 66 2).toInt64 * (σ.1 66 2).toInt64) - ((3 : Int64) * (σ.1 66 3).toInt64))) * (((σ.1 66 2).toInt64 * (σ.1 66 2).toInt64) - ((3 : Int64) * (σ.1 66 3).toInt64))) * (((σ.1 66 2).toInt64 * (σ.1 66 2).toInt64) - ((3 : Int64) * (σ.1 66 3).toInt64))) (((σ.1 66 3).toInt64 * (σ.1 66 3).toInt64) * (((σ.1 66 2).toInt64 * (σ.1 66 2).toInt64) - ((4 : Int64) * (σ.1 66 3).toInt64))) σ).bind fun x3 => (if p0 ≠ 0 then some ((x3.2.1 66 24), x3) else some ((x3.2.1 66 23), x3))) else some ((-9223372036854775808 : Int64), σ)) else some ((-9223372036854775808 : Int64), σ))
set_option maxRecDepth 20000 in
set_option maxHeartbeats 4000000 in
theorem c_M_same (d : Nat) {N : Nat} (p0 : Int32) (σ : aSt) {P : Option Value → aSt → Prop} {x : (Int64 × aSt)} (h : f_M_same N p0 σ = some x) (hp : P (some (.long x.1)) x.2) : aCall MT (d + 3) 244 [.ref 66, .int p0] σ P := by
  unfold f_M_same at h
  refine call_of (code := mc_M_same) (L := [some (.ref 66), some (.int p0), none, none]) rfl rfl rfl rfl ?_
  refine go_ifz (b := (σ.2.2 66 1)) (k1 := 9) (L1 := [some (.ref 66), some (.int p0), none, none]) (S1 := []) (σ1 := σ) (k2 := 3) (L2 := [some (.ref 66), some (.int p0), none, none]) (S2 := []) (σ2 := σ) 3 (fun n h => h) (fun hc1 => ?_) (fun hc1 => ?_)
  · rw [if_neg hc1] at h
    cases h
    exact go_ret 2 (fun _ => hp)
  · rw [if_pos hc1] at h
    refine go_call (r := some (.int (b2i (f_M_in p0.toInt64 (0 : Int64) (1 : Int64))))) (σc := σ) (σ1 := σ) (mi := 7) (vs := [.long p0.toInt64, .long (0 : Int64), .long (1 : Int64)]) (k' := 8) (L' := [some (.ref 66), some (.int p0), none, none]) (S' := []) 5 (fun P9 h9 => c_M_in (d + 1) p0.toInt64 (0 : Int64) (1 : Int64) σ h9) (fun n h => h) ?_
    refine go_ifn (b := (f_M_in p0.toInt64 (0 : Int64) (1 : Int64))) (k1 := 11) (L1 := [some (.ref 66), some (.int p0), none, none]) (S1 := []) (σ1 := σ) (k2 := 9) (L2 := [some (.ref 66), some (.int p0), none, none]) (S2 := []) (σ2 := σ) 1 (fun n h => h) (fun hc2 => ?_) (fun hc2 => ?_)
    · rw [if_pos hc2] at h
      obtain ⟨x3, hx3, h⟩ := bind_of h
      refine go_call (r := none) (σc := σ) (σ1 := x3) (mi := 103) (vs := [.ref 66, .long ((((256 : Int64) * (((σ.1 66 2).toInt64 * (σ.1 66 2).toInt64) - ((3 : Int64) * (σ.1 66 3).toInt64))) * (((σ.1 66 2).toInt64 * (σ.1 66 2).toInt64) - ((3 : Int64) * (σ.1 66 3).toInt64))) * (((σ.1 66 2).toInt64 * (σ.1 66 2).toInt64) - ((3 : Int64) * (σ.1 66 3).toInt64))), .long (((σ.1 66 3).toInt64 * (σ.1 66 3).toInt64) * (((σ.1 66 2).toInt64 * (σ.1 66 2).toInt64) - ((4 : Int64) * (σ.1 66 3).toInt64)))]) (k' := 55) (L' := [some (.ref 66), some (.int p0), some (.long (((σ.1 66 2).toInt64 * (σ.1 66 2).toInt64) - ((3 : Int64) * (σ.1 66 3).toInt64))), none]) (S' := []) 44 (fun P9 h9 => c_M_lowers (d + 0) ((((256 : Int64) * (((σ.1 66 2).toInt64 * (σ.1 66 2).toInt64) - ((3 : Int64) * (σ.1 66 3).toInt64))) * (((σ.1 66 2).toInt64 * (σ.1 66 2).toInt64) - ((3 : Int64) * (σ.1 66 3).toInt64))) * (((σ.1 66 2).toInt64 * (σ.1 66 2).toInt64) - ((3 : Int64) * (σ.1 66 3).toInt64))) (((σ.1 66 3).toInt64 * (σ.1 66 3).toInt64) * (((σ.1 66 2).toInt64 * (σ.1 66 2).toInt64) - ((4 : Int64) * (σ.1 66 3).toInt64))) σ hx3 h9) (fun n h => h) ?_
      refine go_if (c := p0 ≠ 0) (k1 := 60) (L1 := [some (.ref 66), some (.int p0), some (.long (((σ.1 66 2).toInt64 * (σ.1 66 2).toInt64) - ((3 : Int64) * (σ.1 66 3).toInt64))), none]) (S1 := []) (σ1 := x3) (k2 := 57) (L2 := [some (.ref 66), some (.int p0), some (.long (((σ.1 66 2).toInt64 * (σ.1 66 2).toInt64) - ((3 : Int64) * (σ.1 66 3).toInt64))), none]) (S2 := []) (σ2 := x3) 2 (fun n h => h) (fun hc4 => ?_) (fun hc4 => ?_)
      · rw [if_pos hc4] at h
        cases h
        exact go_ret 3 (fun _ => hp)
      · rw [if_neg hc4] at h
        cases h
        exact go_ret 4 (fun _ => hp)
    · rw [if_neg hc2] at h
      cases h
      exact go_ret 2 (fun _ => hp)
def f_M_keeps_b27 (N : Nat) (σ : aSt) : Option aSt :=
  (if 0 ≤ ((4 : Int32) * (σ.1 66 22)) ∧ ((4 : Int32) * (σ.1 66 22)) < (40 : Int32) then (if 0 ≤ (((4 : Int32) * (σ.1 66 22)) + (1 : Int32)) ∧ (((4 : Int32) * (σ.1 66 22)) + (1 : Int32)) < (40 : Int32) then (if 0 ≤ (((4 : Int32) * (σ.1 66 22)) + (2 : Int32)) ∧ (((4 : Int32) * (σ.1 66 22)) + (2 : Int32)) < (40 : Int32) then (if 0 ≤ (((4 : Int32) * (σ.1 66 22)) + (3 : Int32)) ∧ (((4 : Int32) * (σ.1 66 22)) + (3 : Int32)) < (40 : Int32) then some (s_i (s_i (s_i (s_i (s_i σ 72 ((4 : Int32) * (σ.1 66 22)).toNatClampNeg (σ.1 66 2)) 72 (((4 : Int32) * (σ.1 66 22)) + (1 : Int32)).toNatClampNeg (σ.1 66 3)) 72 (((4 : Int32) * (σ.1 66 22)) + (2 : Int32)).toNatClampNeg (σ.1 66 4)) 72 (((4 : Int32) * (σ.1 66 22)) + (3 : Int32)).toNatClampNeg (σ.1 66 5)) 66 22 ((σ.1 66 22) + (1 : Int32))) else none) else none) else none) else none)
set_option maxRecDepth 20000 in
set_option maxHeartbeats 4000000 in
theorem t_M_keeps_b27 (d : Nat) {N : Nat} (d1 : Option Value) (σ : aSt) {P : Option Value → aSt → Prop} {x : aSt} (h : f_M_keeps_b27 N σ = some x) (hp : P none x) : aGo (aCall MT (d + 0)) P mc_M_keeps 27 [some (.ref 66), d1] [] σ := by
  unfold f_M_keeps_b27 at h
  obtain ⟨hc2, h⟩ := ite_of h
  refine go_q (Q := inb 0 σ 72 ((4 : Int32) * (σ.1 66 22))) (k' := 36) (L' := [some (.ref 66), d1]) (S' := []) (σ' := (s_i σ 72 ((4 : Int32) * (σ.1 66 22)).toNatClampNeg (σ.1 66 2))) 9 (inb_mk rfl hc2.1 hc2.2) (fun n h => h) ?_
  obtain ⟨hc3, h⟩ := ite_of h
  refine go_q (Q := inb 0 (s_i σ 72 ((4 : Int32) * (σ.1 66 22)).toNatClampNeg (σ.1 66 2)) 72 (((4 : Int32) * (σ.1 66 22)) + (1 : Int32))) (k' := 47) (L' := [some (.ref 66), d1]) (S' := []) (σ' := (s_i (s_i σ 72 ((4 : Int32) * (σ.1 66 22)).toNatClampNeg (σ.1 66 2)) 72 (((4 : Int32) * (σ.1 66 22)) + (1 : Int32)).toNatClampNeg (σ.1 66 3))) 11 (inb_mk rfl hc3.1 hc3.2) (fun n h => h) ?_
  obtain ⟨hc4, h⟩ := ite_of h
  refine go_q (Q := inb 0 (s_i (s_i σ 72 ((4 : Int32) * (σ.1 66 22)).toNatClampNeg (σ.1 66 2)) 72 (((4 : Int32) * (σ.1 66 22)) + (1 : Int32)).toNatClampNeg (σ.1 66 3)) 72 (((4 : Int32) * (σ.1 66 22)) + (2 : Int32))) (k' := 58) (L' := [some (.ref 66), d1]) (S' := []) (σ' := (s_i (s_i (s_i σ 72 ((4 : Int32) * (σ.1 66 22)).toNatClampNeg (σ.1 66 2)) 72 (((4 : Int32) * (σ.1 66 22)) + (1 : Int32)).toNatClampNeg (σ.1 66 3)) 72 (((4 : Int32) * (σ.1 66 22)) + (2 : Int32)).toNatClampNeg (σ.1 66 4))) 11 (inb_mk rfl hc4.1 hc4.2) (fun n h => h) ?_
  obtain ⟨hc5, h⟩ := ite_of h
  refine go_q (Q := inb 0 (s_i (s_i (s_i σ 72 ((4 : Int32) * (σ.1 66 22)).toNatClampNeg (σ.1 66 2)) 72 (((4 : Int32) * (σ.1 66 22)) + (1 : Int32)).toNatClampNeg (σ.1 66 3)) 72 (((4 : Int32) * (σ.1 66 22)) + (2 : Int32)).toNatClampNeg (σ.1 66 4)) 72 (((4 : Int32) * (σ.1 66 22)) + (3 : Int32))) (k' := 69) (L' := [some (.ref 66), d1]) (S' := []) (σ' := (s_i (s_i (s_i (s_i σ 72 ((4 : Int32) * (σ.1 66 22)).toNatClampNeg (σ.1 66 2)) 72 (((4 : Int32) * (σ.1 66 22)) + (1 : Int32)).toNatClampNeg (σ.1 66 3)) 72 (((4 : Int32) * (σ.1 66 22)) + (2 : Int32)).toNatClampNeg (σ.1 66 4)) 72 (((4 : Int32) * (σ.1 66 22)) + (3 : Int32)).toNatClampNeg (σ.1 66 5))) 11 (inb_mk rfl hc5.1 hc5.2) (fun n h => h) ?_
  cases h
  exact go_ret 7 (fun _ => hp)
def f_M_keeps_l6 (N : Nat) : Nat → Int32 → aSt → Option aSt
  | 0, _, _ => none
  | n + 1, v1, σ => (if (36 : Int32) ≤ v1 then f_M_keeps_b27 N (s_i σ 66 22 ((σ.1 66 22) - (1 : Int32))) else (if 0 ≤ (v1 + (4 : Int32)) ∧ (v1 + (4 : Int32)) < (40 : Int32) then (if 0 ≤ v1 ∧ v1 < (40 : Int32) then f_M_keeps_l6 N n (v1 + (1 : Int32)) (s_i σ 72 v1.toNatClampNeg (σ.1 72 (v1 + (4 : Int32)).toNatClampNeg)) else none) else none))
set_option maxRecDepth 20000 in
set_option maxHeartbeats 4000000 in
theorem t_M_keeps_l6 (d : Nat) {N : Nat} {x : aSt} {P : Option Value → aSt → Prop} (hp : P none x) : ∀ (n : Nat) (v1 : Int32) (σ : aSt), f_M_keeps_l6 N n v1 σ = some x → aGo (aCall MT (d + 0)) P mc_M_keeps 6 [some (.ref 66), some (.int v1)] [] σ := by
  intro n
  induction n with
  | zero => intro v1 σ h; cases h
  | succ n ih =>
    intro v1 σ h
    rw [f_M_keeps_l6] at h
    refine go_if (c := (36 : Int32) ≤ v1) (k1 := 21) (L1 := [some (.ref 66), some (.int v1)]) (S1 := []) (σ1 := σ) (k2 := 9) (L2 := [some (.ref 66), some (.int v1)]) (S2 := []) (σ2 := σ) 3 (fun n h => h) (fun hc6 => ?_) (fun hc6 => ?_)
    · rw [if_pos hc6] at h
      refine go_st (k' := 27) (L' := [some (.ref 66), some (.int v1)]) (S' := []) (σ' := (s_i σ 66 22 ((σ.1 66 22) - (1 : Int32)))) 6 (fun n h => h) ?_
      exact t_M_keeps_b27 d _ (s_i σ 66 22 ((σ.1 66 22) - (1 : Int32))) h hp
    · rw [if_neg hc6] at h
      obtain ⟨hc7, h⟩ := ite_of h
      refine go_q (Q := inb 0 σ 72 (v1 + (4 : Int32))) (k' := 18) (L' := [some (.ref 66), some (.int v1)]) (S' := [.int (σ.1 72 (v1 + (4 : Int32)).toNatClampNeg), .int v1, .ref 72]) (σ' := σ) 9 (inb_mk rfl hc7.1 hc7.2) (fun n h => h) ?_
      obtain ⟨hc8, h⟩ := ite_of h
      refine go_q (Q := inb 0 σ 72 v1) (k' := 19) (L' := [some (.ref 66), some (.int v1)]) (S' := []) (σ' := (s_i σ 72 v1.toNatClampNeg (σ.1 72 (v1 + (4 : Int32)).toNatClampNeg))) 1 (inb_mk rfl hc8.1 hc8.2) (fun n h => h) ?_
      refine go_st (k' := 6) (L' := [some (.ref 66), some (.int (v1 + (1 : Int32)))]) (S' := []) (σ' := (s_i σ 72 v1.toNatClampNeg (σ.1 72 (v1 + (4 : Int32)).toNatClampNeg))) 2 (fun n h => h) ?_
      exact ih (v1 + (1 : Int32)) (s_i σ 72 v1.toNatClampNeg (σ.1 72 (v1 + (4 : Int32)).toNatClampNeg)) h
def f_M_keeps (N : Nat) (σ : aSt) : Option aSt :=
  (if (σ.1 66 22) ≠ (10 : Int32) then f_M_keeps_b27 N σ else f_M_keeps_l6 N N (0 : Int32) σ)
set_option maxRecDepth 20000 in
set_option maxHeartbeats 4000000 in
theorem c_M_keeps (d : Nat) {N : Nat} (σ : aSt) {P : Option Value → aSt → Prop} {x : aSt} (h : f_M_keeps N σ = some x) (hp : P none x) : aCall MT (d + 1) 249 [.ref 66] σ P := by
  unfold f_M_keeps at h
  refine call_of (code := mc_M_keeps) (L := [some (.ref 66), none]) rfl rfl rfl rfl ?_
  refine go_if (c := (σ.1 66 22) ≠ (10 : Int32)) (k1 := 27) (L1 := [some (.ref 66), none]) (S1 := []) (σ1 := σ) (k2 := 4) (L2 := [some (.ref 66), none]) (S2 := []) (σ2 := σ) 4 (fun n h => h) (fun hc1 => ?_) (fun hc1 => ?_)
  · rw [if_pos hc1] at h
    exact t_M_keeps_b27 d _ σ h hp
  · rw [if_neg hc1] at h
    refine go_st (k' := 6) (L' := [some (.ref 66), some (.int (0 : Int32))]) (S' := []) (σ' := σ) 2 (fun n h => h) ?_
    exact t_M_keeps_l6 d hp N (0 : Int32) σ h
def f_M_becomesOther (N : Nat) (p0 : Int64) (p1 : Int64) (σ : aSt) : Option (Int32 × aSt) :=
  (if (f_M_in p0 (-60 : Int64) (60 : Int64)) = true then (if (f_M_in p1 (-200 : Int64) (200 : Int64)) = true then ((f_M_keeps N σ).bind fun x3 => ((f_M_becomes N p0.toInt32 p1.toInt32 (x3.1 66 4) (x3.1 66 5) x3).bind fun x4 => some ((x4.1 66 9), x4))) else some ((-5 : Int32), σ)) else some ((-5 : Int32), σ))
set_option maxRecDepth 20000 in
set_option maxHeartbeats 4000000 in
theorem c_M_becomesOther (d : Nat) {N : Nat} (p0 : Int64) (p1 : Int64) (σ : aSt) {P : Option Value → aSt → Prop} {x : (Int32 × aSt)} (h : f_M_becomesOther N p0 p1 σ = some x) (hp : P (some (.int x.1)) x.2) : aCall MT (d + 5) 250 [.ref 66, .long p0, .long p1] σ P := by
  unfold f_M_becomesOther at h
  refine call_of (code := mc_M_becomesOther) (L := [some (.ref 66), some (.long p0), none, some (.long p1), none]) rfl rfl rfl rfl ?_
  refine go_call (r := some (.int (b2i (f_M_in p0 (-60 : Int64) (60 : Int64))))) (σc := σ) (σ1 := σ) (mi := 7) (vs := [.long p0, .long (-60 : Int64), .long (60 : Int64)]) (k' := 4) (L' := [some (.ref 66), some (.long p0), none, some (.long p1), none]) (S' := []) 4 (fun P9 h9 => c_M_in (d + 3) p0 (-60 : Int64) (60 : Int64) σ h9) (fun n h => h) ?_
  refine go_ifz (b := (f_M_in p0 (-60 : Int64) (60 : Int64))) (k1 := 10) (L1 := [some (.ref 66), some (.long p0), none, some (.long p1), none]) (S1 := []) (σ1 := σ) (k2 := 5) (L2 := [some (.ref 66), some (.long p0), none, some (.long p1), none]) (S2 := []) (σ2 := σ) 1 (fun n h => h) (fun hc1 => ?_) (fun hc1 => ?_)
  · rw [if_neg hc1] at h
    cases h
    exact go_ret 2 (fun _ => hp)
  · rw [if_pos hc1] at h
    refine go_call (r := some (.int (b2i (f_M_in p1 (-200 : Int64) (200 : Int64))))) (σc := σ) (σ1 := σ) (mi := 7) (vs := [.long p1, .long (-200 : Int64), .long (200 : Int64)]) (k' := 9) (L' := [some (.ref 66), some (.long p0), none, some (.long p1), none]) (S' := []) 4 (fun P9 h9 => c_M_in (d + 3) p1 (-200 : Int64) (200 : Int64) σ h9) (fun n h => h) ?_
    refine go_ifn (b := (f_M_in p1 (-200 : Int64) (200 : Int64))) (k1 := 12) (L1 := [some (.ref 66), some (.long p0), none, some (.long p1), none]) (S1 := []) (σ1 := σ) (k2 := 10) (L2 := [some (.ref 66), some (.long p0), none, some (.long p1), none]) (S2 := []) (σ2 := σ) 1 (fun n h => h) (fun hc2 => ?_) (fun hc2 => ?_)
    · rw [if_pos hc2] at h
      obtain ⟨x3, hx3, h⟩ := bind_of h
      refine go_call (r := none) (σc := σ) (σ1 := x3) (mi := 249) (vs := [.ref 66]) (k' := 14) (L' := [some (.ref 66), some (.long p0), none, some (.long p1), none]) (S' := []) 2 (fun P9 h9 => c_M_keeps (d + 3) σ hx3 h9) (fun n h => h) ?_
      obtain ⟨x4, hx4, h⟩ := bind_of h
      refine go_call (r := none) (σc := x3) (σ1 := x4) (mi := 62) (vs := [.ref 66, .int p0.toInt32, .int p1.toInt32, .int (x3.1 66 4), .int (x3.1 66 5)]) (k' := 24) (L' := [some (.ref 66), some (.long p0), none, some (.long p1), none]) (S' := []) 10 (fun P9 h9 => c_M_becomes (d + 0) p0.toInt32 p1.toInt32 (x3.1 66 4) (x3.1 66 5) x3 hx4 h9) (fun n h => h) ?_
      cases h
      exact go_ret 3 (fun _ => hp)
    · rw [if_neg hc2] at h
      cases h
      exact go_ret 2 (fun _ => hp)
def f_M_goesBeside (N : Nat) (σ : aSt) : Option (Int32 × aSt) :=
  (if (σ.2.2 66 1) = true then ((f_M_becomesOther N ((-2 : Int64) * (σ.1 66 2).toInt64) (((σ.1 66 2).toInt64 * (σ.1 66 2).toInt64) - ((4 : Int64) * (σ.1 66 3).toInt64)) σ).bind fun x2 => some (x2.1, x2.2)) else some ((-2 : Int32), σ))
set_option maxRecDepth 20000 in
set_option maxHeartbeats 4000000 in
theorem c_M_goesBeside (d : Nat) {N : Nat} (σ : aSt) {P : Option Value → aSt → Prop} {x : (Int32 × aSt)} (h : f_M_goesBeside N σ = some x) (hp : P (some (.int x.1)) x.2) : aCall MT (d + 6) 251 [.ref 66] σ P := by
  unfold f_M_goesBeside at h
  refine call_of (code := mc_M_goesBeside) (L := [some (.ref 66)]) rfl rfl rfl rfl ?_
  refine go_ifz (b := (σ.2.2 66 1)) (k1 := 24) (L1 := [some (.ref 66)]) (S1 := []) (σ1 := σ) (k2 := 3) (L2 := [some (.ref 66)]) (S2 := []) (σ2 := σ) 3 (fun n h => h) (fun hc1 => ?_) (fun hc1 => ?_)
  · rw [if_neg hc1] at h
    cases h
    exact go_ret 2 (fun _ => hp)
  · rw [if_pos hc1] at h
    obtain ⟨x2, hx2, h⟩ := bind_of h
    refine go_call (r := some (.int x2.1)) (σc := σ) (σ1 := x2.2) (mi := 250) (vs := [.ref 66, .long ((-2 : Int64) * (σ.1 66 2).toInt64), .long (((σ.1 66 2).toInt64 * (σ.1 66 2).toInt64) - ((4 : Int64) * (σ.1 66 3).toInt64))]) (k' := 23) (L' := [some (.ref 66)]) (S' := []) 20 (fun P9 h9 => c_M_becomesOther (d + 0) ((-2 : Int64) * (σ.1 66 2).toInt64) (((σ.1 66 2).toInt64 * (σ.1 66 2).toInt64) - ((4 : Int64) * (σ.1 66 3).toInt64)) σ hx2 h9) (fun n h => h) ?_
    cases h
    exact go_ret 2 (fun _ => hp)
def f_M_twists (N : Nat) (p0 : Int32) (σ : aSt) : Option (Int32 × aSt) :=
  (if (σ.2.2 66 1) = true then (if (f_M_in p0.toInt64 (-9 : Int64) (9 : Int64)) = true then (if p0 ≠ 0 then ((f_M_becomesOther N ((σ.1 66 2).toInt64 * p0.toInt64) (((σ.1 66 3).toInt64 * p0.toInt64) * p0.toInt64) σ).bind fun x4 => some (x4.1, x4.2)) else some ((-2 : Int32), σ)) else some ((-2 : Int32), σ)) else some ((-2 : Int32), σ))
set_option maxRecDepth 20000 in
set_option maxHeartbeats 4000000 in
theorem c_M_twists (d : Nat) {N : Nat} (p0 : Int32) (σ : aSt) {P : Option Value → aSt → Prop} {x : (Int32 × aSt)} (h : f_M_twists N p0 σ = some x) (hp : P (some (.int x.1)) x.2) : aCall MT (d + 6) 253 [.ref 66, .int p0] σ P := by
  unfold f_M_twists at h
  refine call_of (code := mc_M_twists) (L := [some (.ref 66), some (.int p0)]) rfl rfl rfl rfl ?_
  refine go_ifz (b := (σ.2.2 66 1)) (k1 := 11) (L1 := [some (.ref 66), some (.int p0)]) (S1 := []) (σ1 := σ) (k2 := 3) (L2 := [some (.ref 66), some (.int p0)]) (S2 := []) (σ2 := σ) 3 (fun n h => h) (fun hc1 => ?_) (fun hc1 => ?_)
  · rw [if_neg hc1] at h
    cases h
    exact go_ret 2 (fun _ => hp)
  · rw [if_pos hc1] at h
    refine go_call (r := some (.int (b2i (f_M_in p0.toInt64 (-9 : Int64) (9 : Int64))))) (σc := σ) (σ1 := σ) (mi := 7) (vs := [.long p0.toInt64, .long (-9 : Int64), .long (9 : Int64)]) (k' := 8) (L' := [some (.ref 66), some (.int p0)]) (S' := []) 5 (fun P9 h9 => c_M_in (d + 4) p0.toInt64 (-9 : Int64) (9 : Int64) σ h9) (fun n h => h) ?_
    refine go_ifz (b := (f_M_in p0.toInt64 (-9 : Int64) (9 : Int64))) (k1 := 11) (L1 := [some (.ref 66), some (.int p0)]) (S1 := []) (σ1 := σ) (k2 := 9) (L2 := [some (.ref 66), some (.int p0)]) (S2 := []) (σ2 := σ) 1 (fun n h => h) (fun hc2 => ?_) (fun hc2 => ?_)
    · rw [if_neg hc2] at h
      cases h
      exact go_ret 2 (fun _ => hp)
    · rw [if_pos hc2] at h
      refine go_if (c := p0 ≠ 0) (k1 := 13) (L1 := [some (.ref 66), some (.int p0)]) (S1 := []) (σ1 := σ) (k2 := 11) (L2 := [some (.ref 66), some (.int p0)]) (S2 := []) (σ2 := σ) 2 (fun n h => h) (fun hc3 => ?_) (fun hc3 => ?_)
      · rw [if_pos hc3] at h
        obtain ⟨x4, hx4, h⟩ := bind_of h
        refine go_call (r := some (.int x4.1)) (σc := σ) (σ1 := x4.2) (mi := 250) (vs := [.ref 66, .long ((σ.1 66 2).toInt64 * p0.toInt64), .long (((σ.1 66 3).toInt64 * p0.toInt64) * p0.toInt64)]) (k' := 30) (L' := [some (.ref 66), some (.int p0)]) (S' := []) 17 (fun P9 h9 => c_M_becomesOther (d + 0) ((σ.1 66 2).toInt64 * p0.toInt64) (((σ.1 66 3).toInt64 * p0.toInt64) * p0.toInt64) σ hx4 h9) (fun n h => h) ?_
        cases h
        exact go_ret 1 (fun _ => hp)
      · rw [if_neg hc3] at h
        cases h
        exact go_ret 2 (fun _ => hp)
def f_M_within (N : Nat) (p0 : Int32) (p1 : Int32) (σ : aSt) : Option (Int32 × aSt) :=
  (if (σ.2.2 66 1) = true then (if (f_M_in p0.toInt64 (1 : Int64) (1000 : Int64)) = true then (if (f_M_in p1.toInt64 (1 : Int64) (6 : Int64)) = true then ((f_M_keeps N σ).bind fun x4 => ((f_M_becomes N (x4.1 66 2) (x4.1 66 3) p0 p1 x4).bind fun x5 => some ((x5.1 66 9), x5))) else some ((-2 : Int32), σ)) else some ((-2 : Int32), σ)) else some ((-2 : Int32), σ))
set_option maxRecDepth 20000 in
set_option maxHeartbeats 4000000 in
theorem c_M_within (d : Nat) {N : Nat} (p0 : Int32) (p1 : Int32) (σ : aSt) {P : Option Value → aSt → Prop} {x : (Int32 × aSt)} (h : f_M_within N p0 p1 σ = some x) (hp : P (some (.int x.1)) x.2) : aCall MT (d + 5) 255 [.ref 66, .int p0, .int p1] σ P := by
  unfold f_M_within at h
  refine call_of (code := mc_M_within) (L := [some (.ref 66), some (.int p0), some (.int p1)]) rfl rfl rfl rfl ?_
  refine go_ifz (b := (σ.2.2 66 1)) (k1 := 15) (L1 := [some (.ref 66), some (.int p0), some (.int p1)]) (S1 := []) (σ1 := σ) (k2 := 3) (L2 := [some (.ref 66), some (.int p0), some (.int p1)]) (S2 := []) (σ2 := σ) 3 (fun n h => h) (fun hc1 => ?_) (fun hc1 => ?_)
  · rw [if_neg hc1] at h
    cases h
    exact go_ret 2 (fun _ => hp)
  · rw [if_pos hc1] at h
    refine go_call (r := some (.int (b2i (f_M_in p0.toInt64 (1 : Int64) (1000 : Int64))))) (σc := σ) (σ1 := σ) (mi := 7) (vs := [.long p0.toInt64, .long (1 : Int64), .long (1000 : Int64)]) (k' := 8) (L' := [some (.ref 66), some (.int p0), some (.int p1)]) (S' := []) 5 (fun P9 h9 => c_M_in (d + 3) p0.toInt64 (1 : Int64) (1000 : Int64) σ h9) (fun n h => h) ?_
    refine go_ifz (b := (f_M_in p0.toInt64 (1 : Int64) (1000 : Int64))) (k1 := 15) (L1 := [some (.ref 66), some (.int p0), some (.int p1)]) (S1 := []) (σ1 := σ) (k2 := 9) (L2 := [some (.ref 66), some (.int p0), some (.int p1)]) (S2 := []) (σ2 := σ) 1 (fun n h => h) (fun hc2 => ?_) (fun hc2 => ?_)
    · rw [if_neg hc2] at h
      cases h
      exact go_ret 2 (fun _ => hp)
    · rw [if_pos hc2] at h
      refine go_call (r := some (.int (b2i (f_M_in p1.toInt64 (1 : Int64) (6 : Int64))))) (σc := σ) (σ1 := σ) (mi := 7) (vs := [.long p1.toInt64, .long (1 : Int64), .long (6 : Int64)]) (k' := 14) (L' := [some (.ref 66), some (.int p0), some (.int p1)]) (S' := []) 5 (fun P9 h9 => c_M_in (d + 3) p1.toInt64 (1 : Int64) (6 : Int64) σ h9) (fun n h => h) ?_
      refine go_ifn (b := (f_M_in p1.toInt64 (1 : Int64) (6 : Int64))) (k1 := 17) (L1 := [some (.ref 66), some (.int p0), some (.int p1)]) (S1 := []) (σ1 := σ) (k2 := 15) (L2 := [some (.ref 66), some (.int p0), some (.int p1)]) (S2 := []) (σ2 := σ) 1 (fun n h => h) (fun hc3 => ?_) (fun hc3 => ?_)
      · rw [if_pos hc3] at h
        obtain ⟨x4, hx4, h⟩ := bind_of h
        refine go_call (r := none) (σc := σ) (σ1 := x4) (mi := 249) (vs := [.ref 66]) (k' := 19) (L' := [some (.ref 66), some (.int p0), some (.int p1)]) (S' := []) 2 (fun P9 h9 => c_M_keeps (d + 3) σ hx4 h9) (fun n h => h) ?_
        obtain ⟨x5, hx5, h⟩ := bind_of h
        refine go_call (r := none) (σc := x4) (σ1 := x5) (mi := 62) (vs := [.ref 66, .int (x4.1 66 2), .int (x4.1 66 3), .int p0, .int p1]) (k' := 27) (L' := [some (.ref 66), some (.int p0), some (.int p1)]) (S' := []) 8 (fun P9 h9 => c_M_becomes (d + 0) (x4.1 66 2) (x4.1 66 3) p0 p1 x4 hx5 h9) (fun n h => h) ?_
        cases h
        exact go_ret 3 (fun _ => hp)
      · rw [if_neg hc3] at h
        cases h
        exact go_ret 2 (fun _ => hp)
def f_M_puts (N : Nat) (p0 : Int32) (σ : aSt) : Option aSt :=
  (if 0 ≤ (σ.1 66 57) ∧ (σ.1 66 57) < (100 : Int32) then some (s_i (s_i σ 86 (σ.1 66 57).toNatClampNeg p0.toInt8.toInt32.toInt8.toInt32) 66 57 ((σ.1 66 57) + (1 : Int32))) else none)
set_option maxRecDepth 20000 in
set_option maxHeartbeats 4000000 in
theorem c_M_puts (d : Nat) {N : Nat} (p0 : Int32) (σ : aSt) {P : Option Value → aSt → Prop} {x : aSt} (h : f_M_puts N p0 σ = some x) (hp : P none x) : aCall MT (d + 1) 262 [.ref 66, .int p0] σ P := by
  unfold f_M_puts at h
  refine call_of (code := mc_M_puts) (L := [some (.ref 66), some (.int p0)]) rfl rfl rfl rfl ?_
  obtain ⟨hc1, h⟩ := ite_of h
  refine go_q (Q := inb 2 σ 86 (σ.1 66 57)) (k' := 7) (L' := [some (.ref 66), some (.int p0)]) (S' := []) (σ' := (s_i σ 86 (σ.1 66 57).toNatClampNeg p0.toInt8.toInt32.toInt8.toInt32)) 7 (inb_mk rfl hc1.1 hc1.2) (fun n h => h) ?_
  cases h
  exact go_ret 7 (fun _ => hp)
def f_M_tellsNumber_l23 (N : Nat) : Nat → Int64 → Int64 → aSt → Option aSt
  | 0, _, _, _ => none
  | n + 1, v3, v5, σ => (if v5 ≤ (0 : Int64) then some σ else ((f_M_puts N ((48 : Int32) + (lrem (v3 / v5) (10 : Int64)).toInt32) σ).bind fun x5 => f_M_tellsNumber_l23 N n v3 (v5 / (10 : Int64)) x5))
set_option maxRecDepth 20000 in
set_option maxHeartbeats 4000000 in
theorem t_M_tellsNumber_l23 (d : Nat) {N : Nat} {x : aSt} {P : Option Value → aSt → Prop} (hp : P none x) : ∀ (n : Nat) (d1 d2 : Option Value) (v3 : Int64) (v5 : Int64) (σ : aSt), f_M_tellsNumber_l23 N n v3 v5 σ = some x → aGo (aCall MT (d + 1)) P mc_M_tellsNumber 23 [some (.ref 66), d1, d2, some (.long v3), none, some (.long v5), none] [] σ := by
  intro n
  induction n with
  | zero => intro d1 d2 v3 v5 σ h; cases h
  | succ n ih =>
    intro d1 d2 v3 v5 σ h
    rw [f_M_tellsNumber_l23] at h
    refine go_iff (lcmp_le v5 (0 : Int64)) (k1 := 42) (L1 := [some (.ref 66), d1, d2, some (.long v3), none, some (.long v5), none]) (S1 := []) (σ1 := σ) (k2 := 27) (L2 := [some (.ref 66), d1, d2, some (.long v3), none, some (.long v5), none]) (S2 := []) (σ2 := σ) 4 (fun n h => h) (fun hc4 => ?_) (fun hc4 => ?_)
    · rw [if_pos hc4] at h
      cases h
      exact go_ret 1 (fun _ => hp)
    · rw [if_neg hc4] at h
      refine go_q (Q := ¬ v5 = 0) (k' := 32) (L' := [some (.ref 66), d1, d2, some (.long v3), none, some (.long v5), none]) (S' := [.long (v3 / v5), .int (48 : Int32), .ref 66]) (σ' := σ) 5 (fun q => hc4 (by rw [q]; decide)) (fun n h => h) ?_
      refine go_q (Q := ¬ (10 : Int64) = 0) (k' := 34) (L' := [some (.ref 66), d1, d2, some (.long v3), none, some (.long v5), none]) (S' := [.long (lrem (v3 / v5) (10 : Int64)), .int (48 : Int32), .ref 66]) (σ' := σ) 2 (by decide) (fun n h => h) ?_
      obtain ⟨x5, hx5, h⟩ := bind_of h
      refine go_call (r := none) (σc := σ) (σ1 := x5) (mi := 262) (vs := [.ref 66, .int ((48 : Int32) + (lrem (v3 / v5) (10 : Int64)).toInt32)]) (k' := 37) (L' := [some (.ref 66), d1, d2, some (.long v3), none, some (.long v5), none]) (S' := []) 3 (fun P9 h9 => c_M_puts (d + 0) ((48 : Int32) + (lrem (v3 / v5) (10 : Int64)).toInt32) σ hx5 h9) (fun n h => h) ?_
      refine go_q (Q := ¬ (10 : Int64) = 0) (k' := 40) (L' := [some (.ref 66), d1, d2, some (.long v3), none, some (.long v5), none]) (S' := [.long (v5 / (10 : Int64))]) (σ' := x5) 3 (by decide) (fun n h => h) ?_
      refine go_st (k' := 23) (L' := [some (.ref 66), d1, d2, some (.long v3), none, some (.long (v5 / (10 : Int64))), none]) (S' := []) (σ' := x5) 2 (fun n h => h) ?_
      exact ih _ _ v3 (v5 / (10 : Int64)) x5 h
def f_M_tellsNumber_l12 (N : Nat) : Nat → Int64 → Int64 → aSt → Option aSt
  | 0, _, _, _ => none
  | n + 1, v3, v5, σ => (if ¬ v5 = 0 then (if (v3 / v5) < (10 : Int64) then f_M_tellsNumber_l23 N N v3 v5 σ else f_M_tellsNumber_l12 N n v3 (v5 * (10 : Int64)) σ) else none)
set_option maxRecDepth 20000 in
set_option maxHeartbeats 4000000 in
theorem t_M_tellsNumber_l12 (d : Nat) {N : Nat} {x : aSt} {P : Option Value → aSt → Prop} (hp : P none x) : ∀ (n : Nat) (d1 d2 : Option Value) (v3 : Int64) (v5 : Int64) (σ : aSt), f_M_tellsNumber_l12 N n v3 v5 σ = some x → aGo (aCall MT (d + 1)) P mc_M_tellsNumber 12 [some (.ref 66), d1, d2, some (.long v3), none, some (.long v5), none] [] σ := by
  intro n
  induction n with
  | zero => intro d1 d2 v3 v5 σ h; cases h
  | succ n ih =>
    intro d1 d2 v3 v5 σ h
    rw [f_M_tellsNumber_l12] at h
    obtain ⟨hc2, h⟩ := ite_of h
    refine go_q (Q := ¬ v5 = 0) (k' := 15) (L' := [some (.ref 66), d1, d2, some (.long v3), none, some (.long v5), none]) (S' := [.long (v3 / v5)]) (σ' := σ) 3 hc2 (fun n h => h) ?_
    refine go_iff (lcmp_lt (v3 / v5) (10 : Int64)) (k1 := 23) (L1 := [some (.ref 66), d1, d2, some (.long v3), none, some (.long v5), none]) (S1 := []) (σ1 := σ) (k2 := 18) (L2 := [some (.ref 66), d1, d2, some (.long v3), none, some (.long v5), none]) (S2 := []) (σ2 := σ) 3 (fun n h => h) (fun hc3 => ?_) (fun hc3 => ?_)
    · rw [if_pos hc3] at h
      exact t_M_tellsNumber_l23 d hp N _ _ v3 v5 σ h
    · rw [if_neg hc3] at h
      refine go_st (k' := 12) (L' := [some (.ref 66), d1, d2, some (.long v3), none, some (.long (v5 * (10 : Int64))), none]) (S' := []) (σ' := σ) 5 (fun n h => h) ?_
      exact ih _ _ v3 (v5 * (10 : Int64)) σ h
def f_M_tellsNumber_b7 (N : Nat) (v1 : Int64) (σ : aSt) : Option aSt :=
  f_M_tellsNumber_l12 N N (labs v1) (1 : Int64) σ
set_option maxRecDepth 20000 in
set_option maxHeartbeats 4000000 in
theorem t_M_tellsNumber_b7 (d : Nat) {N : Nat} (d3 d4 d5 d6 : Option Value) (v1 : Int64) (σ : aSt) {P : Option Value → aSt → Prop} {x : aSt} (h : f_M_tellsNumber_b7 N v1 σ = some x) (hp : P none x) : aGo (aCall MT (d + 1)) P mc_M_tellsNumber 7 [some (.ref 66), some (.long v1), none, d3, d4, d5, d6] [] σ := by
  unfold f_M_tellsNumber_b7 at h
  refine go_st (k' := 12) (L' := [some (.ref 66), some (.long v1), none, some (.long (labs v1)), none, some (.long (1 : Int64)), none]) (S' := []) (σ' := σ) 5 (fun n h => h) ?_
  exact t_M_tellsNumber_l12 d hp N _ _ (labs v1) (1 : Int64) σ h
def f_M_tellsNumber (N : Nat) (p0 : Int64) (σ : aSt) : Option aSt :=
  (if (0 : Int64) ≤ p0 then f_M_tellsNumber_b7 N p0 σ else ((f_M_puts N (45 : Int32) σ).bind fun x6 => f_M_tellsNumber_b7 N p0 x6))
set_option maxRecDepth 20000 in
set_option maxHeartbeats 4000000 in
theorem c_M_tellsNumber (d : Nat) {N : Nat} (p0 : Int64) (σ : aSt) {P : Option Value → aSt → Prop} {x : aSt} (h : f_M_tellsNumber N p0 σ = some x) (hp : P none x) : aCall MT (d + 2) 263 [.ref 66, .long p0] σ P := by
  unfold f_M_tellsNumber at h
  refine call_of (code := mc_M_tellsNumber) (L := [some (.ref 66), some (.long p0), none, none, none, none, none]) rfl rfl rfl rfl ?_
  refine go_iff (lcmp_ge p0 (0 : Int64)) (k1 := 7) (L1 := [some (.ref 66), some (.long p0), none, none, none, none, none]) (S1 := []) (σ1 := σ) (k2 := 4) (L2 := [some (.ref 66), some (.long p0), none, none, none, none, none]) (S2 := []) (σ2 := σ) 4 (fun n h => h) (fun hc1 => ?_) (fun hc1 => ?_)
  · rw [if_pos hc1] at h
    exact t_M_tellsNumber_b7 d _ _ _ _ p0 σ h hp
  · rw [if_neg hc1] at h
    obtain ⟨x6, hx6, h⟩ := bind_of h
    refine go_call (r := none) (σc := σ) (σ1 := x6) (mi := 262) (vs := [.ref 66, .int (45 : Int32)]) (k' := 7) (L' := [some (.ref 66), some (.long p0), none, none, none, none, none]) (S' := []) 3 (fun P9 h9 => c_M_puts (d + 0) (45 : Int32) σ hx6 h9) (fun n h => h) ?_
    exact t_M_tellsNumber_b7 d _ _ _ _ p0 x6 h hp
def f_M_tellsBy (N : Nat) (p0 : Int64) (p1 : Int64) (σ : aSt) : Option aSt :=
  ((f_M_tellsNumber N p0 σ).bind fun x1 => (if p1 ≠ (1 : Int64) then ((f_M_puts N (47 : Int32) x1).bind fun x3 => ((f_M_tellsNumber N p1 x3).bind fun x4 => some x4)) else some x1))
set_option maxRecDepth 20000 in
set_option maxHeartbeats 4000000 in
theorem c_M_tellsBy (d : Nat) {N : Nat} (p0 : Int64) (p1 : Int64) (σ : aSt) {P : Option Value → aSt → Prop} {x : aSt} (h : f_M_tellsBy N p0 p1 σ = some x) (hp : P none x) : aCall MT (d + 3) 264 [.ref 66, .long p0, .long p1] σ P := by
  unfold f_M_tellsBy at h
  refine call_of (code := mc_M_tellsBy) (L := [some (.ref 66), some (.long p0), none, some (.long p1), none]) rfl rfl rfl rfl ?_
  obtain ⟨x1, hx1, h⟩ := bind_of h
  refine go_call (r := none) (σc := σ) (σ1 := x1) (mi := 263) (vs := [.ref 66, .long p0]) (k' := 3) (L' := [some (.ref 66), some (.long p0), none, some (.long p1), none]) (S' := []) 3 (fun P9 h9 => c_M_tellsNumber (d + 0) p0 σ hx1 h9) (fun n h => h) ?_
  refine go_iff (lcmp_ne p1 (1 : Int64)) (k1 := 8) (L1 := [some (.ref 66), some (.long p0), none, some (.long p1), none]) (S1 := []) (σ1 := x1) (k2 := 7) (L2 := [some (.ref 66), some (.long p0), none, some (.long p1), none]) (S2 := []) (σ2 := x1) 4 (fun n h => h) (fun hc2 => ?_) (fun hc2 => ?_)
  · rw [if_pos hc2] at h
    obtain ⟨x3, hx3, h⟩ := bind_of h
    refine go_call (r := none) (σc := x1) (σ1 := x3) (mi := 262) (vs := [.ref 66, .int (47 : Int32)]) (k' := 11) (L' := [some (.ref 66), some (.long p0), none, some (.long p1), none]) (S' := []) 3 (fun P9 h9 => c_M_puts (d + 1) (47 : Int32) x1 hx3 h9) (fun n h => h) ?_
    obtain ⟨x4, hx4, h⟩ := bind_of h
    refine go_call (r := none) (σc := x3) (σ1 := x4) (mi := 263) (vs := [.ref 66, .long p1]) (k' := 14) (L' := [some (.ref 66), some (.long p0), none, some (.long p1), none]) (S' := []) 3 (fun P9 h9 => c_M_tellsNumber (d + 0) p1 x3 hx4 h9) (fun n h => h) ?_
    cases h
    exact go_ret 1 (fun _ => hp)
  · rw [if_neg hc2] at h
    cases h
    exact go_ret 1 (fun _ => hp)
def f_M_tell (N : Nat) (p0 : Int32) (σ : aSt) : Option (Int32 × aSt) :=
  (if (f_M_isPoint p0 σ) = true then (if p0 ≠ (1000 : Int32) then (if 0 ≤ p0 ∧ p0 < (120 : Int32) then ((f_M_puts N (40 : Int32) (s_i σ 66 57 (0 : Int32))).bind fun x4 => ((f_M_tellsBy N (x4.1 67 p0.toNatClampNeg).toInt64 ((σ.1 69 p0.toNatClampNeg).toInt64 * (σ.1 69 p0.toNatClampNeg).toInt64) x4).bind fun x5 => ((f_M_puts N (44 : Int32) x5).bind fun x6 => ((f_M_puts N (32 : Int32) x6).bind fun x7 => ((f_M_tellsBy N (x7.2.1 68 p0.toNatClampNeg) (((σ.1 69 p0.toNatClampNeg).toInt64 * (σ.1 69 p0.toNatClampNeg).toInt64) * (σ.1 69 p0.toNatClampNeg).toInt64) x7).bind fun x8 => ((f_M_puts N (41 : Int32) x8).bind fun x9 => some ((x9.1 66 57), x9))))))) else none) else ((f_M_puts N (48 : Int32) (s_i σ 66 57 (0 : Int32))).bind fun x10 => some ((x10.1 66 57), x10))) else some ((-2 : Int32), σ))
set_option maxRecDepth 20000 in
set_option maxHeartbeats 4000000 in
theorem c_M_tell (d : Nat) {N : Nat} (p0 : Int32) (σ : aSt) {P : Option Value → aSt → Prop} {x : (Int32 × aSt)} (h : f_M_tell N p0 σ = some x) (hp : P (some (.int x.1)) x.2) : aCall MT (d + 4) 265 [.ref 66, .int p0] σ P := by
  unfold f_M_tell at h
  refine call_of (code := mc_M_tell) (L := [some (.ref 66), some (.int p0), none, none]) rfl rfl rfl rfl ?_
  refine go_call (r := some (.int (b2i (f_M_isPoint p0 σ)))) (σc := σ) (σ1 := σ) (mi := 90) (vs := [.ref 66, .int p0]) (k' := 3) (L' := [some (.ref 66), some (.int p0), none, none]) (S' := []) 3 (fun P9 h9 => c_M_isPoint (d + 0) p0 σ h9) (fun n h => h) ?_
  refine go_ifn (b := (f_M_isPoint p0 σ)) (k1 := 6) (L1 := [some (.ref 66), some (.int p0), none, none]) (S1 := []) (σ1 := σ) (k2 := 4) (L2 := [some (.ref 66), some (.int p0), none, none]) (S2 := []) (σ2 := σ) 1 (fun n h => h) (fun hc1 => ?_) (fun hc1 => ?_)
  · rw [if_pos hc1] at h
    refine go_if (c := p0 ≠ (1000 : Int32)) (k1 := 18) (L1 := [some (.ref 66), some (.int p0), none, none]) (S1 := []) (σ1 := (s_i σ 66 57 (0 : Int32))) (k2 := 12) (L2 := [some (.ref 66), some (.int p0), none, none]) (S2 := []) (σ2 := (s_i σ 66 57 (0 : Int32))) 6 (fun n h => h) (fun hc2 => ?_) (fun hc2 => ?_)
    · rw [if_pos hc2] at h
      obtain ⟨hc3, h⟩ := ite_of h
      refine go_q (Q := inb 0 (s_i σ 66 57 (0 : Int32)) 69 p0) (k' := 22) (L' := [some (.ref 66), some (.int p0), none, none]) (S' := [.int (σ.1 69 p0.toNatClampNeg)]) (σ' := (s_i σ 66 57 (0 : Int32))) 4 (inb_mk rfl hc3.1 hc3.2) (fun n h => h) ?_
      obtain ⟨x4, hx4, h⟩ := bind_of h
      refine go_call (r := none) (σc := (s_i σ 66 57 (0 : Int32))) (σ1 := x4) (mi := 262) (vs := [.ref 66, .int (40 : Int32)]) (k' := 27) (L' := [some (.ref 66), some (.int p0), some (.long (σ.1 69 p0.toNatClampNeg).toInt64), none]) (S' := []) 5 (fun P9 h9 => c_M_puts (d + 2) (40 : Int32) (s_i σ 66 57 (0 : Int32)) hx4 h9) (fun n h => h) ?_
      refine go_q (Q := inb 0 x4 67 p0) (k' := 32) (L' := [some (.ref 66), some (.int p0), some (.long (σ.1 69 p0.toNatClampNeg).toInt64), none]) (S' := [.int (x4.1 67 p0.toNatClampNeg), .ref 66]) (σ' := x4) 5 (inb_mk rfl hc3.1 hc3.2) (fun n h => h) ?_
      obtain ⟨x5, hx5, h⟩ := bind_of h
      refine go_call (r := none) (σc := x4) (σ1 := x5) (mi := 264) (vs := [.ref 66, .long (x4.1 67 p0.toNatClampNeg).toInt64, .long ((σ.1 69 p0.toNatClampNeg).toInt64 * (σ.1 69 p0.toNatClampNeg).toInt64)]) (k' := 37) (L' := [some (.ref 66), some (.int p0), some (.long (σ.1 69 p0.toNatClampNeg).toInt64), none]) (S' := []) 5 (fun P9 h9 => c_M_tellsBy (d + 0) (x4.1 67 p0.toNatClampNeg).toInt64 ((σ.1 69 p0.toNatClampNeg).toInt64 * (σ.1 69 p0.toNatClampNeg).toInt64) x4 hx5 h9) (fun n h => h) ?_
      obtain ⟨x6, hx6, h⟩ := bind_of h
      refine go_call (r := none) (σc := x5) (σ1 := x6) (mi := 262) (vs := [.ref 66, .int (44 : Int32)]) (k' := 40) (L' := [some (.ref 66), some (.int p0), some (.long (σ.1 69 p0.toNatClampNeg).toInt64), none]) (S' := []) 3 (fun P9 h9 => c_M_puts (d + 2) (44 : Int32) x5 hx6 h9) (fun n h => h) ?_
      obtain ⟨x7, hx7, h⟩ := bind_of h
      refine go_call (r := none) (σc := x6) (σ1 := x7) (mi := 262) (vs := [.ref 66, .int (32 : Int32)]) (k' := 43) (L' := [some (.ref 66), some (.int p0), some (.long (σ.1 69 p0.toNatClampNeg).toInt64), none]) (S' := []) 3 (fun P9 h9 => c_M_puts (d + 2) (32 : Int32) x6 hx7 h9) (fun n h => h) ?_
      refine go_q (Q := inb 1 x7 68 p0) (k' := 48) (L' := [some (.ref 66), some (.int p0), some (.long (σ.1 69 p0.toNatClampNeg).toInt64), none]) (S' := [.long (x7.2.1 68 p0.toNatClampNeg), .ref 66]) (σ' := x7) 5 (inb_mk rfl hc3.1 hc3.2) (fun n h => h) ?_
      obtain ⟨x8, hx8, h⟩ := bind_of h
      refine go_call (r := none) (σc := x7) (σ1 := x8) (mi := 264) (vs := [.ref 66, .long (x7.2.1 68 p0.toNatClampNeg), .long (((σ.1 69 p0.toNatClampNeg).toInt64 * (σ.1 69 p0.toNatClampNeg).toInt64) * (σ.1 69 p0.toNatClampNeg).toInt64)]) (k' := 54) (L' := [some (.ref 66), some (.int p0), some (.long (σ.1 69 p0.toNatClampNeg).toInt64), none]) (S' := []) 6 (fun P9 h9 => c_M_tellsBy (d + 0) (x7.2.1 68 p0.toNatClampNeg) (((σ.1 69 p0.toNatClampNeg).toInt64 * (σ.1 69 p0.toNatClampNeg).toInt64) * (σ.1 69 p0.toNatClampNeg).toInt64) x7 hx8 h9) (fun n h => h) ?_
      obtain ⟨x9, hx9, h⟩ := bind_of h
      refine go_call (r := none) (σc := x8) (σ1 := x9) (mi := 262) (vs := [.ref 66, .int (41 : Int32)]) (k' := 57) (L' := [some (.ref 66), some (.int p0), some (.long (σ.1 69 p0.toNatClampNeg).toInt64), none]) (S' := []) 3 (fun P9 h9 => c_M_puts (d + 2) (41 : Int32) x8 hx9 h9) (fun n h => h) ?_
      cases h
      exact go_ret 3 (fun _ => hp)
    · rw [if_neg hc2] at h
      obtain ⟨x10, hx10, h⟩ := bind_of h
      refine go_call (r := none) (σc := (s_i σ 66 57 (0 : Int32))) (σ1 := x10) (mi := 262) (vs := [.ref 66, .int (48 : Int32)]) (k' := 15) (L' := [some (.ref 66), some (.int p0), none, none]) (S' := []) 3 (fun P9 h9 => c_M_puts (d + 2) (48 : Int32) (s_i σ 66 57 (0 : Int32)) hx10 h9) (fun n h => h) ?_
      cases h
      exact go_ret 3 (fun _ => hp)
  · rw [if_neg hc1] at h
    cases h
    exact go_ret 2 (fun _ => hp)
def f_M_octet (N : Nat) (p0 : Int32) (σ : aSt) : Option Int32 :=
  (if (f_M_in p0.toInt64 (0 : Int64) ((σ.1 66 57) - (1 : Int32)).toInt64) = true then (if 0 ≤ p0 ∧ p0 < (100 : Int32) then some (σ.1 86 p0.toNatClampNeg) else none) else some (-1 : Int32))
set_option maxRecDepth 20000 in
set_option maxHeartbeats 4000000 in
theorem c_M_octet (d : Nat) {N : Nat} (p0 : Int32) (σ : aSt) {P : Option Value → aSt → Prop} {x : Int32} (h : f_M_octet N p0 σ = some x) (hp : P (some (.int x)) σ) : aCall MT (d + 2) 268 [.ref 66, .int p0] σ P := by
  unfold f_M_octet at h
  refine call_of (code := mc_M_octet) (L := [some (.ref 66), some (.int p0)]) rfl rfl rfl rfl ?_
  refine go_call (r := some (.int (b2i (f_M_in p0.toInt64 (0 : Int64) ((σ.1 66 57) - (1 : Int32)).toInt64)))) (σc := σ) (σ1 := σ) (mi := 7) (vs := [.long p0.toInt64, .long (0 : Int64), .long ((σ.1 66 57) - (1 : Int32)).toInt64]) (k' := 9) (L' := [some (.ref 66), some (.int p0)]) (S' := []) 9 (fun P9 h9 => c_M_in (d + 0) p0.toInt64 (0 : Int64) ((σ.1 66 57) - (1 : Int32)).toInt64 σ h9) (fun n h => h) ?_
  refine go_ifz (b := (f_M_in p0.toInt64 (0 : Int64) ((σ.1 66 57) - (1 : Int32)).toInt64)) (k1 := 15) (L1 := [some (.ref 66), some (.int p0)]) (S1 := []) (σ1 := σ) (k2 := 10) (L2 := [some (.ref 66), some (.int p0)]) (S2 := []) (σ2 := σ) 1 (fun n h => h) (fun hc1 => ?_) (fun hc1 => ?_)
  · rw [if_neg hc1] at h
    cases h
    exact go_ret 2 (fun _ => hp)
  · rw [if_pos hc1] at h
    obtain ⟨hc2, h⟩ := ite_of h
    refine go_q (Q := inb 2 σ 86 p0) (k' := 14) (L' := [some (.ref 66), some (.int p0)]) (S' := [.int (σ.1 86 p0.toNatClampNeg)]) (σ' := σ) 4 (inb_mk rfl hc2.1 hc2.2) (fun n h => h) ?_
    cases h
    exact go_ret 2 (fun _ => hp)
def f_M_half_l12 (N : Nat) : Nat → Int32 → Int32 → Int32 → Int32 → aSt → Option (Int32 × aSt)
  | 0, _, _, _, _, _ => none
  | n + 1, v1, v2, v3, v4, σ => (if (σ.1 66 9) ≤ v4 then some ((-1 : Int32), σ) else ((f_M_sumOf N v4 v4 (1 : Int32) σ).bind fun x4 => (if x4.1 = v1 then (if v3 ≠ v2 then f_M_half_l12 N n v1 v2 (v3 + (1 : Int32)) (v4 + (1 : Int32)) x4.2 else some (v4, x4.2)) else f_M_half_l12 N n v1 v2 v3 (v4 + (1 : Int32)) x4.2)))
set_option maxRecDepth 20000 in
set_option maxHeartbeats 4000000 in
theorem t_M_half_l12 (d : Nat) {N : Nat} {x : (Int32 × aSt)} {P : Option Value → aSt → Prop} (hp : P (some (.int x.1)) x.2) : ∀ (n : Nat) (v1 : Int32) (v2 : Int32) (v3 : Int32) (v4 : Int32) (σ : aSt), f_M_half_l12 N n v1 v2 v3 v4 σ = some x → aGo (aCall MT (d + 4)) P mc_M_half 12 [some (.ref 66), some (.int v1), some (.int v2), some (.int v3), some (.int v4)] [] σ := by
  intro n
  induction n with
  | zero => intro v1 v2 v3 v4 σ h; cases h
  | succ n ih =>
    intro v1 v2 v3 v4 σ h
    rw [f_M_half_l12] at h
    refine go_if (c := (σ.1 66 9) ≤ v4) (k1 := 32) (L1 := [some (.ref 66), some (.int v1), some (.int v2), some (.int v3), some (.int v4)]) (S1 := []) (σ1 := σ) (k2 := 16) (L2 := [some (.ref 66), some (.int v1), some (.int v2), some (.int v3), some (.int v4)]) (S2 := []) (σ2 := σ) 4 (fun n h => h) (fun hc3 => ?_) (fun hc3 => ?_)
    · rw [if_pos hc3] at h
      cases h
      exact go_ret 2 (fun _ => hp)
    · rw [if_neg hc3] at h
      obtain ⟨x4, hx4, h⟩ := bind_of h
      refine go_call (r := some (.int x4.1)) (σc := σ) (σ1 := x4.2) (mi := 105) (vs := [.ref 66, .int v4, .int v4, .int (1 : Int32)]) (k' := 21) (L' := [some (.ref 66), some (.int v1), some (.int v2), some (.int v3), some (.int v4)]) (S' := []) 5 (fun P9 h9 => c_M_sumOf (d + 0) v4 v4 (1 : Int32) σ hx4 h9) (fun n h => h) ?_
      refine go_if (c := x4.1 = v1) (k1 := 24) (L1 := [some (.ref 66), some (.int v1), some (.int v2), some (.int v3), some (.int v4)]) (S1 := []) (σ1 := x4.2) (k2 := 23) (L2 := [some (.ref 66), some (.int v1), some (.int v2), some (.int v3), some (.int v4)]) (S2 := []) (σ2 := x4.2) 2 (fun n h => h) (fun hc5 => ?_) (fun hc5 => ?_)
      · rw [if_pos hc5] at h
        refine go_if (c := v3 ≠ v2) (k1 := 29) (L1 := [some (.ref 66), some (.int v1), some (.int v2), some (.int v3), some (.int v4)]) (S1 := []) (σ1 := x4.2) (k2 := 27) (L2 := [some (.ref 66), some (.int v1), some (.int v2), some (.int v3), some (.int v4)]) (S2 := []) (σ2 := x4.2) 3 (fun n h => h) (fun hc6 => ?_) (fun hc6 => ?_)
        · rw [if_pos hc6] at h
          refine go_st (k' := 12) (L' := [some (.ref 66), some (.int v1), some (.int v2), some (.int (v3 + (1 : Int32))), some (.int (v4 + (1 : Int32)))]) (S' := []) (σ' := x4.2) 3 (fun n h => h) ?_
          exact ih v1 v2 (v3 + (1 : Int32)) (v4 + (1 : Int32)) x4.2 h
        · rw [if_neg hc6] at h
          cases h
          exact go_ret 2 (fun _ => hp)
      · rw [if_neg hc5] at h
        refine go_st (k' := 12) (L' := [some (.ref 66), some (.int v1), some (.int v2), some (.int v3), some (.int (v4 + (1 : Int32)))]) (S' := []) (σ' := x4.2) 3 (fun n h => h) ?_
        exact ih v1 v2 v3 (v4 + (1 : Int32)) x4.2 h
def f_M_half (N : Nat) (p0 : Int32) (p1 : Int32) (σ : aSt) : Option (Int32 × aSt) :=
  (if (f_M_isPoint p0 σ) = true then (if 0 ≤ p1 then f_M_half_l12 N N p0 p1 (0 : Int32) (0 : Int32) σ else some ((-2 : Int32), σ)) else some ((-2 : Int32), σ))
set_option maxRecDepth 20000 in
set_option maxHeartbeats 4000000 in
theorem c_M_half (d : Nat) {N : Nat} (p0 : Int32) (p1 : Int32) (σ : aSt) {P : Option Value → aSt → Prop} {x : (Int32 × aSt)} (h : f_M_half N p0 p1 σ = some x) (hp : P (some (.int x.1)) x.2) : aCall MT (d + 5) 270 [.ref 66, .int p0, .int p1] σ P := by
  unfold f_M_half at h
  refine call_of (code := mc_M_half) (L := [some (.ref 66), some (.int p0), some (.int p1), none, none]) rfl rfl rfl rfl ?_
  refine go_call (r := some (.int (b2i (f_M_isPoint p0 σ)))) (σc := σ) (σ1 := σ) (mi := 90) (vs := [.ref 66, .int p0]) (k' := 3) (L' := [some (.ref 66), some (.int p0), some (.int p1), none, none]) (S' := []) 3 (fun P9 h9 => c_M_isPoint (d + 1) p0 σ h9) (fun n h => h) ?_
  refine go_ifz (b := (f_M_isPoint p0 σ)) (k1 := 6) (L1 := [some (.ref 66), some (.int p0), some (.int p1), none, none]) (S1 := []) (σ1 := σ) (k2 := 4) (L2 := [some (.ref 66), some (.int p0), some (.int p1), none, none]) (S2 := []) (σ2 := σ) 1 (fun n h => h) (fun hc1 => ?_) (fun hc1 => ?_)
  · rw [if_neg hc1] at h
    cases h
    exact go_ret 2 (fun _ => hp)
  · rw [if_pos hc1] at h
    refine go_if (c := 0 ≤ p1) (k1 := 8) (L1 := [some (.ref 66), some (.int p0), some (.int p1), none, none]) (S1 := []) (σ1 := σ) (k2 := 6) (L2 := [some (.ref 66), some (.int p0), some (.int p1), none, none]) (S2 := []) (σ2 := σ) 2 (fun n h => h) (fun hc2 => ?_) (fun hc2 => ?_)
    · rw [if_pos hc2] at h
      refine go_st (k' := 12) (L' := [some (.ref 66), some (.int p0), some (.int p1), some (.int (0 : Int32)), some (.int (0 : Int32))]) (S' := []) (σ' := σ) 4 (fun n h => h) ?_
      exact t_M_half_l12 d hp N p0 p1 (0 : Int32) (0 : Int32) σ h
    · rw [if_neg hc2] at h
      cases h
      exact go_ret 2 (fun _ => hp)
def f_M_areTurned (N : Nat) (p0 : Int32) (p1 : Int32) (σ : aSt) : Option Bool :=
  (if p0 = (1000 : Int32) then (if p0 ≠ p1 then some false else some true) else (if p1 ≠ (1000 : Int32) then (if 0 ≤ p0 ∧ p0 < (120 : Int32) then (if 0 ≤ p1 ∧ p1 < (120 : Int32) then (if (σ.1 67 p0.toNatClampNeg) ≠ (σ.1 67 p1.toNatClampNeg) then some false else (if (σ.1 69 p0.toNatClampNeg) ≠ (σ.1 69 p1.toNatClampNeg) then some false else (if (σ.2.1 68 p0.toNatClampNeg) ≠ (-(σ.2.1 68 p1.toNatClampNeg)) then some false else some true))) else none) else none) else (if p0 ≠ p1 then some false else some true)))
set_option maxRecDepth 20000 in
set_option maxHeartbeats 4000000 in
theorem c_M_areTurned (d : Nat) {N : Nat} (p0 : Int32) (p1 : Int32) (σ : aSt) {P : Option Value → aSt → Prop} {x : Bool} (h : f_M_areTurned N p0 p1 σ = some x) (hp : P (some (.int (b2i x))) σ) : aCall MT (d + 1) 272 [.ref 66, .int p0, .int p1] σ P := by
  unfold f_M_areTurned at h
  refine call_of (code := mc_M_areTurned) (L := [some (.ref 66), some (.int p0), some (.int p1)]) rfl rfl rfl rfl ?_
  refine go_if (c := p0 = (1000 : Int32)) (k1 := 6) (L1 := [some (.ref 66), some (.int p0), some (.int p1)]) (S1 := []) (σ1 := σ) (k2 := 3) (L2 := [some (.ref 66), some (.int p0), some (.int p1)]) (S2 := []) (σ2 := σ) 3 (fun n h => h) (fun hc1 => ?_) (fun hc1 => ?_)
  · rw [if_pos hc1] at h
    refine go_if (c := p0 ≠ p1) (k1 := 11) (L1 := [some (.ref 66), some (.int p0), some (.int p1)]) (S1 := []) (σ1 := σ) (k2 := 9) (L2 := [some (.ref 66), some (.int p0), some (.int p1)]) (S2 := []) (σ2 := σ) 3 (fun n h => h) (fun hc2 => ?_) (fun hc2 => ?_)
    · rw [if_pos hc2] at h
      cases h
      exact go_ret 2 (fun _ => And.intro (Or.inl rfl) hp)
    · rw [if_neg hc2] at h
      cases h
      exact go_ret 3 (fun _ => And.intro (Or.inr rfl) hp)
  · rw [if_neg hc1] at h
    refine go_if (c := p1 ≠ (1000 : Int32)) (k1 := 13) (L1 := [some (.ref 66), some (.int p0), some (.int p1)]) (S1 := []) (σ1 := σ) (k2 := 6) (L2 := [some (.ref 66), some (.int p0), some (.int p1)]) (S2 := []) (σ2 := σ) 3 (fun n h => h) (fun hc3 => ?_) (fun hc3 => ?_)
    · rw [if_pos hc3] at h
      obtain ⟨hc4, h⟩ := ite_of h
      refine go_q (Q := inb 0 σ 67 p0) (k' := 17) (L' := [some (.ref 66), some (.int p0), some (.int p1)]) (S' := [.int (σ.1 67 p0.toNatClampNeg)]) (σ' := σ) 4 (inb_mk rfl hc4.1 hc4.2) (fun n h => h) ?_
      obtain ⟨hc5, h⟩ := ite_of h
      refine go_q (Q := inb 0 σ 67 p1) (k' := 21) (L' := [some (.ref 66), some (.int p0), some (.int p1)]) (S' := [.int (σ.1 67 p1.toNatClampNeg), .int (σ.1 67 p0.toNatClampNeg)]) (σ' := σ) 4 (inb_mk rfl hc5.1 hc5.2) (fun n h => h) ?_
      refine go_if (c := (σ.1 67 p0.toNatClampNeg) ≠ (σ.1 67 p1.toNatClampNeg)) (k1 := 44) (L1 := [some (.ref 66), some (.int p0), some (.int p1)]) (S1 := []) (σ1 := σ) (k2 := 22) (L2 := [some (.ref 66), some (.int p0), some (.int p1)]) (S2 := []) (σ2 := σ) 1 (fun n h => h) (fun hc6 => ?_) (fun hc6 => ?_)
      · rw [if_pos hc6] at h
        cases h
        exact go_ret 2 (fun _ => And.intro (Or.inl rfl) hp)
      · rw [if_neg hc6] at h
        refine go_q (Q := inb 0 σ 69 p0) (k' := 26) (L' := [some (.ref 66), some (.int p0), some (.int p1)]) (S' := [.int (σ.1 69 p0.toNatClampNeg)]) (σ' := σ) 4 (inb_mk rfl hc4.1 hc4.2) (fun n h => h) ?_
        refine go_q (Q := inb 0 σ 69 p1) (k' := 30) (L' := [some (.ref 66), some (.int p0), some (.int p1)]) (S' := [.int (σ.1 69 p1.toNatClampNeg), .int (σ.1 69 p0.toNatClampNeg)]) (σ' := σ) 4 (inb_mk rfl hc5.1 hc5.2) (fun n h => h) ?_
        refine go_if (c := (σ.1 69 p0.toNatClampNeg) ≠ (σ.1 69 p1.toNatClampNeg)) (k1 := 44) (L1 := [some (.ref 66), some (.int p0), some (.int p1)]) (S1 := []) (σ1 := σ) (k2 := 31) (L2 := [some (.ref 66), some (.int p0), some (.int p1)]) (S2 := []) (σ2 := σ) 1 (fun n h => h) (fun hc7 => ?_) (fun hc7 => ?_)
        · rw [if_pos hc7] at h
          cases h
          exact go_ret 2 (fun _ => And.intro (Or.inl rfl) hp)
        · rw [if_neg hc7] at h
          refine go_q (Q := inb 1 σ 68 p0) (k' := 35) (L' := [some (.ref 66), some (.int p0), some (.int p1)]) (S' := [.long (σ.2.1 68 p0.toNatClampNeg)]) (σ' := σ) 4 (inb_mk rfl hc4.1 hc4.2) (fun n h => h) ?_
          refine go_q (Q := inb 1 σ 68 p1) (k' := 39) (L' := [some (.ref 66), some (.int p0), some (.int p1)]) (S' := [.long (σ.2.1 68 p1.toNatClampNeg), .long (σ.2.1 68 p0.toNatClampNeg)]) (σ' := σ) 4 (inb_mk rfl hc5.1 hc5.2) (fun n h => h) ?_
          refine go_iff (lcmp_ne (σ.2.1 68 p0.toNatClampNeg) (-(σ.2.1 68 p1.toNatClampNeg))) (k1 := 44) (L1 := [some (.ref 66), some (.int p0), some (.int p1)]) (S1 := []) (σ1 := σ) (k2 := 42) (L2 := [some (.ref 66), some (.int p0), some (.int p1)]) (S2 := []) (σ2 := σ) 3 (fun n h => h) (fun hc8 => ?_) (fun hc8 => ?_)
          · rw [if_pos hc8] at h
            cases h
            exact go_ret 2 (fun _ => And.intro (Or.inl rfl) hp)
          · rw [if_neg hc8] at h
            cases h
            exact go_ret 3 (fun _ => And.intro (Or.inr rfl) hp)
    · rw [if_neg hc3] at h
      refine go_if (c := p0 ≠ p1) (k1 := 11) (L1 := [some (.ref 66), some (.int p0), some (.int p1)]) (S1 := []) (σ1 := σ) (k2 := 9) (L2 := [some (.ref 66), some (.int p0), some (.int p1)]) (S2 := []) (σ2 := σ) 3 (fun n h => h) (fun hc9 => ?_) (fun hc9 => ?_)
      · rw [if_pos hc9] at h
        cases h
        exact go_ret 2 (fun _ => And.intro (Or.inl rfl) hp)
      · rw [if_neg hc9] at h
        cases h
        exact go_ret 3 (fun _ => And.intro (Or.inr rfl) hp)
def f_M_straight (N : Nat) (p0 : Int32) (p1 : Int32) (p2 : Int32) (σ : aSt) : Option (Int32 × aSt) :=
  (if (f_M_isPoint p0 σ) = true then (if (f_M_isPoint p1 σ) = true then (if (f_M_isPoint p2 σ) = true then (if p0 ≠ (1000 : Int32) then (if p1 = (1000 : Int32) then (if p1 ≠ (1000 : Int32) then ((f_M_areTurned N p0 p1 σ).bind fun x7 => (if x7 = true then some ((1 : Int32), σ) else some ((0 : Int32), σ))) else ((f_M_areTurned N p0 p2 σ).bind fun x9 => (if x9 = true then some ((1 : Int32), σ) else some ((0 : Int32), σ)))) else (if p2 ≠ (1000 : Int32) then ((f_M_joins N p0 p1 (1 : Int32) σ).bind fun x12 => (if (x12.2.2 66 25) = true then some ((0 : Int32), x12) else (if 0 ≤ p2 ∧ p2 < (120 : Int32) then (if (x12.2.1 66 23) ≠ (x12.1 67 p2.toNatClampNeg).toInt64 then some ((0 : Int32), x12) else (if (x12.2.1 66 24) ≠ ((x12.1 69 p2.toNatClampNeg).toInt64 * (x12.1 69 p2.toNatClampNeg).toInt64) then some ((0 : Int32), x12) else (if (x12.2.1 66 27) ≠ (-(x12.2.1 68 p2.toNatClampNeg)) then some ((0 : Int32), x12) else some ((1 : Int32), x12)))) else none))) else (if p1 ≠ (1000 : Int32) then ((f_M_areTurned N p0 p1 σ).bind fun x19 => (if x19 = true then some ((1 : Int32), σ) else some ((0 : Int32), σ))) else ((f_M_areTurned N p0 p2 σ).bind fun x21 => (if x21 = true then some ((1 : Int32), σ) else some ((0 : Int32), σ)))))) else ((f_M_areTurned N p1 p2 σ).bind fun x23 => (if x23 = true then some ((1 : Int32), σ) else some ((0 : Int32), σ)))) else some ((-2 : Int32), σ)) else some ((-2 : Int32), σ)) else some ((-2 : Int32), σ))
set_option maxRecDepth 20000 in
set_option maxHeartbeats 4000000 in
theorem c_M_straight (d : Nat) {N : Nat} (p0 : Int32) (p1 : Int32) (p2 : Int32) (σ : aSt) {P : Option Value → aSt → Prop} {x : (Int32 × aSt)} (h : f_M_straight N p0 p1 p2 σ = some x) (hp : P (some (.int x.1)) x.2) : aCall MT (d + 4) 273 [.ref 66, .int p0, .int p1, .int p2] σ P := by
  unfold f_M_straight at h
  refine call_of (code := mc_M_straight) (L := [some (.ref 66), some (.int p0), some (.int p1), some (.int p2)]) rfl rfl rfl rfl ?_
  refine go_call (r := some (.int (b2i (f_M_isPoint p0 σ)))) (σc := σ) (σ1 := σ) (mi := 90) (vs := [.ref 66, .int p0]) (k' := 3) (L' := [some (.ref 66), some (.int p0), some (.int p1), some (.int p2)]) (S' := []) 3 (fun P9 h9 => c_M_isPoint (d + 0) p0 σ h9) (fun n h => h) ?_
  refine go_ifz (b := (f_M_isPoint p0 σ)) (k1 := 12) (L1 := [some (.ref 66), some (.int p0), some (.int p1), some (.int p2)]) (S1 := []) (σ1 := σ) (k2 := 4) (L2 := [some (.ref 66), some (.int p0), some (.int p1), some (.int p2)]) (S2 := []) (σ2 := σ) 1 (fun n h => h) (fun hc1 => ?_) (fun hc1 => ?_)
  · rw [if_neg hc1] at h
    cases h
    exact go_ret 2 (fun _ => hp)
  · rw [if_pos hc1] at h
    refine go_call (r := some (.int (b2i (f_M_isPoint p1 σ)))) (σc := σ) (σ1 := σ) (mi := 90) (vs := [.ref 66, .int p1]) (k' := 7) (L' := [some (.ref 66), some (.int p0), some (.int p1), some (.int p2)]) (S' := []) 3 (fun P9 h9 => c_M_isPoint (d + 0) p1 σ h9) (fun n h => h) ?_
    refine go_ifz (b := (f_M_isPoint p1 σ)) (k1 := 12) (L1 := [some (.ref 66), some (.int p0), some (.int p1), some (.int p2)]) (S1 := []) (σ1 := σ) (k2 := 8) (L2 := [some (.ref 66), some (.int p0), some (.int p1), some (.int p2)]) (S2 := []) (σ2 := σ) 1 (fun n h => h) (fun hc2 => ?_) (fun hc2 => ?_)
    · rw [if_neg hc2] at h
      cases h
      exact go_ret 2 (fun _ => hp)
    · rw [if_pos hc2] at h
      refine go_call (r := some (.int (b2i (f_M_isPoint p2 σ)))) (σc := σ) (σ1 := σ) (mi := 90) (vs := [.ref 66, .int p2]) (k' := 11) (L' := [some (.ref 66), some (.int p0), some (.int p1), some (.int p2)]) (S' := []) 3 (fun P9 h9 => c_M_isPoint (d + 0) p2 σ h9) (fun n h => h) ?_
      refine go_ifn (b := (f_M_isPoint p2 σ)) (k1 := 14) (L1 := [some (.ref 66), some (.int p0), some (.int p1), some (.int p2)]) (S1 := []) (σ1 := σ) (k2 := 12) (L2 := [some (.ref 66), some (.int p0), some (.int p1), some (.int p2)]) (S2 := []) (σ2 := σ) 1 (fun n h => h) (fun hc3 => ?_) (fun hc3 => ?_)
      · rw [if_pos hc3] at h
        refine go_if (c := p0 ≠ (1000 : Int32)) (k1 := 26) (L1 := [some (.ref 66), some (.int p0), some (.int p1), some (.int p2)]) (S1 := []) (σ1 := σ) (k2 := 17) (L2 := [some (.ref 66), some (.int p0), some (.int p1), some (.int p2)]) (S2 := []) (σ2 := σ) 3 (fun n h => h) (fun hc4 => ?_) (fun hc4 => ?_)
        · rw [if_pos hc4] at h
          refine go_if (c := p1 = (1000 : Int32)) (k1 := 32) (L1 := [some (.ref 66), some (.int p0), some (.int p1), some (.int p2)]) (S1 := []) (σ1 := σ) (k2 := 29) (L2 := [some (.ref 66), some (.int p0), some (.int p1), some (.int p2)]) (S2 := []) (σ2 := σ) 3 (fun n h => h) (fun hc5 => ?_) (fun hc5 => ?_)
          · rw [if_pos hc5] at h
            refine go_if (c := p1 ≠ (1000 : Int32)) (k1 := 39) (L1 := [some (.ref 66), some (.int p0), some (.int p1), some (.int p2)]) (S1 := [.int p0, .ref 66]) (σ1 := σ) (k2 := 37) (L2 := [some (.ref 66), some (.int p0), some (.int p1), some (.int p2)]) (S2 := [.int p0, .ref 66]) (σ2 := σ) 5 (fun n h => h) (fun hc6 => ?_) (fun hc6 => ?_)
            · rw [if_pos hc6] at h
              obtain ⟨x7, hx7, h⟩ := bind_of h
              refine go_call (r := some (.int (b2i x7))) (σc := σ) (σ1 := σ) (mi := 272) (vs := [.ref 66, .int p0, .int p1]) (k' := 41) (L' := [some (.ref 66), some (.int p0), some (.int p1), some (.int p2)]) (S' := []) 2 (fun P9 h9 => c_M_areTurned (d + 2) p0 p1 σ hx7 h9) (fun n h => h) ?_
              refine go_ifz (b := x7) (k1 := 44) (L1 := [some (.ref 66), some (.int p0), some (.int p1), some (.int p2)]) (S1 := []) (σ1 := σ) (k2 := 42) (L2 := [some (.ref 66), some (.int p0), some (.int p1), some (.int p2)]) (S2 := []) (σ2 := σ) 1 (fun n h => h) (fun hc8 => ?_) (fun hc8 => ?_)
              · rw [if_neg hc8] at h
                cases h
                exact go_ret 2 (fun _ => hp)
              · rw [if_pos hc8] at h
                cases h
                exact go_ret 3 (fun _ => hp)
            · rw [if_neg hc6] at h
              obtain ⟨x9, hx9, h⟩ := bind_of h
              refine go_call (r := some (.int (b2i x9))) (σc := σ) (σ1 := σ) (mi := 272) (vs := [.ref 66, .int p0, .int p2]) (k' := 41) (L' := [some (.ref 66), some (.int p0), some (.int p1), some (.int p2)]) (S' := []) 3 (fun P9 h9 => c_M_areTurned (d + 2) p0 p2 σ hx9 h9) (fun n h => h) ?_
              refine go_ifz (b := x9) (k1 := 44) (L1 := [some (.ref 66), some (.int p0), some (.int p1), some (.int p2)]) (S1 := []) (σ1 := σ) (k2 := 42) (L2 := [some (.ref 66), some (.int p0), some (.int p1), some (.int p2)]) (S2 := []) (σ2 := σ) 1 (fun n h => h) (fun hc10 => ?_) (fun hc10 => ?_)
              · rw [if_neg hc10] at h
                cases h
                exact go_ret 2 (fun _ => hp)
              · rw [if_pos hc10] at h
                cases h
                exact go_ret 3 (fun _ => hp)
          · rw [if_neg hc5] at h
            refine go_if (c := p2 ≠ (1000 : Int32)) (k1 := 46) (L1 := [some (.ref 66), some (.int p0), some (.int p1), some (.int p2)]) (S1 := []) (σ1 := σ) (k2 := 32) (L2 := [some (.ref 66), some (.int p0), some (.int p1), some (.int p2)]) (S2 := []) (σ2 := σ) 3 (fun n h => h) (fun hc11 => ?_) (fun hc11 => ?_)
            · rw [if_pos hc11] at h
              obtain ⟨x12, hx12, h⟩ := bind_of h
              refine go_call (r := none) (σc := σ) (σ1 := x12) (mi := 104) (vs := [.ref 66, .int p0, .int p1, .int (1 : Int32)]) (k' := 51) (L' := [some (.ref 66), some (.int p0), some (.int p1), some (.int p2)]) (S' := []) 5 (fun P9 h9 => c_M_joins (d + 0) p0 p1 (1 : Int32) σ hx12 h9) (fun n h => h) ?_
              refine go_ifn (b := (x12.2.2 66 25)) (k1 := 89) (L1 := [some (.ref 66), some (.int p0), some (.int p1), some (.int p2)]) (S1 := []) (σ1 := x12) (k2 := 54) (L2 := [some (.ref 66), some (.int p0), some (.int p1), some (.int p2)]) (S2 := []) (σ2 := x12) 3 (fun n h => h) (fun hc13 => ?_) (fun hc13 => ?_)
              · rw [if_pos hc13] at h
                cases h
                exact go_ret 2 (fun _ => hp)
              · rw [if_neg hc13] at h
                obtain ⟨hc14, h⟩ := ite_of h
                refine go_q (Q := inb 0 x12 67 p2) (k' := 60) (L' := [some (.ref 66), some (.int p0), some (.int p1), some (.int p2)]) (S' := [.int (x12.1 67 p2.toNatClampNeg), .long (x12.2.1 66 23)]) (σ' := x12) 6 (inb_mk rfl hc14.1 hc14.2) (fun n h => h) ?_
                refine go_iff (lcmp_ne (x12.2.1 66 23) (x12.1 67 p2.toNatClampNeg).toInt64) (k1 := 89) (L1 := [some (.ref 66), some (.int p0), some (.int p1), some (.int p2)]) (S1 := []) (σ1 := x12) (k2 := 63) (L2 := [some (.ref 66), some (.int p0), some (.int p1), some (.int p2)]) (S2 := []) (σ2 := x12) 3 (fun n h => h) (fun hc15 => ?_) (fun hc15 => ?_)
                · rw [if_pos hc15] at h
                  cases h
                  exact go_ret 2 (fun _ => hp)
                · rw [if_neg hc15] at h
                  refine go_q (Q := inb 0 x12 69 p2) (k' := 69) (L' := [some (.ref 66), some (.int p0), some (.int p1), some (.int p2)]) (S' := [.int (x12.1 69 p2.toNatClampNeg), .long (x12.2.1 66 24)]) (σ' := x12) 6 (inb_mk rfl hc14.1 hc14.2) (fun n h => h) ?_
                  refine go_q (Q := inb 0 x12 69 p2) (k' := 74) (L' := [some (.ref 66), some (.int p0), some (.int p1), some (.int p2)]) (S' := [.int (x12.1 69 p2.toNatClampNeg), .long (x12.1 69 p2.toNatClampNeg).toInt64, .long (x12.2.1 66 24)]) (σ' := x12) 5 (inb_mk rfl hc14.1 hc14.2) (fun n h => h) ?_
                  refine go_iff (lcmp_ne (x12.2.1 66 24) ((x12.1 69 p2.toNatClampNeg).toInt64 * (x12.1 69 p2.toNatClampNeg).toInt64)) (k1 := 89) (L1 := [some (.ref 66), some (.int p0), some (.int p1), some (.int p2)]) (S1 := []) (σ1 := x12) (k2 := 78) (L2 := [some (.ref 66), some (.int p0), some (.int p1), some (.int p2)]) (S2 := []) (σ2 := x12) 4 (fun n h => h) (fun hc16 => ?_) (fun hc16 => ?_)
                  · rw [if_pos hc16] at h
                    cases h
                    exact go_ret 2 (fun _ => hp)
                  · rw [if_neg hc16] at h
                    refine go_q (Q := inb 1 x12 68 p2) (k' := 84) (L' := [some (.ref 66), some (.int p0), some (.int p1), some (.int p2)]) (S' := [.long (x12.2.1 68 p2.toNatClampNeg), .long (x12.2.1 66 27)]) (σ' := x12) 6 (inb_mk rfl hc14.1 hc14.2) (fun n h => h) ?_
                    refine go_iff (lcmp_ne (x12.2.1 66 27) (-(x12.2.1 68 p2.toNatClampNeg))) (k1 := 89) (L1 := [some (.ref 66), some (.int p0), some (.int p1), some (.int p2)]) (S1 := []) (σ1 := x12) (k2 := 87) (L2 := [some (.ref 66), some (.int p0), some (.int p1), some (.int p2)]) (S2 := []) (σ2 := x12) 3 (fun n h => h) (fun hc17 => ?_) (fun hc17 => ?_)
                    · rw [if_pos hc17] at h
                      cases h
                      exact go_ret 2 (fun _ => hp)
                    · rw [if_neg hc17] at h
                      cases h
                      exact go_ret 3 (fun _ => hp)
            · rw [if_neg hc11] at h
              refine go_if (c := p1 ≠ (1000 : Int32)) (k1 := 39) (L1 := [some (.ref 66), some (.int p0), some (.int p1), some (.int p2)]) (S1 := [.int p0, .ref 66]) (σ1 := σ) (k2 := 37) (L2 := [some (.ref 66), some (.int p0), some (.int p1), some (.int p2)]) (S2 := [.int p0, .ref 66]) (σ2 := σ) 5 (fun n h => h) (fun hc18 => ?_) (fun hc18 => ?_)
              · rw [if_pos hc18] at h
                obtain ⟨x19, hx19, h⟩ := bind_of h
                refine go_call (r := some (.int (b2i x19))) (σc := σ) (σ1 := σ) (mi := 272) (vs := [.ref 66, .int p0, .int p1]) (k' := 41) (L' := [some (.ref 66), some (.int p0), some (.int p1), some (.int p2)]) (S' := []) 2 (fun P9 h9 => c_M_areTurned (d + 2) p0 p1 σ hx19 h9) (fun n h => h) ?_
                refine go_ifz (b := x19) (k1 := 44) (L1 := [some (.ref 66), some (.int p0), some (.int p1), some (.int p2)]) (S1 := []) (σ1 := σ) (k2 := 42) (L2 := [some (.ref 66), some (.int p0), some (.int p1), some (.int p2)]) (S2 := []) (σ2 := σ) 1 (fun n h => h) (fun hc20 => ?_) (fun hc20 => ?_)
                · rw [if_neg hc20] at h
                  cases h
                  exact go_ret 2 (fun _ => hp)
                · rw [if_pos hc20] at h
                  cases h
                  exact go_ret 3 (fun _ => hp)
              · rw [if_neg hc18] at h
                obtain ⟨x21, hx21, h⟩ := bind_of h
                refine go_call (r := some (.int (b2i x21))) (σc := σ) (σ1 := σ) (mi := 272) (vs := [.ref 66, .int p0, .int p2]) (k' := 41) (L' := [some (.ref 66), some (.int p0), some (.int p1), some (.int p2)]) (S' := []) 3 (fun P9 h9 => c_M_areTurned (d + 2) p0 p2 σ hx21 h9) (fun n h => h) ?_
                refine go_ifz (b := x21) (k1 := 44) (L1 := [some (.ref 66), some (.int p0), some (.int p1), some (.int p2)]) (S1 := []) (σ1 := σ) (k2 := 42) (L2 := [some (.ref 66), some (.int p0), some (.int p1), some (.int p2)]) (S2 := []) (σ2 := σ) 1 (fun n h => h) (fun hc22 => ?_) (fun hc22 => ?_)
                · rw [if_neg hc22] at h
                  cases h
                  exact go_ret 2 (fun _ => hp)
                · rw [if_pos hc22] at h
                  cases h
                  exact go_ret 3 (fun _ => hp)
        · rw [if_neg hc4] at h
          obtain ⟨x23, hx23, h⟩ := bind_of h
          refine go_call (r := some (.int (b2i x23))) (σc := σ) (σ1 := σ) (mi := 272) (vs := [.ref 66, .int p1, .int p2]) (k' := 21) (L' := [some (.ref 66), some (.int p0), some (.int p1), some (.int p2)]) (S' := []) 4 (fun P9 h9 => c_M_areTurned (d + 2) p1 p2 σ hx23 h9) (fun n h => h) ?_
          refine go_ifz (b := x23) (k1 := 24) (L1 := [some (.ref 66), some (.int p0), some (.int p1), some (.int p2)]) (S1 := []) (σ1 := σ) (k2 := 22) (L2 := [some (.ref 66), some (.int p0), some (.int p1), some (.int p2)]) (S2 := []) (σ2 := σ) 1 (fun n h => h) (fun hc24 => ?_) (fun hc24 => ?_)
          · rw [if_neg hc24] at h
            cases h
            exact go_ret 2 (fun _ => hp)
          · rw [if_pos hc24] at h
            cases h
            exact go_ret 3 (fun _ => hp)
      · rw [if_neg hc3] at h
        cases h
        exact go_ret 2 (fun _ => hp)
def f_M_lines_l17 (N : Nat) (k55 : Int32 → Int32 → aSt → Option (Int32 × aSt)) : Nat → Int32 → Int32 → Int32 → aSt → Option (Int32 × aSt)
  | 0, _, _, _, _ => none
  | n + 1, v1, v2, v3, σ => (if (σ.1 66 9) ≤ v3 then k55 v1 v2 σ else ((f_M_joins N v2 v3 (1 : Int32) σ).bind fun x4 => (if (x4.2.2 66 25) = true then f_M_lines_l17 N k55 n v1 v2 (v3 + (1 : Int32)) x4 else (if (x4.2.1 66 27) ≠ (-9223372036854775808 : Int64) then ((f_M_root N (x4.2.1 66 24)).bind fun x7 => ((f_M_find N (x4.2.1 66 23) x7 (-(x4.2.1 66 27)) x4).bind fun x8 => (if x8 ≤ v3 then f_M_lines_l17 N k55 n (v1 + (0 : Int32)) v2 (v3 + (1 : Int32)) x4 else f_M_lines_l17 N k55 n (v1 + (1 : Int32)) v2 (v3 + (1 : Int32)) x4))) else f_M_lines_l17 N k55 n v1 v2 (v3 + (1 : Int32)) x4))))
set_option maxRecDepth 20000 in
set_option maxHeartbeats 4000000 in
theorem t_M_lines_l17 (d : Nat) {N : Nat} (k55 : Int32 → Int32 → aSt → Option (Int32 × aSt)) {x : (Int32 × aSt)} {P : Option Value → aSt → Prop} (hp : P (some (.int x.1)) x.2) (hk55 : ∀ (d3 : Option Value) (v1 : Int32) (v2 : Int32) (σ : aSt), k55 v1 v2 σ = some x → aGo (aCall MT (d + 3)) P mc_M_lines 55 [some (.ref 66), some (.int v1), some (.int v2), d3] [] σ) : ∀ (n : Nat) (v1 : Int32) (v2 : Int32) (v3 : Int32) (σ : aSt), f_M_lines_l17 N k55 n v1 v2 v3 σ = some x → aGo (aCall MT (d + 3)) P mc_M_lines 17 [some (.ref 66), some (.int v1), some (.int v2), some (.int v3)] [] σ := by
  intro n
  induction n with
  | zero => intro v1 v2 v3 σ h; cases h
  | succ n ih =>
    intro v1 v2 v3 σ h
    rw [f_M_lines_l17] at h
    refine go_if (c := (σ.1 66 9) ≤ v3) (k1 := 55) (L1 := [some (.ref 66), some (.int v1), some (.int v2), some (.int v3)]) (S1 := []) (σ1 := σ) (k2 := 21) (L2 := [some (.ref 66), some (.int v1), some (.int v2), some (.int v3)]) (S2 := []) (σ2 := σ) 4 (fun n h => h) (fun hc3 => ?_) (fun hc3 => ?_)
    · rw [if_pos hc3] at h
      exact hk55 _ v1 v2 σ h
    · rw [if_neg hc3] at h
      obtain ⟨x4, hx4, h⟩ := bind_of h
      refine go_call (r := none) (σc := σ) (σ1 := x4) (mi := 104) (vs := [.ref 66, .int v2, .int v3, .int (1 : Int32)]) (k' := 26) (L' := [some (.ref 66), some (.int v1), some (.int v2), some (.int v3)]) (S' := []) 5 (fun P9 h9 => c_M_joins (d + 0) v2 v3 (1 : Int32) σ hx4 h9) (fun n h => h) ?_
      refine go_ifn (b := (x4.2.2 66 25)) (k1 := 53) (L1 := [some (.ref 66), some (.int v1), some (.int v2), some (.int v3)]) (S1 := []) (σ1 := x4) (k2 := 29) (L2 := [some (.ref 66), some (.int v1), some (.int v2), some (.int v3)]) (S2 := []) (σ2 := x4) 3 (fun n h => h) (fun hc5 => ?_) (fun hc5 => ?_)
      · rw [if_pos hc5] at h
        refine go_st (k' := 17) (L' := [some (.ref 66), some (.int v1), some (.int v2), some (.int (v3 + (1 : Int32)))]) (S' := []) (σ' := x4) 2 (fun n h => h) ?_
        exact ih v1 v2 (v3 + (1 : Int32)) x4 h
      · rw [if_neg hc5] at h
        refine go_iff (lcmp_ne (x4.2.1 66 27) (-9223372036854775808 : Int64)) (k1 := 35) (L1 := [some (.ref 66), some (.int v1), some (.int v2), some (.int v3)]) (S1 := []) (σ1 := x4) (k2 := 34) (L2 := [some (.ref 66), some (.int v1), some (.int v2), some (.int v3)]) (S2 := []) (σ2 := x4) 5 (fun n h => h) (fun hc6 => ?_) (fun hc6 => ?_)
        · rw [if_pos hc6] at h
          obtain ⟨x7, hx7, h⟩ := bind_of h
          refine go_call (r := some (.long x7)) (σc := x4) (σ1 := x4) (mi := 58) (vs := [.long (x4.2.1 66 24)]) (k' := 42) (L' := [some (.ref 66), some (.int v1), some (.int v2), some (.int v3)]) (S' := [.long (x4.2.1 66 23), .ref 66, .int v1]) 7 (fun P9 h9 => c_M_root (d + 2) (x4.2.1 66 24) x4 hx7 h9) (fun n h => h) ?_
          obtain ⟨x8, hx8, h⟩ := bind_of h
          refine go_call (r := some (.int x8)) (σc := x4) (σ1 := x4) (mi := 91) (vs := [.ref 66, .long (x4.2.1 66 23), .long x7, .long (-(x4.2.1 66 27))]) (k' := 46) (L' := [some (.ref 66), some (.int v1), some (.int v2), some (.int v3)]) (S' := [.int v1]) 4 (fun P9 h9 => c_M_find (d + 2) (x4.2.1 66 23) x7 (-(x4.2.1 66 27)) x4 hx8 h9) (fun n h => h) ?_
          refine go_if (c := x8 ≤ v3) (k1 := 50) (L1 := [some (.ref 66), some (.int v1), some (.int v2), some (.int v3)]) (S1 := [.int v1]) (σ1 := x4) (k2 := 48) (L2 := [some (.ref 66), some (.int v1), some (.int v2), some (.int v3)]) (S2 := [.int v1]) (σ2 := x4) 2 (fun n h => h) (fun hc9 => ?_) (fun hc9 => ?_)
          · rw [if_pos hc9] at h
            refine go_st (k' := 17) (L' := [some (.ref 66), some (.int (v1 + (0 : Int32))), some (.int v2), some (.int (v3 + (1 : Int32)))]) (S' := []) (σ' := x4) 5 (fun n h => h) ?_
            exact ih (v1 + (0 : Int32)) v2 (v3 + (1 : Int32)) x4 h
          · rw [if_neg hc9] at h
            refine go_st (k' := 17) (L' := [some (.ref 66), some (.int (v1 + (1 : Int32))), some (.int v2), some (.int (v3 + (1 : Int32)))]) (S' := []) (σ' := x4) 6 (fun n h => h) ?_
            exact ih (v1 + (1 : Int32)) v2 (v3 + (1 : Int32)) x4 h
        · rw [if_neg hc6] at h
          refine go_st (k' := 17) (L' := [some (.ref 66), some (.int v1), some (.int v2), some (.int (v3 + (1 : Int32)))]) (S' := []) (σ' := x4) 3 (fun n h => h) ?_
          exact ih v1 v2 (v3 + (1 : Int32)) x4 h
def f_M_lines_l9 (N : Nat) : Nat → Int32 → Int32 → aSt → Option (Int32 × aSt)
  | 0, _, _, _ => none
  | n + 1, v1, v2, σ => (if (σ.1 66 9) ≤ v2 then some (v1, σ) else f_M_lines_l17 N (fun (y10 : Int32) (y11 : Int32) σ12 => f_M_lines_l9 N n y10 (y11 + (1 : Int32)) σ12) N v1 v2 (v2 + (1 : Int32)) σ)
set_option maxRecDepth 20000 in
set_option maxHeartbeats 4000000 in
theorem t_M_lines_l9 (d : Nat) {N : Nat} {x : (Int32 × aSt)} {P : Option Value → aSt → Prop} (hp : P (some (.int x.1)) x.2) : ∀ (n : Nat) (d3 : Option Value) (v1 : Int32) (v2 : Int32) (σ : aSt), f_M_lines_l9 N n v1 v2 σ = some x → aGo (aCall MT (d + 3)) P mc_M_lines 9 [some (.ref 66), some (.int v1), some (.int v2), d3] [] σ := by
  intro n
  induction n with
  | zero => intro d3 v1 v2 σ h; cases h
  | succ n ih =>
    intro d3 v1 v2 σ h
    rw [f_M_lines_l9] at h
    refine go_if (c := (σ.1 66 9) ≤ v2) (k1 := 57) (L1 := [some (.ref 66), some (.int v1), some (.int v2), d3]) (S1 := []) (σ1 := σ) (k2 := 13) (L2 := [some (.ref 66), some (.int v1), some (.int v2), d3]) (S2 := []) (σ2 := σ) 4 (fun n h => h) (fun hc2 => ?_) (fun hc2 => ?_)
    · rw [if_pos hc2] at h
      cases h
      exact go_ret 2 (fun _ => hp)
    · rw [if_neg hc2] at h
      refine go_st (k' := 17) (L' := [some (.ref 66), some (.int v1), some (.int v2), some (.int (v2 + (1 : Int32)))]) (S' := []) (σ' := σ) 4 (fun n h => h) ?_
      refine t_M_lines_l17 d _ hp (fun d3 y10 y11 σ12 h => ?_) N v1 v2 (v2 + (1 : Int32)) σ h
      · refine go_st (k' := 9) (L' := [some (.ref 66), some (.int y10), some (.int (y11 + (1 : Int32))), d3]) (S' := []) (σ' := σ12) 2 (fun n h => h) ?_
        exact ih _ y10 (y11 + (1 : Int32)) σ12 h
def f_M_lines (N : Nat) (σ : aSt) : Option (Int32 × aSt) :=
  (if (σ.2.2 66 1) = true then f_M_lines_l9 N N (0 : Int32) (0 : Int32) σ else some ((-2 : Int32), σ))
set_option maxRecDepth 20000 in
set_option maxHeartbeats 4000000 in
theorem c_M_lines (d : Nat) {N : Nat} (σ : aSt) {P : Option Value → aSt → Prop} {x : (Int32 × aSt)} (h : f_M_lines N σ = some x) (hp : P (some (.int x.1)) x.2) : aCall MT (d + 4) 276 [.ref 66] σ P := by
  unfold f_M_lines at h
  refine call_of (code := mc_M_lines) (L := [some (.ref 66), none, none, none]) rfl rfl rfl rfl ?_
  refine go_ifn (b := (σ.2.2 66 1)) (k1 := 5) (L1 := [some (.ref 66), none, none, none]) (S1 := []) (σ1 := σ) (k2 := 3) (L2 := [some (.ref 66), none, none, none]) (S2 := []) (σ2 := σ) 3 (fun n h => h) (fun hc1 => ?_) (fun hc1 => ?_)
  · rw [if_pos hc1] at h
    refine go_st (k' := 9) (L' := [some (.ref 66), some (.int (0 : Int32)), some (.int (0 : Int32)), none]) (S' := []) (σ' := σ) 4 (fun n h => h) ?_
    exact t_M_lines_l9 d hp N _ (0 : Int32) (0 : Int32) σ h
  · rw [if_neg hc1] at h
    cases h
    exact go_ret 2 (fun _ => hp)
def f_M_part (N : Nat) (p0 : Int32) (σ : aSt) : Option Int32 :=
  (if (f_M_isPoint p0 σ) = true then (if p0 = (1000 : Int32) then some (0 : Int32) else (if ((4 : Int32) * (σ.1 66 3)) ≤ ((σ.1 66 2) * (σ.1 66 2)) then (if 0 ≤ (σ.1 66 3) then (if 0 ≤ p0 ∧ p0 < (120 : Int32) then (if (σ.1 66 2) ≤ 0 then (if (0 : Int64) ≤ (((2 : Int64) * (σ.1 67 p0.toNatClampNeg).toInt64) + (((σ.1 66 2).toInt64 * (σ.1 69 p0.toNatClampNeg).toInt64) * (σ.1 69 p0.toNatClampNeg).toInt64)) then some (0 : Int32) else some (1 : Int32)) else (if 0 ≤ (σ.1 67 p0.toNatClampNeg) then some (0 : Int32) else some (1 : Int32))) else none) else (if 0 ≤ p0 ∧ p0 < (120 : Int32) then (if 0 < (σ.1 67 p0.toNatClampNeg) then some (0 : Int32) else some (1 : Int32)) else none)) else some (0 : Int32))) else some (-2 : Int32))
set_option maxRecDepth 20000 in
set_option maxHeartbeats 4000000 in
theorem c_M_part (d : Nat) {N : Nat} (p0 : Int32) (σ : aSt) {P : Option Value → aSt → Prop} {x : Int32} (h : f_M_part N p0 σ = some x) (hp : P (some (.int x)) σ) : aCall MT (d + 4) 278 [.ref 66, .int p0] σ P := by
  unfold f_M_part at h
  refine call_of (code := mc_M_part) (L := [some (.ref 66), some (.int p0), none, none]) rfl rfl rfl rfl ?_
  refine go_call (r := some (.int (b2i (f_M_isPoint p0 σ)))) (σc := σ) (σ1 := σ) (mi := 90) (vs := [.ref 66, .int p0]) (k' := 3) (L' := [some (.ref 66), some (.int p0), none, none]) (S' := []) 3 (fun P9 h9 => c_M_isPoint (d + 0) p0 σ h9) (fun n h => h) ?_
  refine go_ifn (b := (f_M_isPoint p0 σ)) (k1 := 6) (L1 := [some (.ref 66), some (.int p0), none, none]) (S1 := []) (σ1 := σ) (k2 := 4) (L2 := [some (.ref 66), some (.int p0), none, none]) (S2 := []) (σ2 := σ) 1 (fun n h => h) (fun hc1 => ?_) (fun hc1 => ?_)
  · rw [if_pos hc1] at h
    refine go_if (c := p0 = (1000 : Int32)) (k1 := 19) (L1 := [some (.ref 66), some (.int p0), none, none]) (S1 := []) (σ1 := σ) (k2 := 9) (L2 := [some (.ref 66), some (.int p0), none, none]) (S2 := []) (σ2 := σ) 3 (fun n h => h) (fun hc2 => ?_) (fun hc2 => ?_)
    · rw [if_pos hc2] at h
      cases h
      exact go_ret 2 (fun _ => hp)
    · rw [if_neg hc2] at h
      refine go_if (c := ((4 : Int32) * (σ.1 66 3)) ≤ ((σ.1 66 2) * (σ.1 66 2))) (k1 := 21) (L1 := [some (.ref 66), some (.int p0), none, none]) (S1 := []) (σ1 := σ) (k2 := 19) (L2 := [some (.ref 66), some (.int p0), none, none]) (S2 := []) (σ2 := σ) 10 (fun n h => h) (fun hc3 => ?_) (fun hc3 => ?_)
      · rw [if_pos hc3] at h
        refine go_if (c := 0 ≤ (σ.1 66 3)) (k1 := 33) (L1 := [some (.ref 66), some (.int p0), none, none]) (S1 := []) (σ1 := σ) (k2 := 24) (L2 := [some (.ref 66), some (.int p0), none, none]) (S2 := []) (σ2 := σ) 3 (fun n h => h) (fun hc4 => ?_) (fun hc4 => ?_)
        · rw [if_pos hc4] at h
          obtain ⟨hc5, h⟩ := ite_of h
          refine go_q (Q := inb 0 σ 69 p0) (k' := 37) (L' := [some (.ref 66), some (.int p0), none, none]) (S' := [.int (σ.1 69 p0.toNatClampNeg)]) (σ' := σ) 4 (inb_mk rfl hc5.1 hc5.2) (fun n h => h) ?_
          refine go_if (c := (σ.1 66 2) ≤ 0) (k1 := 51) (L1 := [some (.ref 66), some (.int p0), some (.long (σ.1 69 p0.toNatClampNeg).toInt64), none]) (S1 := []) (σ1 := σ) (k2 := 42) (L2 := [some (.ref 66), some (.int p0), some (.long (σ.1 69 p0.toNatClampNeg).toInt64), none]) (S2 := []) (σ2 := σ) 5 (fun n h => h) (fun hc6 => ?_) (fun hc6 => ?_)
          · rw [if_pos hc6] at h
            refine go_q (Q := inb 0 σ 67 p0) (k' := 56) (L' := [some (.ref 66), some (.int p0), some (.long (σ.1 69 p0.toNatClampNeg).toInt64), none]) (S' := [.int (σ.1 67 p0.toNatClampNeg), .long (2 : Int64)]) (σ' := σ) 5 (inb_mk rfl hc5.1 hc5.2) (fun n h => h) ?_
            refine go_iff (lcmp_ge (((2 : Int64) * (σ.1 67 p0.toNatClampNeg).toInt64) + (((σ.1 66 2).toInt64 * (σ.1 69 p0.toNatClampNeg).toInt64) * (σ.1 69 p0.toNatClampNeg).toInt64)) (0 : Int64)) (k1 := 71) (L1 := [some (.ref 66), some (.int p0), some (.long (σ.1 69 p0.toNatClampNeg).toInt64), none]) (S1 := []) (σ1 := σ) (k2 := 69) (L2 := [some (.ref 66), some (.int p0), some (.long (σ.1 69 p0.toNatClampNeg).toInt64), none]) (S2 := []) (σ2 := σ) 13 (fun n h => h) (fun hc7 => ?_) (fun hc7 => ?_)
            · rw [if_pos hc7] at h
              cases h
              exact go_ret 2 (fun _ => hp)
            · rw [if_neg hc7] at h
              cases h
              exact go_ret 3 (fun _ => hp)
          · rw [if_neg hc6] at h
            refine go_q (Q := inb 0 σ 67 p0) (k' := 46) (L' := [some (.ref 66), some (.int p0), some (.long (σ.1 69 p0.toNatClampNeg).toInt64), none]) (S' := [.int (σ.1 67 p0.toNatClampNeg)]) (σ' := σ) 4 (inb_mk rfl hc5.1 hc5.2) (fun n h => h) ?_
            refine go_if (c := 0 ≤ (σ.1 67 p0.toNatClampNeg)) (k1 := 49) (L1 := [some (.ref 66), some (.int p0), some (.long (σ.1 69 p0.toNatClampNeg).toInt64), none]) (S1 := []) (σ1 := σ) (k2 := 47) (L2 := [some (.ref 66), some (.int p0), some (.long (σ.1 69 p0.toNatClampNeg).toInt64), none]) (S2 := []) (σ2 := σ) 1 (fun n h => h) (fun hc8 => ?_) (fun hc8 => ?_)
            · rw [if_pos hc8] at h
              cases h
              exact go_ret 3 (fun _ => hp)
            · rw [if_neg hc8] at h
              cases h
              exact go_ret 3 (fun _ => hp)
        · rw [if_neg hc4] at h
          obtain ⟨hc9, h⟩ := ite_of h
          refine go_q (Q := inb 0 σ 67 p0) (k' := 28) (L' := [some (.ref 66), some (.int p0), none, none]) (S' := [.int (σ.1 67 p0.toNatClampNeg)]) (σ' := σ) 4 (inb_mk rfl hc9.1 hc9.2) (fun n h => h) ?_
          refine go_if (c := 0 < (σ.1 67 p0.toNatClampNeg)) (k1 := 31) (L1 := [some (.ref 66), some (.int p0), none, none]) (S1 := []) (σ1 := σ) (k2 := 29) (L2 := [some (.ref 66), some (.int p0), none, none]) (S2 := []) (σ2 := σ) 1 (fun n h => h) (fun hc10 => ?_) (fun hc10 => ?_)
          · rw [if_pos hc10] at h
            cases h
            exact go_ret 2 (fun _ => hp)
          · rw [if_neg hc10] at h
            cases h
            exact go_ret 3 (fun _ => hp)
      · rw [if_neg hc3] at h
        cases h
        exact go_ret 2 (fun _ => hp)
  · rw [if_neg hc1] at h
    cases h
    exact go_ret 2 (fun _ => hp)
def f_M_shows (N : Nat) (p0 : Int32) (σ : aSt) : Option (Int32 × aSt) :=
  (if (σ.2.2 66 1) = true then ((f_M_laysSide N (0 : Int32) σ).bind fun x2 => (if (f_M_in p0.toInt64 (0 : Int64) ((x2.1 66 46) - (1 : Int32)).toInt64) = true then (if 0 ≤ p0 ∧ p0 < (64 : Int32) then (if (x2.2.2 74 p0.toNatClampNeg) = true then (if (x2.1 76 p0.toNatClampNeg).toInt64 ≠ (0 : Int64) then ((f_M_worthOf N (x2.1 73 p0.toNatClampNeg).toInt64 (x2.1 75 p0.toNatClampNeg).toInt64 (x2.1 76 p0.toNatClampNeg).toInt64 x2).bind fun x7 => ((f_M_root N x7).bind fun x8 => ((f_M_lowers N (((x2.1 73 p0.toNatClampNeg).toInt64 * (x2.1 75 p0.toNatClampNeg).toInt64) * (x2.1 75 p0.toNatClampNeg).toInt64) ((x2.1 76 p0.toNatClampNeg).toInt64 * (x2.1 76 p0.toNatClampNeg).toInt64) x2).bind fun x9 => ((f_M_root N (x9.2.1 66 24)).bind fun x10 => (if ¬ (((x2.1 76 p0.toNatClampNeg).toInt64 * (x2.1 76 p0.toNatClampNeg).toInt64) * (x2.1 76 p0.toNatClampNeg).toInt64) = 0 then (if (lrem ((((((x2.1 73 p0.toNatClampNeg).toInt64 * (x2.1 75 p0.toNatClampNeg).toInt64) * x8) * x10) * x10) * x10) (((x2.1 76 p0.toNatClampNeg).toInt64 * (x2.1 76 p0.toNatClampNeg).toInt64) * (x2.1 76 p0.toNatClampNeg).toInt64)) = (0 : Int64) then ((f_M_find N (x9.2.1 66 23) x10 (((((((x2.1 73 p0.toNatClampNeg).toInt64 * (x2.1 75 p0.toNatClampNeg).toInt64) * x8) * x10) * x10) * x10) / (((x2.1 76 p0.toNatClampNeg).toInt64 * (x2.1 76 p0.toNatClampNeg).toInt64) * (x2.1 76 p0.toNatClampNeg).toInt64)) x9).bind fun x13 => some (x13, x9)) else some ((-6 : Int32), x9)) else none))))) else some ((1000 : Int32), x2)) else some ((-1 : Int32), x2)) else none) else some ((-2 : Int32), x2))) else some ((-2 : Int32), σ))
set_option maxRecDepth 20000 in
set_option maxHeartbeats 4000000 in
theorem c_M_shows (d : Nat) {N : Nat} (p0 : Int32) (σ : aSt) {P : Option Value → aSt → Prop} {x : (Int32 × aSt)} (h : f_M_shows N p0 σ = some x) (hp : P (some (.int x.1)) x.2) : aCall MT (d + 5) 281 [.ref 66, .int p0] σ P := by
  unfold f_M_shows at h
  refine call_of (code := mc_M_shows) (L := [some (.ref 66), some (.int p0), none, none, none, none, none, none, none, none, none, none, none, none]) rfl rfl rfl rfl ?_
  refine go_ifn (b := (σ.2.2 66 1)) (k1 := 5) (L1 := [some (.ref 66), some (.int p0), none, none, none, none, none, none, none, none, none, none, none, none]) (S1 := []) (σ1 := σ) (k2 := 3) (L2 := [some (.ref 66), some (.int p0), none, none, none, none, none, none, none, none, none, none, none, none]) (S2 := []) (σ2 := σ) 3 (fun n h => h) (fun hc1 => ?_) (fun hc1 => ?_)
  · rw [if_pos hc1] at h
    obtain ⟨x2, hx2, h⟩ := bind_of h
    refine go_call (r := none) (σc := σ) (σ1 := x2) (mi := 190) (vs := [.ref 66, .int (0 : Int32)]) (k' := 8) (L' := [some (.ref 66), some (.int p0), none, none, none, none, none, none, none, none, none, none, none, none]) (S' := []) 3 (fun P9 h9 => c_M_laysSide (d + 0) (0 : Int32) σ hx2 h9) (fun n h => h) ?_
    refine go_call (r := some (.int (b2i (f_M_in p0.toInt64 (0 : Int64) ((x2.1 66 46) - (1 : Int32)).toInt64)))) (σc := x2) (σ1 := x2) (mi := 7) (vs := [.long p0.toInt64, .long (0 : Int64), .long ((x2.1 66 46) - (1 : Int32)).toInt64]) (k' := 17) (L' := [some (.ref 66), some (.int p0), none, none, none, none, none, none, none, none, none, none, none, none]) (S' := []) 9 (fun P9 h9 => c_M_in (d + 3) p0.toInt64 (0 : Int64) ((x2.1 66 46) - (1 : Int32)).toInt64 x2 h9) (fun n h => h) ?_
    refine go_ifn (b := (f_M_in p0.toInt64 (0 : Int64) ((x2.1 66 46) - (1 : Int32)).toInt64)) (k1 := 20) (L1 := [some (.ref 66), some (.int p0), none, none, none, none, none, none, none, none, none, none, none, none]) (S1 := []) (σ1 := x2) (k2 := 18) (L2 := [some (.ref 66), some (.int p0), none, none, none, none, none, none, none, none, none, none, none, none]) (S2 := []) (σ2 := x2) 1 (fun n h => h) (fun hc3 => ?_) (fun hc3 => ?_)
    · rw [if_pos hc3] at h
      obtain ⟨hc4, h⟩ := ite_of h
      refine go_q (Q := inb 3 x2 74 p0) (k' := 24) (L' := [some (.ref 66), some (.int p0), none, none, none, none, none, none, none, none, none, none, none, none]) (S' := [.int (b2i (x2.2.2 74 p0.toNatClampNeg))]) (σ' := x2) 4 (inb_mk rfl hc4.1 hc4.2) (fun n h => h) ?_
      refine go_ifn (b := (x2.2.2 74 p0.toNatClampNeg)) (k1 := 27) (L1 := [some (.ref 66), some (.int p0), none, none, none, none, none, none, none, none, none, none, none, none]) (S1 := []) (σ1 := x2) (k2 := 25) (L2 := [some (.ref 66), some (.int p0), none, none, none, none, none, none, none, none, none, none, none, none]) (S2 := []) (σ2 := x2) 1 (fun n h => h) (fun hc5 => ?_) (fun hc5 => ?_)
      · rw [if_pos hc5] at h
        refine go_q (Q := inb 0 x2 73 p0) (k' := 31) (L' := [some (.ref 66), some (.int p0), none, none, none, none, none, none, none, none, none, none, none, none]) (S' := [.int (x2.1 73 p0.toNatClampNeg)]) (σ' := x2) 4 (inb_mk rfl hc4.1 hc4.2) (fun n h => h) ?_
        refine go_q (Q := inb 0 x2 75 p0) (k' := 37) (L' := [some (.ref 66), some (.int p0), some (.long (x2.1 73 p0.toNatClampNeg).toInt64), none, none, none, none, none, none, none, none, none, none, none]) (S' := [.int (x2.1 75 p0.toNatClampNeg)]) (σ' := x2) 6 (inb_mk rfl hc4.1 hc4.2) (fun n h => h) ?_
        refine go_q (Q := inb 0 x2 76 p0) (k' := 43) (L' := [some (.ref 66), some (.int p0), some (.long (x2.1 73 p0.toNatClampNeg).toInt64), none, some (.long (x2.1 75 p0.toNatClampNeg).toInt64), none, none, none, none, none, none, none, none, none]) (S' := [.int (x2.1 76 p0.toNatClampNeg)]) (σ' := x2) 6 (inb_mk rfl hc4.1 hc4.2) (fun n h => h) ?_
        refine go_iff (lcmp_ne (x2.1 76 p0.toNatClampNeg).toInt64 (0 : Int64)) (k1 := 51) (L1 := [some (.ref 66), some (.int p0), some (.long (x2.1 73 p0.toNatClampNeg).toInt64), none, some (.long (x2.1 75 p0.toNatClampNeg).toInt64), none, some (.long (x2.1 76 p0.toNatClampNeg).toInt64), none, none, none, none, none, none, none]) (S1 := []) (σ1 := x2) (k2 := 49) (L2 := [some (.ref 66), some (.int p0), some (.long (x2.1 73 p0.toNatClampNeg).toInt64), none, some (.long (x2.1 75 p0.toNatClampNeg).toInt64), none, some (.long (x2.1 76 p0.toNatClampNeg).toInt64), none, none, none, none, none, none, none]) (S2 := []) (σ2 := x2) 6 (fun n h => h) (fun hc6 => ?_) (fun hc6 => ?_)
        · rw [if_pos hc6] at h
          obtain ⟨x7, hx7, h⟩ := bind_of h
          refine go_call (r := some (.long x7)) (σc := x2) (σ1 := x2) (mi := 182) (vs := [.ref 66, .long (x2.1 73 p0.toNatClampNeg).toInt64, .long (x2.1 75 p0.toNatClampNeg).toInt64, .long (x2.1 76 p0.toNatClampNeg).toInt64]) (k' := 56) (L' := [some (.ref 66), some (.int p0), some (.long (x2.1 73 p0.toNatClampNeg).toInt64), none, some (.long (x2.1 75 p0.toNatClampNeg).toInt64), none, some (.long (x2.1 76 p0.toNatClampNeg).toInt64), none, none, none, none, none, none, none]) (S' := []) 5 (fun P9 h9 => c_M_worthOf (d + 3) (x2.1 73 p0.toNatClampNeg).toInt64 (x2.1 75 p0.toNatClampNeg).toInt64 (x2.1 76 p0.toNatClampNeg).toInt64 x2 hx7 h9) (fun n h => h) ?_
          obtain ⟨x8, hx8, h⟩ := bind_of h
          refine go_call (r := some (.long x8)) (σc := x2) (σ1 := x2) (mi := 58) (vs := [.long x7]) (k' := 57) (L' := [some (.ref 66), some (.int p0), some (.long (x2.1 73 p0.toNatClampNeg).toInt64), none, some (.long (x2.1 75 p0.toNatClampNeg).toInt64), none, some (.long (x2.1 76 p0.toNatClampNeg).toInt64), none, none, none, none, none, none, none]) (S' := []) 1 (fun P9 h9 => c_M_root (d + 3) x7 x2 hx8 h9) (fun n h => h) ?_
          obtain ⟨x9, hx9, h⟩ := bind_of h
          refine go_call (r := none) (σc := x2) (σ1 := x9) (mi := 103) (vs := [.ref 66, .long (((x2.1 73 p0.toNatClampNeg).toInt64 * (x2.1 75 p0.toNatClampNeg).toInt64) * (x2.1 75 p0.toNatClampNeg).toInt64), .long ((x2.1 76 p0.toNatClampNeg).toInt64 * (x2.1 76 p0.toNatClampNeg).toInt64)]) (k' := 68) (L' := [some (.ref 66), some (.int p0), some (.long (x2.1 73 p0.toNatClampNeg).toInt64), none, some (.long (x2.1 75 p0.toNatClampNeg).toInt64), none, some (.long (x2.1 76 p0.toNatClampNeg).toInt64), none, some (.long x8), none, none, none, none, none]) (S' := []) 11 (fun P9 h9 => c_M_lowers (d + 2) (((x2.1 73 p0.toNatClampNeg).toInt64 * (x2.1 75 p0.toNatClampNeg).toInt64) * (x2.1 75 p0.toNatClampNeg).toInt64) ((x2.1 76 p0.toNatClampNeg).toInt64 * (x2.1 76 p0.toNatClampNeg).toInt64) x2 hx9 h9) (fun n h => h) ?_
          obtain ⟨x10, hx10, h⟩ := bind_of h
          refine go_call (r := some (.long x10)) (σc := x9) (σ1 := x9) (mi := 58) (vs := [.long (x9.2.1 66 24)]) (k' := 71) (L' := [some (.ref 66), some (.int p0), some (.long (x2.1 73 p0.toNatClampNeg).toInt64), none, some (.long (x2.1 75 p0.toNatClampNeg).toInt64), none, some (.long (x2.1 76 p0.toNatClampNeg).toInt64), none, some (.long x8), none, none, none, none, none]) (S' := []) 3 (fun P9 h9 => c_M_root (d + 3) (x9.2.1 66 24) x9 hx10 h9) (fun n h => h) ?_
          obtain ⟨hc11, h⟩ := ite_of h
          refine go_q (Q := ¬ (((x2.1 76 p0.toNatClampNeg).toInt64 * (x2.1 76 p0.toNatClampNeg).toInt64) * (x2.1 76 p0.toNatClampNeg).toInt64) = 0) (k' := 91) (L' := [some (.ref 66), some (.int p0), some (.long (x2.1 73 p0.toNatClampNeg).toInt64), none, some (.long (x2.1 75 p0.toNatClampNeg).toInt64), none, some (.long (x2.1 76 p0.toNatClampNeg).toInt64), none, some (.long x8), none, some (.long x10), none, some (.long ((((((x2.1 73 p0.toNatClampNeg).toInt64 * (x2.1 75 p0.toNatClampNeg).toInt64) * x8) * x10) * x10) * x10)), none]) (S' := [.long (lrem ((((((x2.1 73 p0.toNatClampNeg).toInt64 * (x2.1 75 p0.toNatClampNeg).toInt64) * x8) * x10) * x10) * x10) (((x2.1 76 p0.toNatClampNeg).toInt64 * (x2.1 76 p0.toNatClampNeg).toInt64) * (x2.1 76 p0.toNatClampNeg).toInt64))]) (σ' := x9) 20 hc11 (fun n h => h) ?_
          refine go_iff (lcmp_eq (lrem ((((((x2.1 73 p0.toNatClampNeg).toInt64 * (x2.1 75 p0.toNatClampNeg).toInt64) * x8) * x10) * x10) * x10) (((x2.1 76 p0.toNatClampNeg).toInt64 * (x2.1 76 p0.toNatClampNeg).toInt64) * (x2.1 76 p0.toNatClampNeg).toInt64)) (0 : Int64)) (k1 := 96) (L1 := [some (.ref 66), some (.int p0), some (.long (x2.1 73 p0.toNatClampNeg).toInt64), none, some (.long (x2.1 75 p0.toNatClampNeg).toInt64), none, some (.long (x2.1 76 p0.toNatClampNeg).toInt64), none, some (.long x8), none, some (.long x10), none, some (.long ((((((x2.1 73 p0.toNatClampNeg).toInt64 * (x2.1 75 p0.toNatClampNeg).toInt64) * x8) * x10) * x10) * x10)), none]) (S1 := []) (σ1 := x9) (k2 := 94) (L2 := [some (.ref 66), some (.int p0), some (.long (x2.1 73 p0.toNatClampNeg).toInt64), none, some (.long (x2.1 75 p0.toNatClampNeg).toInt64), none, some (.long (x2.1 76 p0.toNatClampNeg).toInt64), none, some (.long x8), none, some (.long x10), none, some (.long ((((((x2.1 73 p0.toNatClampNeg).toInt64 * (x2.1 75 p0.toNatClampNeg).toInt64) * x8) * x10) * x10) * x10)), none]) (S2 := []) (σ2 := x9) 3 (fun n h => h) (fun hc12 => ?_) (fun hc12 => ?_)
          · rw [if_pos hc12] at h
            refine go_q (Q := ¬ (((x2.1 76 p0.toNatClampNeg).toInt64 * (x2.1 76 p0.toNatClampNeg).toInt64) * (x2.1 76 p0.toNatClampNeg).toInt64) = 0) (k' := 107) (L' := [some (.ref 66), some (.int p0), some (.long (x2.1 73 p0.toNatClampNeg).toInt64), none, some (.long (x2.1 75 p0.toNatClampNeg).toInt64), none, some (.long (x2.1 76 p0.toNatClampNeg).toInt64), none, some (.long x8), none, some (.long x10), none, some (.long ((((((x2.1 73 p0.toNatClampNeg).toInt64 * (x2.1 75 p0.toNatClampNeg).toInt64) * x8) * x10) * x10) * x10)), none]) (S' := [.long (((((((x2.1 73 p0.toNatClampNeg).toInt64 * (x2.1 75 p0.toNatClampNeg).toInt64) * x8) * x10) * x10) * x10) / (((x2.1 76 p0.toNatClampNeg).toInt64 * (x2.1 76 p0.toNatClampNeg).toInt64) * (x2.1 76 p0.toNatClampNeg).toInt64)), .long x10, .long (x9.2.1 66 23), .ref 66]) (σ' := x9) 11 (hc11) (fun n h => h) ?_
            obtain ⟨x13, hx13, h⟩ := bind_of h
            refine go_call (r := some (.int x13)) (σc := x9) (σ1 := x9) (mi := 91) (vs := [.ref 66, .long (x9.2.1 66 23), .long x10, .long (((((((x2.1 73 p0.toNatClampNeg).toInt64 * (x2.1 75 p0.toNatClampNeg).toInt64) * x8) * x10) * x10) * x10) / (((x2.1 76 p0.toNatClampNeg).toInt64 * (x2.1 76 p0.toNatClampNeg).toInt64) * (x2.1 76 p0.toNatClampNeg).toInt64))]) (k' := 108) (L' := [some (.ref 66), some (.int p0), some (.long (x2.1 73 p0.toNatClampNeg).toInt64), none, some (.long (x2.1 75 p0.toNatClampNeg).toInt64), none, some (.long (x2.1 76 p0.toNatClampNeg).toInt64), none, some (.long x8), none, some (.long x10), none, some (.long ((((((x2.1 73 p0.toNatClampNeg).toInt64 * (x2.1 75 p0.toNatClampNeg).toInt64) * x8) * x10) * x10) * x10)), none]) (S' := []) 1 (fun P9 h9 => c_M_find (d + 3) (x9.2.1 66 23) x10 (((((((x2.1 73 p0.toNatClampNeg).toInt64 * (x2.1 75 p0.toNatClampNeg).toInt64) * x8) * x10) * x10) * x10) / (((x2.1 76 p0.toNatClampNeg).toInt64 * (x2.1 76 p0.toNatClampNeg).toInt64) * (x2.1 76 p0.toNatClampNeg).toInt64)) x9 hx13 h9) (fun n h => h) ?_
            cases h
            exact go_ret 1 (fun _ => hp)
          · rw [if_neg hc12] at h
            cases h
            exact go_ret 3 (fun _ => hp)
        · rw [if_neg hc6] at h
          cases h
          exact go_ret 2 (fun _ => hp)
      · rw [if_neg hc5] at h
        cases h
        exact go_ret 2 (fun _ => hp)
    · rw [if_neg hc3] at h
      cases h
      exact go_ret 2 (fun _ => hp)
  · rw [if_neg hc1] at h
    cases h
    exact go_ret 2 (fun _ => hp)
def f_M_laysBest_l44 (N : Nat) (k77 : Int32 → Int32 → aSt → Option aSt) : Nat → Int32 → Int32 → Int32 → Int32 → aSt → Option aSt
  | 0, _, _, _, _, _ => none
  | n + 1, v1, v2, v3, v4, σ => (if v1 ≤ v4 then k77 v1 v2 σ else (if ¬ v1 = 0 then (if (irem (v4 * v4) v1) = v3 then ((f_M_orderFrom N v2 v4 v1 σ).bind fun x6 => (if (x6.2.1 66 35) < x6.1 then f_M_laysBest_l44 N k77 n v1 v2 v3 (v4 + (1 : Int32)) (s_i (s_i (s_i x6.2 66 35 x6.1) 66 36 v2) 66 37 v4) else f_M_laysBest_l44 N k77 n v1 v2 v3 (v4 + (1 : Int32)) x6.2)) else f_M_laysBest_l44 N k77 n v1 v2 v3 (v4 + (1 : Int32)) σ) else none))
set_option maxRecDepth 20000 in
set_option maxHeartbeats 4000000 in
theorem t_M_laysBest_l44 (d : Nat) {N : Nat} (k77 : Int32 → Int32 → aSt → Option aSt) {x : aSt} {P : Option Value → aSt → Prop} (hp : P none x) (hk77 : ∀ (d3 d4 d5 : Option Value) (v1 : Int32) (v2 : Int32) (σ : aSt), k77 v1 v2 σ = some x → aGo (aCall MT (d + 3)) P mc_M_laysBest 77 [some (.ref 66), some (.int v1), some (.int v2), d3, d4, d5] [] σ) : ∀ (n : Nat) (d5 : Option Value) (v1 : Int32) (v2 : Int32) (v3 : Int32) (v4 : Int32) (σ : aSt), f_M_laysBest_l44 N k77 n v1 v2 v3 v4 σ = some x → aGo (aCall MT (d + 3)) P mc_M_laysBest 44 [some (.ref 66), some (.int v1), some (.int v2), some (.int v3), some (.int v4), d5] [] σ := by
  intro n
  induction n with
  | zero => intro d5 v1 v2 v3 v4 σ h; cases h
  | succ n ih =>
    intro d5 v1 v2 v3 v4 σ h
    rw [f_M_laysBest_l44] at h
    refine go_if (c := v1 ≤ v4) (k1 := 77) (L1 := [some (.ref 66), some (.int v1), some (.int v2), some (.int v3), some (.int v4), d5]) (S1 := []) (σ1 := σ) (k2 := 47) (L2 := [some (.ref 66), some (.int v1), some (.int v2), some (.int v3), some (.int v4), d5]) (S2 := []) (σ2 := σ) 3 (fun n h => h) (fun hc3 => ?_) (fun hc3 => ?_)
    · rw [if_pos hc3] at h
      exact hk77 _ _ _ v1 v2 σ h
    · rw [if_neg hc3] at h
      obtain ⟨hc4, h⟩ := ite_of h
      refine go_q (Q := ¬ v1 = 0) (k' := 52) (L' := [some (.ref 66), some (.int v1), some (.int v2), some (.int v3), some (.int v4), d5]) (S' := [.int (irem (v4 * v4) v1)]) (σ' := σ) 5 hc4 (fun n h => h) ?_
      refine go_if (c := (irem (v4 * v4) v1) = v3) (k1 := 55) (L1 := [some (.ref 66), some (.int v1), some (.int v2), some (.int v3), some (.int v4), d5]) (S1 := []) (σ1 := σ) (k2 := 54) (L2 := [some (.ref 66), some (.int v1), some (.int v2), some (.int v3), some (.int v4), d5]) (S2 := []) (σ2 := σ) 2 (fun n h => h) (fun hc5 => ?_) (fun hc5 => ?_)
      · rw [if_pos hc5] at h
        obtain ⟨x6, hx6, h⟩ := bind_of h
        refine go_call (r := some (.int x6.1)) (σc := σ) (σ1 := x6.2) (mi := 158) (vs := [.ref 66, .int v2, .int v4, .int v1]) (k' := 60) (L' := [some (.ref 66), some (.int v1), some (.int v2), some (.int v3), some (.int v4), d5]) (S' := []) 5 (fun P9 h9 => c_M_orderFrom (d + 0) v2 v4 v1 σ hx6 h9) (fun n h => h) ?_
        refine go_if (c := (x6.2.1 66 35) < x6.1) (k1 := 66) (L1 := [some (.ref 66), some (.int v1), some (.int v2), some (.int v3), some (.int v4), some (.int x6.1)]) (S1 := []) (σ1 := x6.2) (k2 := 65) (L2 := [some (.ref 66), some (.int v1), some (.int v2), some (.int v3), some (.int v4), some (.int x6.1)]) (S2 := []) (σ2 := x6.2) 5 (fun n h => h) (fun hc7 => ?_) (fun hc7 => ?_)
        · rw [if_pos hc7] at h
          refine go_st (k' := 44) (L' := [some (.ref 66), some (.int v1), some (.int v2), some (.int v3), some (.int (v4 + (1 : Int32))), some (.int x6.1)]) (S' := []) (σ' := (s_i (s_i (s_i x6.2 66 35 x6.1) 66 36 v2) 66 37 v4)) 11 (fun n h => h) ?_
          exact ih _ v1 v2 v3 (v4 + (1 : Int32)) (s_i (s_i (s_i x6.2 66 35 x6.1) 66 36 v2) 66 37 v4) h
        · rw [if_neg hc7] at h
          refine go_st (k' := 44) (L' := [some (.ref 66), some (.int v1), some (.int v2), some (.int v3), some (.int (v4 + (1 : Int32))), some (.int x6.1)]) (S' := []) (σ' := x6.2) 3 (fun n h => h) ?_
          exact ih _ v1 v2 v3 (v4 + (1 : Int32)) x6.2 h
      · rw [if_neg hc5] at h
        refine go_st (k' := 44) (L' := [some (.ref 66), some (.int v1), some (.int v2), some (.int v3), some (.int (v4 + (1 : Int32))), d5]) (S' := []) (σ' := σ) 3 (fun n h => h) ?_
        exact ih _ v1 v2 v3 (v4 + (1 : Int32)) σ h
def f_M_laysBest_l11 (N : Nat) : Nat → Int32 → Int32 → aSt → Option aSt
  | 0, _, _, _ => none
  | n + 1, v1, v2, σ => (if v1 ≤ v2 then some σ else ((f_M_mod N ((((v2.toInt64 * v2.toInt64) * v2.toInt64) + (((σ.1 66 2).toInt64 * v2.toInt64) * v2.toInt64)) + ((σ.1 66 3).toInt64 * v2.toInt64)) v1).bind fun x2 => f_M_laysBest_l44 N (fun (y8 : Int32) (y9 : Int32) σ10 => f_M_laysBest_l11 N n y8 (y9 + (1 : Int32)) σ10) N v1 v2 x2 (0 : Int32) σ))
set_option maxRecDepth 20000 in
set_option maxHeartbeats 4000000 in
theorem t_M_laysBest_l11 (d : Nat) {N : Nat} {x : aSt} {P : Option Value → aSt → Prop} (hp : P none x) : ∀ (n : Nat) (d3 d4 d5 : Option Value) (v1 : Int32) (v2 : Int32) (σ : aSt), f_M_laysBest_l11 N n v1 v2 σ = some x → aGo (aCall MT (d + 3)) P mc_M_laysBest 11 [some (.ref 66), some (.int v1), some (.int v2), d3, d4, d5] [] σ := by
  intro n
  induction n with
  | zero => intro d3 d4 d5 v1 v2 σ h; cases h
  | succ n ih =>
    intro d3 d4 d5 v1 v2 σ h
    rw [f_M_laysBest_l11] at h
    refine go_if (c := v1 ≤ v2) (k1 := 79) (L1 := [some (.ref 66), some (.int v1), some (.int v2), d3, d4, d5]) (S1 := []) (σ1 := σ) (k2 := 14) (L2 := [some (.ref 66), some (.int v1), some (.int v2), d3, d4, d5]) (S2 := []) (σ2 := σ) 3 (fun n h => h) (fun hc1 => ?_) (fun hc1 => ?_)
    · rw [if_pos hc1] at h
      cases h
      exact go_ret 1 (fun _ => hp)
    · rw [if_neg hc1] at h
      obtain ⟨x2, hx2, h⟩ := bind_of h
      refine go_call (r := some (.int x2)) (σc := σ) (σ1 := σ) (mi := 147) (vs := [.long ((((v2.toInt64 * v2.toInt64) * v2.toInt64) + (((σ.1 66 2).toInt64 * v2.toInt64) * v2.toInt64)) + ((σ.1 66 3).toInt64 * v2.toInt64)), .int v1]) (k' := 41) (L' := [some (.ref 66), some (.int v1), some (.int v2), d3, d4, d5]) (S' := []) 27 (fun P9 h9 => c_M_mod (d + 2) ((((v2.toInt64 * v2.toInt64) * v2.toInt64) + (((σ.1 66 2).toInt64 * v2.toInt64) * v2.toInt64)) + ((σ.1 66 3).toInt64 * v2.toInt64)) v1 σ hx2 h9) (fun n h => h) ?_
      refine go_st (k' := 44) (L' := [some (.ref 66), some (.int v1), some (.int v2), some (.int x2), some (.int (0 : Int32)), d5]) (S' := []) (σ' := σ) 3 (fun n h => h) ?_
      refine t_M_laysBest_l44 d _ hp (fun d3 d4 d5 y8 y9 σ10 h => ?_) N _ v1 v2 x2 (0 : Int32) σ h
      · refine go_st (k' := 11) (L' := [some (.ref 66), some (.int y8), some (.int (y9 + (1 : Int32))), d3, d4, d5]) (S' := []) (σ' := σ10) 2 (fun n h => h) ?_
        exact ih _ _ _ y8 (y9 + (1 : Int32)) σ10 h
def f_M_laysBest (N : Nat) (p0 : Int32) (σ : aSt) : Option aSt :=
  f_M_laysBest_l11 N N p0 (0 : Int32) (s_i (s_i (s_i σ 66 35 (1 : Int32)) 66 36 (-1 : Int32)) 66 37 (-1 : Int32))
set_option maxRecDepth 20000 in
set_option maxHeartbeats 4000000 in
theorem c_M_laysBest (d : Nat) {N : Nat} (p0 : Int32) (σ : aSt) {P : Option Value → aSt → Prop} {x : aSt} (h : f_M_laysBest N p0 σ = some x) (hp : P none x) : aCall MT (d + 4) 288 [.ref 66, .int p0] σ P := by
  unfold f_M_laysBest at h
  refine call_of (code := mc_M_laysBest) (L := [some (.ref 66), some (.int p0), none, none, none, none]) rfl rfl rfl rfl ?_
  refine go_st (k' := 11) (L' := [some (.ref 66), some (.int p0), some (.int (0 : Int32)), none, none, none]) (S' := []) (σ' := (s_i (s_i (s_i σ 66 35 (1 : Int32)) 66 36 (-1 : Int32)) 66 37 (-1 : Int32))) 11 (fun n h => h) ?_
  exact t_M_laysBest_l11 d hp N _ _ _ p0 (0 : Int32) (s_i (s_i (s_i σ 66 35 (1 : Int32)) 66 36 (-1 : Int32)) 66 37 (-1 : Int32)) h
def f_M_groupBy (N : Nat) (p0 : Int32) (p1 : Int32) (σ : aSt) : Option (Int32 × aSt) :=
  ((f_M_isGoodPrime N p0 σ).bind fun x1 => (if x1 = true then (if (f_M_in p1.toInt64 (0 : Int64) (1 : Int64)) = true then ((f_M_laysBest N p0 σ).bind fun x4 => (if p1 ≠ 0 then ((f_M_manyOf N p0 x4).bind fun x6 => (if ¬ (x4.1 66 35) = 0 then some ((x6 / (x4.1 66 35)), x4) else none)) else some ((x4.1 66 35), x4))) else some ((-2 : Int32), σ)) else some ((-2 : Int32), σ)))
set_option maxRecDepth 20000 in
set_option maxHeartbeats 4000000 in
theorem c_M_groupBy (d : Nat) {N : Nat} (p0 : Int32) (p1 : Int32) (σ : aSt) {P : Option Value → aSt → Prop} {x : (Int32 × aSt)} (h : f_M_groupBy N p0 p1 σ = some x) (hp : P (some (.int x.1)) x.2) : aCall MT (d + 5) 289 [.ref 66, .int p0, .int p1] σ P := by
  unfold f_M_groupBy at h
  refine call_of (code := mc_M_groupBy) (L := [some (.ref 66), some (.int p0), some (.int p1)]) rfl rfl rfl rfl ?_
  obtain ⟨x1, hx1, h⟩ := bind_of h
  refine go_call (r := some (.int (b2i x1))) (σc := σ) (σ1 := σ) (mi := 146) (vs := [.ref 66, .int p0]) (k' := 3) (L' := [some (.ref 66), some (.int p0), some (.int p1)]) (S' := []) 3 (fun P9 h9 => c_M_isGoodPrime (d + 2) p0 σ hx1 h9) (fun n h => h) ?_
  refine go_ifz (b := x1) (k1 := 10) (L1 := [some (.ref 66), some (.int p0), some (.int p1)]) (S1 := []) (σ1 := σ) (k2 := 4) (L2 := [some (.ref 66), some (.int p0), some (.int p1)]) (S2 := []) (σ2 := σ) 1 (fun n h => h) (fun hc2 => ?_) (fun hc2 => ?_)
  · rw [if_neg hc2] at h
    cases h
    exact go_ret 2 (fun _ => hp)
  · rw [if_pos hc2] at h
    refine go_call (r := some (.int (b2i (f_M_in p1.toInt64 (0 : Int64) (1 : Int64))))) (σc := σ) (σ1 := σ) (mi := 7) (vs := [.long p1.toInt64, .long (0 : Int64), .long (1 : Int64)]) (k' := 9) (L' := [some (.ref 66), some (.int p0), some (.int p1)]) (S' := []) 5 (fun P9 h9 => c_M_in (d + 3) p1.toInt64 (0 : Int64) (1 : Int64) σ h9) (fun n h => h) ?_
    refine go_ifn (b := (f_M_in p1.toInt64 (0 : Int64) (1 : Int64))) (k1 := 12) (L1 := [some (.ref 66), some (.int p0), some (.int p1)]) (S1 := []) (σ1 := σ) (k2 := 10) (L2 := [some (.ref 66), some (.int p0), some (.int p1)]) (S2 := []) (σ2 := σ) 1 (fun n h => h) (fun hc3 => ?_) (fun hc3 => ?_)
    · rw [if_pos hc3] at h
      obtain ⟨x4, hx4, h⟩ := bind_of h
      refine go_call (r := none) (σc := σ) (σ1 := x4) (mi := 288) (vs := [.ref 66, .int p0]) (k' := 15) (L' := [some (.ref 66), some (.int p0), some (.int p1)]) (S' := []) 3 (fun P9 h9 => c_M_laysBest (d + 0) p0 σ hx4 h9) (fun n h => h) ?_
      refine go_if (c := p1 ≠ 0) (k1 := 20) (L1 := [some (.ref 66), some (.int p0), some (.int p1)]) (S1 := []) (σ1 := x4) (k2 := 17) (L2 := [some (.ref 66), some (.int p0), some (.int p1)]) (S2 := []) (σ2 := x4) 2 (fun n h => h) (fun hc5 => ?_) (fun hc5 => ?_)
      · rw [if_pos hc5] at h
        obtain ⟨x6, hx6, h⟩ := bind_of h
        refine go_call (r := some (.int x6)) (σc := x4) (σ1 := x4) (mi := 148) (vs := [.ref 66, .int p0]) (k' := 23) (L' := [some (.ref 66), some (.int p0), some (.int p1)]) (S' := []) 3 (fun P9 h9 => c_M_manyOf (d + 2) p0 x4 hx6 h9) (fun n h => h) ?_
        obtain ⟨hc7, h⟩ := ite_of h
        refine go_q (Q := ¬ (x4.1 66 35) = 0) (k' := 26) (L' := [some (.ref 66), some (.int p0), some (.int p1)]) (S' := [.int (x6 / (x4.1 66 35))]) (σ' := x4) 3 hc7 (fun n h => h) ?_
        cases h
        exact go_ret 1 (fun _ => hp)
      · rw [if_neg hc5] at h
        cases h
        exact go_ret 4 (fun _ => hp)
    · rw [if_neg hc3] at h
      cases h
      exact go_ret 2 (fun _ => hp)
def f_M_logBy_l45 (N : Nat) : Nat → Int32 → Int32 → Int32 → Int32 → aSt → Option (Int32 × aSt)
  | 0, _, _, _, _, _ => none
  | n + 1, v3, v5, v6, v7, σ => ((f_M_addsBy N (σ.1 66 32) (σ.1 66 33) v3 σ).bind fun x9 => (if (x9.2.2 66 31) = true then (if (x9.2.2 66 31) = true then some ((-1 : Int32), x9) else f_M_logBy_l45 N n v3 v5 v6 (v7 + (1 : Int32)) x9) else (if (x9.1 66 29) ≠ v5 then (if (x9.2.2 66 31) = true then some ((-1 : Int32), x9) else f_M_logBy_l45 N n v3 v5 v6 (v7 + (1 : Int32)) x9) else (if (x9.1 66 30) ≠ v6 then (if (x9.2.2 66 31) = true then some ((-1 : Int32), x9) else f_M_logBy_l45 N n v3 v5 v6 (v7 + (1 : Int32)) x9) else some ((v7 + (1 : Int32)), x9)))))
set_option maxRecDepth 20000 in
set_option maxHeartbeats 4000000 in
theorem t_M_logBy_l45 (d : Nat) {N : Nat} {x : (Int32 × aSt)} {P : Option Value → aSt → Prop} (hp : P (some (.int x.1)) x.2) : ∀ (n : Nat) (d1 d2 d4 : Option Value) (v3 : Int32) (v5 : Int32) (v6 : Int32) (v7 : Int32) (σ : aSt), f_M_logBy_l45 N n v3 v5 v6 v7 σ = some x → aGo (aCall MT (d + 3)) P mc_M_logBy 45 [some (.ref 66), d1, d2, some (.int v3), d4, some (.int v5), some (.int v6), some (.int v7)] [] σ := by
  intro n
  induction n with
  | zero => intro d1 d2 d4 v3 v5 v6 v7 σ h; cases h
  | succ n ih =>
    intro d1 d2 d4 v3 v5 v6 v7 σ h
    rw [f_M_logBy_l45] at h
    obtain ⟨x9, hx9, h⟩ := bind_of h
    refine go_call (r := none) (σc := σ) (σ1 := x9) (mi := 157) (vs := [.ref 66, .int (σ.1 66 32), .int (σ.1 66 33), .int v3]) (k' := 52) (L' := [some (.ref 66), d1, d2, some (.int v3), d4, some (.int v5), some (.int v6), some (.int v7)]) (S' := []) 7 (fun P9 h9 => c_M_addsBy (d + 1) (σ.1 66 32) (σ.1 66 33) v3 σ hx9 h9) (fun n h => h) ?_
    refine go_ifn (b := (x9.2.2 66 31)) (k1 := 66) (L1 := [some (.ref 66), d1, d2, some (.int v3), d4, some (.int v5), some (.int v6), some (.int (v7 + (1 : Int32)))]) (S1 := []) (σ1 := x9) (k2 := 56) (L2 := [some (.ref 66), d1, d2, some (.int v3), d4, some (.int v5), some (.int v6), some (.int (v7 + (1 : Int32)))]) (S2 := []) (σ2 := x9) 4 (fun n h => h) (fun hc10 => ?_) (fun hc10 => ?_)
    · rw [if_pos hc10] at h
      refine go_ifz (b := (x9.2.2 66 31)) (k1 := 45) (L1 := [some (.ref 66), d1, d2, some (.int v3), d4, some (.int v5), some (.int v6), some (.int (v7 + (1 : Int32)))]) (S1 := []) (σ1 := x9) (k2 := 69) (L2 := [some (.ref 66), d1, d2, some (.int v3), d4, some (.int v5), some (.int v6), some (.int (v7 + (1 : Int32)))]) (S2 := []) (σ2 := x9) 3 (fun n h => h) (fun hc11 => ?_) (fun hc11 => ?_)
      · rw [if_neg hc11] at h
        exact ih _ _ _ v3 v5 v6 (v7 + (1 : Int32)) x9 h
      · rw [if_pos hc11] at h
        cases h
        exact go_ret 2 (fun _ => hp)
    · rw [if_neg hc10] at h
      refine go_if (c := (x9.1 66 29) ≠ v5) (k1 := 66) (L1 := [some (.ref 66), d1, d2, some (.int v3), d4, some (.int v5), some (.int v6), some (.int (v7 + (1 : Int32)))]) (S1 := []) (σ1 := x9) (k2 := 60) (L2 := [some (.ref 66), d1, d2, some (.int v3), d4, some (.int v5), some (.int v6), some (.int (v7 + (1 : Int32)))]) (S2 := []) (σ2 := x9) 4 (fun n h => h) (fun hc12 => ?_) (fun hc12 => ?_)
      · rw [if_pos hc12] at h
        refine go_ifz (b := (x9.2.2 66 31)) (k1 := 45) (L1 := [some (.ref 66), d1, d2, some (.int v3), d4, some (.int v5), some (.int v6), some (.int (v7 + (1 : Int32)))]) (S1 := []) (σ1 := x9) (k2 := 69) (L2 := [some (.ref 66), d1, d2, some (.int v3), d4, some (.int v5), some (.int v6), some (.int (v7 + (1 : Int32)))]) (S2 := []) (σ2 := x9) 3 (fun n h => h) (fun hc13 => ?_) (fun hc13 => ?_)
        · rw [if_neg hc13] at h
          exact ih _ _ _ v3 v5 v6 (v7 + (1 : Int32)) x9 h
        · rw [if_pos hc13] at h
          cases h
          exact go_ret 2 (fun _ => hp)
      · rw [if_neg hc12] at h
        refine go_if (c := (x9.1 66 30) ≠ v6) (k1 := 66) (L1 := [some (.ref 66), d1, d2, some (.int v3), d4, some (.int v5), some (.int v6), some (.int (v7 + (1 : Int32)))]) (S1 := []) (σ1 := x9) (k2 := 64) (L2 := [some (.ref 66), d1, d2, some (.int v3), d4, some (.int v5), some (.int v6), some (.int (v7 + (1 : Int32)))]) (S2 := []) (σ2 := x9) 4 (fun n h => h) (fun hc14 => ?_) (fun hc14 => ?_)
        · rw [if_pos hc14] at h
          refine go_ifz (b := (x9.2.2 66 31)) (k1 := 45) (L1 := [some (.ref 66), d1, d2, some (.int v3), d4, some (.int v5), some (.int v6), some (.int (v7 + (1 : Int32)))]) (S1 := []) (σ1 := x9) (k2 := 69) (L2 := [some (.ref 66), d1, d2, some (.int v3), d4, some (.int v5), some (.int v6), some (.int (v7 + (1 : Int32)))]) (S2 := []) (σ2 := x9) 3 (fun n h => h) (fun hc15 => ?_) (fun hc15 => ?_)
          · rw [if_neg hc15] at h
            exact ih _ _ _ v3 v5 v6 (v7 + (1 : Int32)) x9 h
          · rw [if_pos hc15] at h
            cases h
            exact go_ret 2 (fun _ => hp)
        · rw [if_neg hc14] at h
          cases h
          exact go_ret 2 (fun _ => hp)
def f_M_logBy (N : Nat) (p0 : Int32) (p1 : Int32) (p2 : Int32) (σ : aSt) : Option (Int32 × aSt) :=
  (if (f_M_isPoint p0 σ) = true then (if (f_M_isPoint p1 σ) = true then ((f_M_isGoodPrime N p2 σ).bind fun x3 => (if x3 = true then ((f_M_starts N p1 p2 σ).bind fun x5 => (if (x5.2.2 66 34) = true then some ((0 : Int32), x5) else ((f_M_starts N p0 p2 x5).bind fun x7 => (if (x7.2.2 66 34) = true then some ((-1 : Int32), x7) else f_M_logBy_l45 N N p2 (x5.1 66 32) (x5.1 66 33) (0 : Int32) (s_b x7 66 31 true))))) else some ((-2 : Int32), σ))) else some ((-2 : Int32), σ)) else some ((-2 : Int32), σ))
set_option maxRecDepth 20000 in
set_option maxHeartbeats 4000000 in
theorem c_M_logBy (d : Nat) {N : Nat} (p0 : Int32) (p1 : Int32) (p2 : Int32) (σ : aSt) {P : Option Value → aSt → Prop} {x : (Int32 × aSt)} (h : f_M_logBy N p0 p1 p2 σ = some x) (hp : P (some (.int x.1)) x.2) : aCall MT (d + 4) 292 [.ref 66, .int p0, .int p1, .int p2] σ P := by
  unfold f_M_logBy at h
  refine call_of (code := mc_M_logBy) (L := [some (.ref 66), some (.int p0), some (.int p1), some (.int p2), none, none, none, none]) rfl rfl rfl rfl ?_
  refine go_call (r := some (.int (b2i (f_M_isPoint p0 σ)))) (σc := σ) (σ1 := σ) (mi := 90) (vs := [.ref 66, .int p0]) (k' := 3) (L' := [some (.ref 66), some (.int p0), some (.int p1), some (.int p2), none, none, none, none]) (S' := []) 3 (fun P9 h9 => c_M_isPoint (d + 0) p0 σ h9) (fun n h => h) ?_
  refine go_ifz (b := (f_M_isPoint p0 σ)) (k1 := 12) (L1 := [some (.ref 66), some (.int p0), some (.int p1), some (.int p2), none, none, none, none]) (S1 := []) (σ1 := σ) (k2 := 4) (L2 := [some (.ref 66), some (.int p0), some (.int p1), some (.int p2), none, none, none, none]) (S2 := []) (σ2 := σ) 1 (fun n h => h) (fun hc1 => ?_) (fun hc1 => ?_)
  · rw [if_neg hc1] at h
    cases h
    exact go_ret 2 (fun _ => hp)
  · rw [if_pos hc1] at h
    refine go_call (r := some (.int (b2i (f_M_isPoint p1 σ)))) (σc := σ) (σ1 := σ) (mi := 90) (vs := [.ref 66, .int p1]) (k' := 7) (L' := [some (.ref 66), some (.int p0), some (.int p1), some (.int p2), none, none, none, none]) (S' := []) 3 (fun P9 h9 => c_M_isPoint (d + 0) p1 σ h9) (fun n h => h) ?_
    refine go_ifz (b := (f_M_isPoint p1 σ)) (k1 := 12) (L1 := [some (.ref 66), some (.int p0), some (.int p1), some (.int p2), none, none, none, none]) (S1 := []) (σ1 := σ) (k2 := 8) (L2 := [some (.ref 66), some (.int p0), some (.int p1), some (.int p2), none, none, none, none]) (S2 := []) (σ2 := σ) 1 (fun n h => h) (fun hc2 => ?_) (fun hc2 => ?_)
    · rw [if_neg hc2] at h
      cases h
      exact go_ret 2 (fun _ => hp)
    · rw [if_pos hc2] at h
      obtain ⟨x3, hx3, h⟩ := bind_of h
      refine go_call (r := some (.int (b2i x3))) (σc := σ) (σ1 := σ) (mi := 146) (vs := [.ref 66, .int p2]) (k' := 11) (L' := [some (.ref 66), some (.int p0), some (.int p1), some (.int p2), none, none, none, none]) (S' := []) 3 (fun P9 h9 => c_M_isGoodPrime (d + 1) p2 σ hx3 h9) (fun n h => h) ?_
      refine go_ifn (b := x3) (k1 := 14) (L1 := [some (.ref 66), some (.int p0), some (.int p1), some (.int p2), none, none, none, none]) (S1 := []) (σ1 := σ) (k2 := 12) (L2 := [some (.ref 66), some (.int p0), some (.int p1), some (.int p2), none, none, none, none]) (S2 := []) (σ2 := σ) 1 (fun n h => h) (fun hc4 => ?_) (fun hc4 => ?_)
      · rw [if_pos hc4] at h
        obtain ⟨x5, hx5, h⟩ := bind_of h
        refine go_call (r := none) (σc := σ) (σ1 := x5) (mi := 156) (vs := [.ref 66, .int p1, .int p2]) (k' := 18) (L' := [some (.ref 66), some (.int p0), some (.int p1), some (.int p2), none, none, none, none]) (S' := []) 4 (fun P9 h9 => c_M_starts (d + 1) p1 p2 σ hx5 h9) (fun n h => h) ?_
        refine go_ifz (b := (x5.2.2 66 34)) (k1 := 31) (L1 := [some (.ref 66), some (.int p0), some (.int p1), some (.int p2), some (.int (b2i (x5.2.2 66 34))), some (.int (x5.1 66 32)), some (.int (x5.1 66 33)), none]) (S1 := []) (σ1 := x5) (k2 := 29) (L2 := [some (.ref 66), some (.int p0), some (.int p1), some (.int p2), some (.int (b2i (x5.2.2 66 34))), some (.int (x5.1 66 32)), some (.int (x5.1 66 33)), none]) (S2 := []) (σ2 := x5) 11 (fun n h => h) (fun hc6 => ?_) (fun hc6 => ?_)
        · rw [if_neg hc6] at h
          obtain ⟨x7, hx7, h⟩ := bind_of h
          refine go_call (r := none) (σc := x5) (σ1 := x7) (mi := 156) (vs := [.ref 66, .int p0, .int p2]) (k' := 35) (L' := [some (.ref 66), some (.int p0), some (.int p1), some (.int p2), some (.int (b2i (x5.2.2 66 34))), some (.int (x5.1 66 32)), some (.int (x5.1 66 33)), none]) (S' := []) 4 (fun P9 h9 => c_M_starts (d + 1) p0 p2 x5 hx7 h9) (fun n h => h) ?_
          refine go_ifz (b := (x7.2.2 66 34)) (k1 := 40) (L1 := [some (.ref 66), some (.int p0), some (.int p1), some (.int p2), some (.int (b2i (x5.2.2 66 34))), some (.int (x5.1 66 32)), some (.int (x5.1 66 33)), none]) (S1 := []) (σ1 := x7) (k2 := 38) (L2 := [some (.ref 66), some (.int p0), some (.int p1), some (.int p2), some (.int (b2i (x5.2.2 66 34))), some (.int (x5.1 66 32)), some (.int (x5.1 66 33)), none]) (S2 := []) (σ2 := x7) 3 (fun n h => h) (fun hc8 => ?_) (fun hc8 => ?_)
          · rw [if_neg hc8] at h
            refine go_q (Q := (1 : Int32) = 0 ∨ (1 : Int32) = 1) (k' := 43) (L' := [some (.ref 66), some (.int p0), some (.int p1), some (.int p2), some (.int (b2i (x5.2.2 66 34))), some (.int (x5.1 66 32)), some (.int (x5.1 66 33)), none]) (S' := []) (σ' := (s_b x7 66 31 true)) 3 (Or.inr rfl) (fun n h => h) ?_
            refine go_st (k' := 45) (L' := [some (.ref 66), some (.int p0), some (.int p1), some (.int p2), some (.int (b2i (x5.2.2 66 34))), some (.int (x5.1 66 32)), some (.int (x5.1 66 33)), some (.int (0 : Int32))]) (S' := []) (σ' := (s_b x7 66 31 true)) 2 (fun n h => h) ?_
            exact t_M_logBy_l45 d hp N _ _ _ p2 (x5.1 66 32) (x5.1 66 33) (0 : Int32) (s_b x7 66 31 true) h
          · rw [if_pos hc8] at h
            cases h
            exact go_ret 2 (fun _ => hp)
        · rw [if_pos hc6] at h
          cases h
          exact go_ret 2 (fun _ => hp)
      · rw [if_neg hc4] at h
        cases h
        exact go_ret 2 (fun _ => hp)
def f_M_bestBy (N : Nat) (p0 : Int32) (p1 : Int32) (σ : aSt) : Option (Int32 × aSt) :=
  ((f_M_isGoodPrime N p0 σ).bind fun x1 => (if x1 = true then (if (f_M_in p1.toInt64 (0 : Int64) (1 : Int64)) = true then ((f_M_laysBest N p0 σ).bind fun x4 => (if p1 ≠ 0 then some ((x4.1 66 37), x4) else some ((x4.1 66 36), x4))) else some ((-2 : Int32), σ)) else some ((-2 : Int32), σ)))
set_option maxRecDepth 20000 in
set_option maxHeartbeats 4000000 in
theorem c_M_bestBy (d : Nat) {N : Nat} (p0 : Int32) (p1 : Int32) (σ : aSt) {P : Option Value → aSt → Prop} {x : (Int32 × aSt)} (h : f_M_bestBy N p0 p1 σ = some x) (hp : P (some (.int x.1)) x.2) : aCall MT (d + 5) 295 [.ref 66, .int p0, .int p1] σ P := by
  unfold f_M_bestBy at h
  refine call_of (code := mc_M_bestBy) (L := [some (.ref 66), some (.int p0), some (.int p1)]) rfl rfl rfl rfl ?_
  obtain ⟨x1, hx1, h⟩ := bind_of h
  refine go_call (r := some (.int (b2i x1))) (σc := σ) (σ1 := σ) (mi := 146) (vs := [.ref 66, .int p0]) (k' := 3) (L' := [some (.ref 66), some (.int p0), some (.int p1)]) (S' := []) 3 (fun P9 h9 => c_M_isGoodPrime (d + 2) p0 σ hx1 h9) (fun n h => h) ?_
  refine go_ifz (b := x1) (k1 := 10) (L1 := [some (.ref 66), some (.int p0), some (.int p1)]) (S1 := []) (σ1 := σ) (k2 := 4) (L2 := [some (.ref 66), some (.int p0), some (.int p1)]) (S2 := []) (σ2 := σ) 1 (fun n h => h) (fun hc2 => ?_) (fun hc2 => ?_)
  · rw [if_neg hc2] at h
    cases h
    exact go_ret 2 (fun _ => hp)
  · rw [if_pos hc2] at h
    refine go_call (r := some (.int (b2i (f_M_in p1.toInt64 (0 : Int64) (1 : Int64))))) (σc := σ) (σ1 := σ) (mi := 7) (vs := [.long p1.toInt64, .long (0 : Int64), .long (1 : Int64)]) (k' := 9) (L' := [some (.ref 66), some (.int p0), some (.int p1)]) (S' := []) 5 (fun P9 h9 => c_M_in (d + 3) p1.toInt64 (0 : Int64) (1 : Int64) σ h9) (fun n h => h) ?_
    refine go_ifn (b := (f_M_in p1.toInt64 (0 : Int64) (1 : Int64))) (k1 := 12) (L1 := [some (.ref 66), some (.int p0), some (.int p1)]) (S1 := []) (σ1 := σ) (k2 := 10) (L2 := [some (.ref 66), some (.int p0), some (.int p1)]) (S2 := []) (σ2 := σ) 1 (fun n h => h) (fun hc3 => ?_) (fun hc3 => ?_)
    · rw [if_pos hc3] at h
      obtain ⟨x4, hx4, h⟩ := bind_of h
      refine go_call (r := none) (σc := σ) (σ1 := x4) (mi := 288) (vs := [.ref 66, .int p0]) (k' := 15) (L' := [some (.ref 66), some (.int p0), some (.int p1)]) (S' := []) 3 (fun P9 h9 => c_M_laysBest (d + 0) p0 σ hx4 h9) (fun n h => h) ?_
      refine go_if (c := p1 ≠ 0) (k1 := 20) (L1 := [some (.ref 66), some (.int p0), some (.int p1)]) (S1 := []) (σ1 := x4) (k2 := 17) (L2 := [some (.ref 66), some (.int p0), some (.int p1)]) (S2 := []) (σ2 := x4) 2 (fun n h => h) (fun hc5 => ?_) (fun hc5 => ?_)
      · rw [if_pos hc5] at h
        cases h
        exact go_ret 3 (fun _ => hp)
      · rw [if_neg hc5] at h
        cases h
        exact go_ret 4 (fun _ => hp)
    · rw [if_neg hc3] at h
      cases h
      exact go_ret 2 (fun _ => hp)
def f_M_walk_l10 (N : Nat) : Nat → Int32 → Int32 → Int32 → aSt → Option (Int32 × aSt)
  | 0, _, _, _, _ => none
  | n + 1, v1, v2, v3, σ => (if (20 : Int32) < v3 then some ((20 : Int32), σ) else ((f_M_sumOf N v2 v1 (1 : Int32) σ).bind fun x3 => (if x3.1 = (-6 : Int32) then some ((v3 - (1 : Int32)), x3.2) else (if x3.1 ≠ (1000 : Int32) then f_M_walk_l10 N n v1 x3.1 (v3 + (1 : Int32)) x3.2 else some ((v3 - (1 : Int32)), x3.2)))))
set_option maxRecDepth 20000 in
set_option maxHeartbeats 4000000 in
theorem t_M_walk_l10 (d : Nat) {N : Nat} {x : (Int32 × aSt)} {P : Option Value → aSt → Prop} (hp : P (some (.int x.1)) x.2) : ∀ (n : Nat) (v1 : Int32) (v2 : Int32) (v3 : Int32) (σ : aSt), f_M_walk_l10 N n v1 v2 v3 σ = some x → aGo (aCall MT (d + 4)) P mc_M_walk 10 [some (.ref 66), some (.int v1), some (.int v2), some (.int v3)] [] σ := by
  intro n
  induction n with
  | zero => intro v1 v2 v3 σ h; cases h
  | succ n ih =>
    intro v1 v2 v3 σ h
    rw [f_M_walk_l10] at h
    refine go_if (c := (20 : Int32) < v3) (k1 := 31) (L1 := [some (.ref 66), some (.int v1), some (.int v2), some (.int v3)]) (S1 := []) (σ1 := σ) (k2 := 13) (L2 := [some (.ref 66), some (.int v1), some (.int v2), some (.int v3)]) (S2 := []) (σ2 := σ) 3 (fun n h => h) (fun hc2 => ?_) (fun hc2 => ?_)
    · rw [if_pos hc2] at h
      cases h
      exact go_ret 2 (fun _ => hp)
    · rw [if_neg hc2] at h
      obtain ⟨x3, hx3, h⟩ := bind_of h
      refine go_call (r := some (.int x3.1)) (σc := σ) (σ1 := x3.2) (mi := 105) (vs := [.ref 66, .int v2, .int v1, .int (1 : Int32)]) (k' := 18) (L' := [some (.ref 66), some (.int v1), some (.int v2), some (.int v3)]) (S' := []) 5 (fun P9 h9 => c_M_sumOf (d + 0) v2 v1 (1 : Int32) σ hx3 h9) (fun n h => h) ?_
      refine go_if (c := x3.1 = (-6 : Int32)) (k1 := 25) (L1 := [some (.ref 66), some (.int v1), some (.int x3.1), some (.int v3)]) (S1 := []) (σ1 := x3.2) (k2 := 22) (L2 := [some (.ref 66), some (.int v1), some (.int x3.1), some (.int v3)]) (S2 := []) (σ2 := x3.2) 4 (fun n h => h) (fun hc4 => ?_) (fun hc4 => ?_)
      · rw [if_pos hc4] at h
        cases h
        exact go_ret 4 (fun _ => hp)
      · rw [if_neg hc4] at h
        refine go_if (c := x3.1 ≠ (1000 : Int32)) (k1 := 29) (L1 := [some (.ref 66), some (.int v1), some (.int x3.1), some (.int v3)]) (S1 := []) (σ1 := x3.2) (k2 := 25) (L2 := [some (.ref 66), some (.int v1), some (.int x3.1), some (.int v3)]) (S2 := []) (σ2 := x3.2) 3 (fun n h => h) (fun hc5 => ?_) (fun hc5 => ?_)
        · rw [if_pos hc5] at h
          refine go_st (k' := 10) (L' := [some (.ref 66), some (.int v1), some (.int x3.1), some (.int (v3 + (1 : Int32)))]) (S' := []) (σ' := x3.2) 2 (fun n h => h) ?_
          exact ih v1 x3.1 (v3 + (1 : Int32)) x3.2 h
        · rw [if_neg hc5] at h
          cases h
          exact go_ret 4 (fun _ => hp)
def f_M_walk (N : Nat) (p0 : Int32) (σ : aSt) : Option (Int32 × aSt) :=
  (if (f_M_isPoint p0 σ) = true then f_M_walk_l10 N N p0 (1000 : Int32) (1 : Int32) σ else some ((-2 : Int32), σ))
set_option maxRecDepth 20000 in
set_option maxHeartbeats 4000000 in
theorem c_M_walk (d : Nat) {N : Nat} (p0 : Int32) (σ : aSt) {P : Option Value → aSt → Prop} {x : (Int32 × aSt)} (h : f_M_walk N p0 σ = some x) (hp : P (some (.int x.1)) x.2) : aCall MT (d + 5) 297 [.ref 66, .int p0] σ P := by
  unfold f_M_walk at h
  refine call_of (code := mc_M_walk) (L := [some (.ref 66), some (.int p0), none, none]) rfl rfl rfl rfl ?_
  refine go_call (r := some (.int (b2i (f_M_isPoint p0 σ)))) (σc := σ) (σ1 := σ) (mi := 90) (vs := [.ref 66, .int p0]) (k' := 3) (L' := [some (.ref 66), some (.int p0), none, none]) (S' := []) 3 (fun P9 h9 => c_M_isPoint (d + 1) p0 σ h9) (fun n h => h) ?_
  refine go_ifn (b := (f_M_isPoint p0 σ)) (k1 := 6) (L1 := [some (.ref 66), some (.int p0), none, none]) (S1 := []) (σ1 := σ) (k2 := 4) (L2 := [some (.ref 66), some (.int p0), none, none]) (S2 := []) (σ2 := σ) 1 (fun n h => h) (fun hc1 => ?_) (fun hc1 => ?_)
  · rw [if_pos hc1] at h
    refine go_st (k' := 10) (L' := [some (.ref 66), some (.int p0), some (.int (1000 : Int32)), some (.int (1 : Int32))]) (S' := []) (σ' := σ) 4 (fun n h => h) ?_
    exact t_M_walk_l10 d hp N p0 (1000 : Int32) (1 : Int32) σ h
  · rw [if_neg hc1] at h
    cases h
    exact go_ret 2 (fun _ => hp)
def f_M_between_l27 (N : Nat) (σ : aSt) : Nat → Int32 → Int32 → Int32 → Int32 → Int32 → Option Int32
  | 0, _, _, _, _, _ => none
  | n + 1, v1, v2, v3, v4, v5 => (if (σ.1 66 9) ≤ v5 then some v4 else (if 0 ≤ v5 ∧ v5 < (120 : Int32) then (if ((σ.1 67 v5.toNatClampNeg).toInt64 * v3.toInt64) < (v1.toInt64 * ((σ.1 69 v5.toNatClampNeg).toInt64 * (σ.1 69 v5.toNatClampNeg).toInt64)) then f_M_between_l27 N σ n v1 v2 v3 (v4 + (0 : Int32)) (v5 + (1 : Int32)) else (if (v2.toInt64 * ((σ.1 69 v5.toNatClampNeg).toInt64 * (σ.1 69 v5.toNatClampNeg).toInt64)) < ((σ.1 67 v5.toNatClampNeg).toInt64 * v3.toInt64) then f_M_between_l27 N σ n v1 v2 v3 (v4 + (0 : Int32)) (v5 + (1 : Int32)) else f_M_between_l27 N σ n v1 v2 v3 (v4 + (1 : Int32)) (v5 + (1 : Int32)))) else none))
set_option maxRecDepth 20000 in
set_option maxHeartbeats 4000000 in
theorem t_M_between_l27 (d : Nat) {N : Nat} (σ : aSt) {x : Int32} {P : Option Value → aSt → Prop} (hp : P (some (.int x)) σ) : ∀ (n : Nat) (d6 d7 d8 d9 : Option Value) (v1 : Int32) (v2 : Int32) (v3 : Int32) (v4 : Int32) (v5 : Int32), f_M_between_l27 N σ n v1 v2 v3 v4 v5 = some x → aGo (aCall MT (d + 1)) P mc_M_between 27 [some (.ref 66), some (.int v1), some (.int v2), some (.int v3), some (.int v4), some (.int v5), d6, d7, d8, d9] [] σ := by
  intro n
  induction n with
  | zero => intro d6 d7 d8 d9 v1 v2 v3 v4 v5 h; cases h
  | succ n ih =>
    intro d6 d7 d8 d9 v1 v2 v3 v4 v5 h
    rw [f_M_between_l27] at h
    refine go_if (c := (σ.1 66 9) ≤ v5) (k1 := 74) (L1 := [some (.ref 66), some (.int v1), some (.int v2), some (.int v3), some (.int v4), some (.int v5), d6, d7, d8, d9]) (S1 := []) (σ1 := σ) (k2 := 31) (L2 := [some (.ref 66), some (.int v1), some (.int v2), some (.int v3), some (.int v4), some (.int v5), d6, d7, d8, d9]) (S2 := []) (σ2 := σ) 4 (fun n h => h) (fun hc5 => ?_) (fun hc5 => ?_)
    · rw [if_pos hc5] at h
      cases h
      exact go_ret 2 (fun _ => hp)
    · rw [if_neg hc5] at h
      obtain ⟨hc6, h⟩ := ite_of h
      refine go_q (Q := inb 0 σ 67 v5) (k' := 35) (L' := [some (.ref 66), some (.int v1), some (.int v2), some (.int v3), some (.int v4), some (.int v5), d6, d7, d8, d9]) (S' := [.int (σ.1 67 v5.toNatClampNeg)]) (σ' := σ) 4 (inb_mk rfl hc6.1 hc6.2) (fun n h => h) ?_
      refine go_q (Q := inb 0 σ 69 v5) (k' := 44) (L' := [some (.ref 66), some (.int v1), some (.int v2), some (.int v3), some (.int v4), some (.int v5), some (.long ((σ.1 67 v5.toNatClampNeg).toInt64 * v3.toInt64)), none, d8, d9]) (S' := [.int (σ.1 69 v5.toNatClampNeg)]) (σ' := σ) 9 (inb_mk rfl hc6.1 hc6.2) (fun n h => h) ?_
      refine go_q (Q := inb 0 σ 69 v5) (k' := 49) (L' := [some (.ref 66), some (.int v1), some (.int v2), some (.int v3), some (.int v4), some (.int v5), some (.long ((σ.1 67 v5.toNatClampNeg).toInt64 * v3.toInt64)), none, d8, d9]) (S' := [.int (σ.1 69 v5.toNatClampNeg), .long (σ.1 69 v5.toNatClampNeg).toInt64]) (σ' := σ) 5 (inb_mk rfl hc6.1 hc6.2) (fun n h => h) ?_
      refine go_iff (lcmp_lt ((σ.1 67 v5.toNatClampNeg).toInt64 * v3.toInt64) (v1.toInt64 * ((σ.1 69 v5.toNatClampNeg).toInt64 * (σ.1 69 v5.toNatClampNeg).toInt64))) (k1 := 69) (L1 := [some (.ref 66), some (.int v1), some (.int v2), some (.int v3), some (.int v4), some (.int v5), some (.long ((σ.1 67 v5.toNatClampNeg).toInt64 * v3.toInt64)), none, some (.long ((σ.1 69 v5.toNatClampNeg).toInt64 * (σ.1 69 v5.toNatClampNeg).toInt64)), none]) (S1 := [.int v4]) (σ1 := σ) (k2 := 60) (L2 := [some (.ref 66), some (.int v1), some (.int v2), some (.int v3), some (.int v4), some (.int v5), some (.long ((σ.1 67 v5.toNatClampNeg).toInt64 * v3.toInt64)), none, some (.long ((σ.1 69 v5.toNatClampNeg).toInt64 * (σ.1 69 v5.toNatClampNeg).toInt64)), none]) (S2 := [.int v4]) (σ2 := σ) 11 (fun n h => h) (fun hc7 => ?_) (fun hc7 => ?_)
      · rw [if_pos hc7] at h
        refine go_st (k' := 27) (L' := [some (.ref 66), some (.int v1), some (.int v2), some (.int v3), some (.int (v4 + (0 : Int32))), some (.int (v5 + (1 : Int32))), some (.long ((σ.1 67 v5.toNatClampNeg).toInt64 * v3.toInt64)), none, some (.long ((σ.1 69 v5.toNatClampNeg).toInt64 * (σ.1 69 v5.toNatClampNeg).toInt64)), none]) (S' := []) (σ' := σ) 5 (fun n h => h) ?_
        exact ih _ _ _ _ v1 v2 v3 (v4 + (0 : Int32)) (v5 + (1 : Int32)) h
      · rw [if_neg hc7] at h
        refine go_iff (lcmp_gt ((σ.1 67 v5.toNatClampNeg).toInt64 * v3.toInt64) (v2.toInt64 * ((σ.1 69 v5.toNatClampNeg).toInt64 * (σ.1 69 v5.toNatClampNeg).toInt64))) (k1 := 69) (L1 := [some (.ref 66), some (.int v1), some (.int v2), some (.int v3), some (.int v4), some (.int v5), some (.long ((σ.1 67 v5.toNatClampNeg).toInt64 * v3.toInt64)), none, some (.long ((σ.1 69 v5.toNatClampNeg).toInt64 * (σ.1 69 v5.toNatClampNeg).toInt64)), none]) (S1 := [.int v4]) (σ1 := σ) (k2 := 67) (L2 := [some (.ref 66), some (.int v1), some (.int v2), some (.int v3), some (.int v4), some (.int v5), some (.long ((σ.1 67 v5.toNatClampNeg).toInt64 * v3.toInt64)), none, some (.long ((σ.1 69 v5.toNatClampNeg).toInt64 * (σ.1 69 v5.toNatClampNeg).toInt64)), none]) (S2 := [.int v4]) (σ2 := σ) 7 (fun n h => h) (fun hc8 => ?_) (fun hc8 => ?_)
        · rw [if_pos hc8] at h
          refine go_st (k' := 27) (L' := [some (.ref 66), some (.int v1), some (.int v2), some (.int v3), some (.int (v4 + (0 : Int32))), some (.int (v5 + (1 : Int32))), some (.long ((σ.1 67 v5.toNatClampNeg).toInt64 * v3.toInt64)), none, some (.long ((σ.1 69 v5.toNatClampNeg).toInt64 * (σ.1 69 v5.toNatClampNeg).toInt64)), none]) (S' := []) (σ' := σ) 5 (fun n h => h) ?_
          exact ih _ _ _ _ v1 v2 v3 (v4 + (0 : Int32)) (v5 + (1 : Int32)) h
        · rw [if_neg hc8] at h
          refine go_st (k' := 27) (L' := [some (.ref 66), some (.int v1), some (.int v2), some (.int v3), some (.int (v4 + (1 : Int32))), some (.int (v5 + (1 : Int32))), some (.long ((σ.1 67 v5.toNatClampNeg).toInt64 * v3.toInt64)), none, some (.long ((σ.1 69 v5.toNatClampNeg).toInt64 * (σ.1 69 v5.toNatClampNeg).toInt64)), none]) (S' := []) (σ' := σ) 6 (fun n h => h) ?_
          exact ih _ _ _ _ v1 v2 v3 (v4 + (1 : Int32)) (v5 + (1 : Int32)) h
def f_M_between (N : Nat) (p0 : Int32) (p1 : Int32) (p2 : Int32) (σ : aSt) : Option Int32 :=
  (if (σ.2.2 66 1) = true then (if (f_M_in p0.toInt64 (-9999 : Int64) (9999 : Int64)) = true then (if (f_M_in p1.toInt64 (-9999 : Int64) (9999 : Int64)) = true then (if (f_M_in p2.toInt64 (1 : Int64) (99 : Int64)) = true then f_M_between_l27 N σ N p0 p1 p2 (0 : Int32) (0 : Int32) else some (-2 : Int32)) else some (-2 : Int32)) else some (-2 : Int32)) else some (-2 : Int32))
set_option maxRecDepth 20000 in
set_option maxHeartbeats 4000000 in
theorem c_M_between (d : Nat) {N : Nat} (p0 : Int32) (p1 : Int32) (p2 : Int32) (σ : aSt) {P : Option Value → aSt → Prop} {x : Int32} (h : f_M_between N p0 p1 p2 σ = some x) (hp : P (some (.int x)) σ) : aCall MT (d + 2) 300 [.ref 66, .int p0, .int p1, .int p2] σ P := by
  unfold f_M_between at h
  refine call_of (code := mc_M_between) (L := [some (.ref 66), some (.int p0), some (.int p1), some (.int p2), none, none, none, none, none, none]) rfl rfl rfl rfl ?_
  refine go_ifz (b := (σ.2.2 66 1)) (k1 := 21) (L1 := [some (.ref 66), some (.int p0), some (.int p1), some (.int p2), none, none, none, none, none, none]) (S1 := []) (σ1 := σ) (k2 := 3) (L2 := [some (.ref 66), some (.int p0), some (.int p1), some (.int p2), none, none, none, none, none, none]) (S2 := []) (σ2 := σ) 3 (fun n h => h) (fun hc1 => ?_) (fun hc1 => ?_)
  · rw [if_neg hc1] at h
    cases h
    exact go_ret 2 (fun _ => hp)
  · rw [if_pos hc1] at h
    refine go_call (r := some (.int (b2i (f_M_in p0.toInt64 (-9999 : Int64) (9999 : Int64))))) (σc := σ) (σ1 := σ) (mi := 7) (vs := [.long p0.toInt64, .long (-9999 : Int64), .long (9999 : Int64)]) (k' := 8) (L' := [some (.ref 66), some (.int p0), some (.int p1), some (.int p2), none, none, none, none, none, none]) (S' := []) 5 (fun P9 h9 => c_M_in (d + 0) p0.toInt64 (-9999 : Int64) (9999 : Int64) σ h9) (fun n h => h) ?_
    refine go_ifz (b := (f_M_in p0.toInt64 (-9999 : Int64) (9999 : Int64))) (k1 := 21) (L1 := [some (.ref 66), some (.int p0), some (.int p1), some (.int p2), none, none, none, none, none, none]) (S1 := []) (σ1 := σ) (k2 := 9) (L2 := [some (.ref 66), some (.int p0), some (.int p1), some (.int p2), none, none, none, none, none, none]) (S2 := []) (σ2 := σ) 1 (fun n h => h) (fun hc2 => ?_) (fun hc2 => ?_)
    · rw [if_neg hc2] at h
      cases h
      exact go_ret 2 (fun _ => hp)
    · rw [if_pos hc2] at h
      refine go_call (r := some (.int (b2i (f_M_in p1.toInt64 (-9999 : Int64) (9999 : Int64))))) (σc := σ) (σ1 := σ) (mi := 7) (vs := [.long p1.toInt64, .long (-9999 : Int64), .long (9999 : Int64)]) (k' := 14) (L' := [some (.ref 66), some (.int p0), some (.int p1), some (.int p2), none, none, none, none, none, none]) (S' := []) 5 (fun P9 h9 => c_M_in (d + 0) p1.toInt64 (-9999 : Int64) (9999 : Int64) σ h9) (fun n h => h) ?_
      refine go_ifz (b := (f_M_in p1.toInt64 (-9999 : Int64) (9999 : Int64))) (k1 := 21) (L1 := [some (.ref 66), some (.int p0), some (.int p1), some (.int p2), none, none, none, none, none, none]) (S1 := []) (σ1 := σ) (k2 := 15) (L2 := [some (.ref 66), some (.int p0), some (.int p1), some (.int p2), none, none, none, none, none, none]) (S2 := []) (σ2 := σ) 1 (fun n h => h) (fun hc3 => ?_) (fun hc3 => ?_)
      · rw [if_neg hc3] at h
        cases h
        exact go_ret 2 (fun _ => hp)
      · rw [if_pos hc3] at h
        refine go_call (r := some (.int (b2i (f_M_in p2.toInt64 (1 : Int64) (99 : Int64))))) (σc := σ) (σ1 := σ) (mi := 7) (vs := [.long p2.toInt64, .long (1 : Int64), .long (99 : Int64)]) (k' := 20) (L' := [some (.ref 66), some (.int p0), some (.int p1), some (.int p2), none, none, none, none, none, none]) (S' := []) 5 (fun P9 h9 => c_M_in (d + 0) p2.toInt64 (1 : Int64) (99 : Int64) σ h9) (fun n h => h) ?_
        refine go_ifn (b := (f_M_in p2.toInt64 (1 : Int64) (99 : Int64))) (k1 := 23) (L1 := [some (.ref 66), some (.int p0), some (.int p1), some (.int p2), none, none, none, none, none, none]) (S1 := []) (σ1 := σ) (k2 := 21) (L2 := [some (.ref 66), some (.int p0), some (.int p1), some (.int p2), none, none, none, none, none, none]) (S2 := []) (σ2 := σ) 1 (fun n h => h) (fun hc4 => ?_) (fun hc4 => ?_)
        · rw [if_pos hc4] at h
          refine go_st (k' := 27) (L' := [some (.ref 66), some (.int p0), some (.int p1), some (.int p2), some (.int (0 : Int32)), some (.int (0 : Int32)), none, none, none, none]) (S' := []) (σ' := σ) 4 (fun n h => h) ?_
          exact t_M_between_l27 d σ hp N _ _ _ _ p0 p1 p2 (0 : Int32) (0 : Int32) h
        · rw [if_neg hc4] at h
          cases h
          exact go_ret 2 (fun _ => hp)
def f_M_nearest_l25 (N : Nat) (σ : aSt) : Nat → Int32 → Int32 → Int32 → Int64 → Int64 → Int32 → Option Int32
  | 0, _, _, _, _, _, _ => none
  | n + 1, v1, v2, v3, v4, v6, v8 => (if (σ.1 66 9) ≤ v8 then some v3 else (if 0 ≤ v8 ∧ v8 < (120 : Int32) then (if v3 = (-1 : Int32) then f_M_nearest_l25 N σ n v1 v2 v8 (labs (((σ.1 67 v8.toNatClampNeg).toInt64 * v2.toInt64) - (v1.toInt64 * ((σ.1 69 v8.toNatClampNeg).toInt64 * (σ.1 69 v8.toNatClampNeg).toInt64)))) ((σ.1 69 v8.toNatClampNeg).toInt64 * (σ.1 69 v8.toNatClampNeg).toInt64) (v8 + (1 : Int32)) else (if ((labs (((σ.1 67 v8.toNatClampNeg).toInt64 * v2.toInt64) - (v1.toInt64 * ((σ.1 69 v8.toNatClampNeg).toInt64 * (σ.1 69 v8.toNatClampNeg).toInt64)))) * v6) < (v4 * ((σ.1 69 v8.toNatClampNeg).toInt64 * (σ.1 69 v8.toNatClampNeg).toInt64)) then f_M_nearest_l25 N σ n v1 v2 v8 (labs (((σ.1 67 v8.toNatClampNeg).toInt64 * v2.toInt64) - (v1.toInt64 * ((σ.1 69 v8.toNatClampNeg).toInt64 * (σ.1 69 v8.toNatClampNeg).toInt64)))) ((σ.1 69 v8.toNatClampNeg).toInt64 * (σ.1 69 v8.toNatClampNeg).toInt64) (v8 + (1 : Int32)) else f_M_nearest_l25 N σ n v1 v2 v3 v4 v6 (v8 + (1 : Int32)))) else none))
set_option maxRecDepth 20000 in
set_option maxHeartbeats 4000000 in
theorem t_M_nearest_l25 (d : Nat) {N : Nat} (σ : aSt) {x : Int32} {P : Option Value → aSt → Prop} (hp : P (some (.int x)) σ) : ∀ (n : Nat) (d9 d10 d11 d12 : Option Value) (v1 : Int32) (v2 : Int32) (v3 : Int32) (v4 : Int64) (v6 : Int64) (v8 : Int32), f_M_nearest_l25 N σ n v1 v2 v3 v4 v6 v8 = some x → aGo (aCall MT (d + 1)) P mc_M_nearest 25 [some (.ref 66), some (.int v1), some (.int v2), some (.int v3), some (.long v4), none, some (.long v6), none, some (.int v8), d9, d10, d11, d12] [] σ := by
  intro n
  induction n with
  | zero => intro d9 d10 d11 d12 v1 v2 v3 v4 v6 v8 h; cases h
  | succ n ih =>
    intro d9 d10 d11 d12 v1 v2 v3 v4 v6 v8 h
    rw [f_M_nearest_l25] at h
    refine go_if (c := (σ.1 66 9) ≤ v8) (k1 := 76) (L1 := [some (.ref 66), some (.int v1), some (.int v2), some (.int v3), some (.long v4), none, some (.long v6), none, some (.int v8), d9, d10, d11, d12]) (S1 := []) (σ1 := σ) (k2 := 29) (L2 := [some (.ref 66), some (.int v1), some (.int v2), some (.int v3), some (.long v4), none, some (.long v6), none, some (.int v8), d9, d10, d11, d12]) (S2 := []) (σ2 := σ) 4 (fun n h => h) (fun hc4 => ?_) (fun hc4 => ?_)
    · rw [if_pos hc4] at h
      cases h
      exact go_ret 2 (fun _ => hp)
    · rw [if_neg hc4] at h
      obtain ⟨hc5, h⟩ := ite_of h
      refine go_q (Q := inb 0 σ 69 v8) (k' := 33) (L' := [some (.ref 66), some (.int v1), some (.int v2), some (.int v3), some (.long v4), none, some (.long v6), none, some (.int v8), d9, d10, d11, d12]) (S' := [.int (σ.1 69 v8.toNatClampNeg)]) (σ' := σ) 4 (inb_mk rfl hc5.1 hc5.2) (fun n h => h) ?_
      refine go_q (Q := inb 0 σ 69 v8) (k' := 38) (L' := [some (.ref 66), some (.int v1), some (.int v2), some (.int v3), some (.long v4), none, some (.long v6), none, some (.int v8), d9, d10, d11, d12]) (S' := [.int (σ.1 69 v8.toNatClampNeg), .long (σ.1 69 v8.toNatClampNeg).toInt64]) (σ' := σ) 5 (inb_mk rfl hc5.1 hc5.2) (fun n h => h) ?_
      refine go_q (Q := inb 0 σ 67 v8) (k' := 45) (L' := [some (.ref 66), some (.int v1), some (.int v2), some (.int v3), some (.long v4), none, some (.long v6), none, some (.int v8), some (.long ((σ.1 69 v8.toNatClampNeg).toInt64 * (σ.1 69 v8.toNatClampNeg).toInt64)), none, d11, d12]) (S' := [.int (σ.1 67 v8.toNatClampNeg)]) (σ' := σ) 7 (inb_mk rfl hc5.1 hc5.2) (fun n h => h) ?_
      refine go_if (c := v3 = (-1 : Int32)) (k1 := 68) (L1 := [some (.ref 66), some (.int v1), some (.int v2), some (.int v3), some (.long v4), none, some (.long v6), none, some (.int v8), some (.long ((σ.1 69 v8.toNatClampNeg).toInt64 * (σ.1 69 v8.toNatClampNeg).toInt64)), none, some (.long (labs (((σ.1 67 v8.toNatClampNeg).toInt64 * v2.toInt64) - (v1.toInt64 * ((σ.1 69 v8.toNatClampNeg).toInt64 * (σ.1 69 v8.toNatClampNeg).toInt64))))), none]) (S1 := []) (σ1 := σ) (k2 := 59) (L2 := [some (.ref 66), some (.int v1), some (.int v2), some (.int v3), some (.long v4), none, some (.long v6), none, some (.int v8), some (.long ((σ.1 69 v8.toNatClampNeg).toInt64 * (σ.1 69 v8.toNatClampNeg).toInt64)), none, some (.long (labs (((σ.1 67 v8.toNatClampNeg).toInt64 * v2.toInt64) - (v1.toInt64 * ((σ.1 69 v8.toNatClampNeg).toInt64 * (σ.1 69 v8.toNatClampNeg).toInt64))))), none]) (S2 := []) (σ2 := σ) 14 (fun n h => h) (fun hc6 => ?_) (fun hc6 => ?_)
      · rw [if_pos hc6] at h
        refine go_st (k' := 25) (L' := [some (.ref 66), some (.int v1), some (.int v2), some (.int v8), some (.long (labs (((σ.1 67 v8.toNatClampNeg).toInt64 * v2.toInt64) - (v1.toInt64 * ((σ.1 69 v8.toNatClampNeg).toInt64 * (σ.1 69 v8.toNatClampNeg).toInt64))))), none, some (.long ((σ.1 69 v8.toNatClampNeg).toInt64 * (σ.1 69 v8.toNatClampNeg).toInt64)), none, some (.int (v8 + (1 : Int32))), some (.long ((σ.1 69 v8.toNatClampNeg).toInt64 * (σ.1 69 v8.toNatClampNeg).toInt64)), none, some (.long (labs (((σ.1 67 v8.toNatClampNeg).toInt64 * v2.toInt64) - (v1.toInt64 * ((σ.1 69 v8.toNatClampNeg).toInt64 * (σ.1 69 v8.toNatClampNeg).toInt64))))), none]) (S' := []) (σ' := σ) 8 (fun n h => h) ?_
        exact ih _ _ _ _ v1 v2 v8 (labs (((σ.1 67 v8.toNatClampNeg).toInt64 * v2.toInt64) - (v1.toInt64 * ((σ.1 69 v8.toNatClampNeg).toInt64 * (σ.1 69 v8.toNatClampNeg).toInt64)))) ((σ.1 69 v8.toNatClampNeg).toInt64 * (σ.1 69 v8.toNatClampNeg).toInt64) (v8 + (1 : Int32)) h
      · rw [if_neg hc6] at h
        refine go_iff (lcmp_lt ((labs (((σ.1 67 v8.toNatClampNeg).toInt64 * v2.toInt64) - (v1.toInt64 * ((σ.1 69 v8.toNatClampNeg).toInt64 * (σ.1 69 v8.toNatClampNeg).toInt64)))) * v6) (v4 * ((σ.1 69 v8.toNatClampNeg).toInt64 * (σ.1 69 v8.toNatClampNeg).toInt64))) (k1 := 68) (L1 := [some (.ref 66), some (.int v1), some (.int v2), some (.int v3), some (.long v4), none, some (.long v6), none, some (.int v8), some (.long ((σ.1 69 v8.toNatClampNeg).toInt64 * (σ.1 69 v8.toNatClampNeg).toInt64)), none, some (.long (labs (((σ.1 67 v8.toNatClampNeg).toInt64 * v2.toInt64) - (v1.toInt64 * ((σ.1 69 v8.toNatClampNeg).toInt64 * (σ.1 69 v8.toNatClampNeg).toInt64))))), none]) (S1 := []) (σ1 := σ) (k2 := 67) (L2 := [some (.ref 66), some (.int v1), some (.int v2), some (.int v3), some (.long v4), none, some (.long v6), none, some (.int v8), some (.long ((σ.1 69 v8.toNatClampNeg).toInt64 * (σ.1 69 v8.toNatClampNeg).toInt64)), none, some (.long (labs (((σ.1 67 v8.toNatClampNeg).toInt64 * v2.toInt64) - (v1.toInt64 * ((σ.1 69 v8.toNatClampNeg).toInt64 * (σ.1 69 v8.toNatClampNeg).toInt64))))), none]) (S2 := []) (σ2 := σ) 8 (fun n h => h) (fun hc7 => ?_) (fun hc7 => ?_)
        · rw [if_pos hc7] at h
          refine go_st (k' := 25) (L' := [some (.ref 66), some (.int v1), some (.int v2), some (.int v8), some (.long (labs (((σ.1 67 v8.toNatClampNeg).toInt64 * v2.toInt64) - (v1.toInt64 * ((σ.1 69 v8.toNatClampNeg).toInt64 * (σ.1 69 v8.toNatClampNeg).toInt64))))), none, some (.long ((σ.1 69 v8.toNatClampNeg).toInt64 * (σ.1 69 v8.toNatClampNeg).toInt64)), none, some (.int (v8 + (1 : Int32))), some (.long ((σ.1 69 v8.toNatClampNeg).toInt64 * (σ.1 69 v8.toNatClampNeg).toInt64)), none, some (.long (labs (((σ.1 67 v8.toNatClampNeg).toInt64 * v2.toInt64) - (v1.toInt64 * ((σ.1 69 v8.toNatClampNeg).toInt64 * (σ.1 69 v8.toNatClampNeg).toInt64))))), none]) (S' := []) (σ' := σ) 8 (fun n h => h) ?_
          exact ih _ _ _ _ v1 v2 v8 (labs (((σ.1 67 v8.toNatClampNeg).toInt64 * v2.toInt64) - (v1.toInt64 * ((σ.1 69 v8.toNatClampNeg).toInt64 * (σ.1 69 v8.toNatClampNeg).toInt64)))) ((σ.1 69 v8.toNatClampNeg).toInt64 * (σ.1 69 v8.toNatClampNeg).toInt64) (v8 + (1 : Int32)) h
        · rw [if_neg hc7] at h
          refine go_st (k' := 25) (L' := [some (.ref 66), some (.int v1), some (.int v2), some (.int v3), some (.long v4), none, some (.long v6), none, some (.int (v8 + (1 : Int32))), some (.long ((σ.1 69 v8.toNatClampNeg).toInt64 * (σ.1 69 v8.toNatClampNeg).toInt64)), none, some (.long (labs (((σ.1 67 v8.toNatClampNeg).toInt64 * v2.toInt64) - (v1.toInt64 * ((σ.1 69 v8.toNatClampNeg).toInt64 * (σ.1 69 v8.toNatClampNeg).toInt64))))), none]) (S' := []) (σ' := σ) 3 (fun n h => h) ?_
          exact ih _ _ _ _ v1 v2 v3 v4 v6 (v8 + (1 : Int32)) h
def f_M_nearest (N : Nat) (p0 : Int32) (p1 : Int32) (σ : aSt) : Option Int32 :=
  (if (σ.2.2 66 1) = true then (if (f_M_in p0.toInt64 (-9999 : Int64) (9999 : Int64)) = true then (if (f_M_in p1.toInt64 (1 : Int64) (99 : Int64)) = true then f_M_nearest_l25 N σ N p0 p1 (-1 : Int32) (0 : Int64) (1 : Int64) (0 : Int32) else some (-2 : Int32)) else some (-2 : Int32)) else some (-2 : Int32))
set_option maxRecDepth 20000 in
set_option maxHeartbeats 4000000 in
theorem c_M_nearest (d : Nat) {N : Nat} (p0 : Int32) (p1 : Int32) (σ : aSt) {P : Option Value → aSt → Prop} {x : Int32} (h : f_M_nearest N p0 p1 σ = some x) (hp : P (some (.int x)) σ) : aCall MT (d + 2) 302 [.ref 66, .int p0, .int p1] σ P := by
  unfold f_M_nearest at h
  refine call_of (code := mc_M_nearest) (L := [some (.ref 66), some (.int p0), some (.int p1), none, none, none, none, none, none, none, none, none, none]) rfl rfl rfl rfl ?_
  refine go_ifz (b := (σ.2.2 66 1)) (k1 := 15) (L1 := [some (.ref 66), some (.int p0), some (.int p1), none, none, none, none, none, none, none, none, none, none]) (S1 := []) (σ1 := σ) (k2 := 3) (L2 := [some (.ref 66), some (.int p0), some (.int p1), none, none, none, none, none, none, none, none, none, none]) (S2 := []) (σ2 := σ) 3 (fun n h => h) (fun hc1 => ?_) (fun hc1 => ?_)
  · rw [if_neg hc1] at h
    cases h
    exact go_ret 2 (fun _ => hp)
  · rw [if_pos hc1] at h
    refine go_call (r := some (.int (b2i (f_M_in p0.toInt64 (-9999 : Int64) (9999 : Int64))))) (σc := σ) (σ1 := σ) (mi := 7) (vs := [.long p0.toInt64, .long (-9999 : Int64), .long (9999 : Int64)]) (k' := 8) (L' := [some (.ref 66), some (.int p0), some (.int p1), none, none, none, none, none, none, none, none, none, none]) (S' := []) 5 (fun P9 h9 => c_M_in (d + 0) p0.toInt64 (-9999 : Int64) (9999 : Int64) σ h9) (fun n h => h) ?_
    refine go_ifz (b := (f_M_in p0.toInt64 (-9999 : Int64) (9999 : Int64))) (k1 := 15) (L1 := [some (.ref 66), some (.int p0), some (.int p1), none, none, none, none, none, none, none, none, none, none]) (S1 := []) (σ1 := σ) (k2 := 9) (L2 := [some (.ref 66), some (.int p0), some (.int p1), none, none, none, none, none, none, none, none, none, none]) (S2 := []) (σ2 := σ) 1 (fun n h => h) (fun hc2 => ?_) (fun hc2 => ?_)
    · rw [if_neg hc2] at h
      cases h
      exact go_ret 2 (fun _ => hp)
    · rw [if_pos hc2] at h
      refine go_call (r := some (.int (b2i (f_M_in p1.toInt64 (1 : Int64) (99 : Int64))))) (σc := σ) (σ1 := σ) (mi := 7) (vs := [.long p1.toInt64, .long (1 : Int64), .long (99 : Int64)]) (k' := 14) (L' := [some (.ref 66), some (.int p0), some (.int p1), none, none, none, none, none, none, none, none, none, none]) (S' := []) 5 (fun P9 h9 => c_M_in (d + 0) p1.toInt64 (1 : Int64) (99 : Int64) σ h9) (fun n h => h) ?_
      refine go_ifn (b := (f_M_in p1.toInt64 (1 : Int64) (99 : Int64))) (k1 := 17) (L1 := [some (.ref 66), some (.int p0), some (.int p1), none, none, none, none, none, none, none, none, none, none]) (S1 := []) (σ1 := σ) (k2 := 15) (L2 := [some (.ref 66), some (.int p0), some (.int p1), none, none, none, none, none, none, none, none, none, none]) (S2 := []) (σ2 := σ) 1 (fun n h => h) (fun hc3 => ?_) (fun hc3 => ?_)
      · rw [if_pos hc3] at h
        refine go_st (k' := 25) (L' := [some (.ref 66), some (.int p0), some (.int p1), some (.int (-1 : Int32)), some (.long (0 : Int64)), none, some (.long (1 : Int64)), none, some (.int (0 : Int32)), none, none, none, none]) (S' := []) (σ' := σ) 8 (fun n h => h) ?_
        exact t_M_nearest_l25 d σ hp N _ _ _ _ p0 p1 (-1 : Int32) (0 : Int64) (1 : Int64) (0 : Int32) h
      · rw [if_neg hc3] at h
        cases h
        exact go_ret 2 (fun _ => hp)
def f_M_undo (N : Nat) (σ : aSt) : Option (Int32 × aSt) :=
  (if (σ.2.2 66 1) = true then (if (σ.1 66 22) ≠ 0 then (if 0 ≤ ((4 : Int32) * ((σ.1 66 22) - (1 : Int32))) ∧ ((4 : Int32) * ((σ.1 66 22) - (1 : Int32))) < (40 : Int32) then (if 0 ≤ (((4 : Int32) * ((σ.1 66 22) - (1 : Int32))) + (1 : Int32)) ∧ (((4 : Int32) * ((σ.1 66 22) - (1 : Int32))) + (1 : Int32)) < (40 : Int32) then (if 0 ≤ (((4 : Int32) * ((σ.1 66 22) - (1 : Int32))) + (2 : Int32)) ∧ (((4 : Int32) * ((σ.1 66 22) - (1 : Int32))) + (2 : Int32)) < (40 : Int32) then (if 0 ≤ (((4 : Int32) * ((σ.1 66 22) - (1 : Int32))) + (3 : Int32)) ∧ (((4 : Int32) * ((σ.1 66 22) - (1 : Int32))) + (3 : Int32)) < (40 : Int32) then ((f_M_becomes N (σ.1 72 ((4 : Int32) * ((σ.1 66 22) - (1 : Int32))).toNatClampNeg) (σ.1 72 (((4 : Int32) * ((σ.1 66 22) - (1 : Int32))) + (1 : Int32)).toNatClampNeg) (σ.1 72 (((4 : Int32) * ((σ.1 66 22) - (1 : Int32))) + (2 : Int32)).toNatClampNeg) (σ.1 72 (((4 : Int32) * ((σ.1 66 22) - (1 : Int32))) + (3 : Int32)).toNatClampNeg) (s_i σ 66 22 ((σ.1 66 22) - (1 : Int32)))).bind fun x7 => some ((x7.1 66 22), x7)) else none) else none) else none) else none) else some ((-1 : Int32), σ)) else some ((-2 : Int32), σ))
set_option maxRecDepth 20000 in
set_option maxHeartbeats 4000000 in
theorem c_M_undo (d : Nat) {N : Nat} (σ : aSt) {P : Option Value → aSt → Prop} {x : (Int32 × aSt)} (h : f_M_undo N σ = some x) (hp : P (some (.int x.1)) x.2) : aCall MT (d + 5) 307 [.ref 66] σ P := by
  unfold f_M_undo at h
  refine call_of (code := mc_M_undo) (L := [some (.ref 66)]) rfl rfl rfl rfl ?_
  refine go_ifn (b := (σ.2.2 66 1)) (k1 := 5) (L1 := [some (.ref 66)]) (S1 := []) (σ1 := σ) (k2 := 3) (L2 := [some (.ref 66)]) (S2 := []) (σ2 := σ) 3 (fun n h => h) (fun hc1 => ?_) (fun hc1 => ?_)
  · rw [if_pos hc1] at h
    refine go_if (c := (σ.1 66 22) ≠ 0) (k1 := 10) (L1 := [some (.ref 66)]) (S1 := []) (σ1 := σ) (k2 := 8) (L2 := [some (.ref 66)]) (S2 := []) (σ2 := σ) 3 (fun n h => h) (fun hc2 => ?_) (fun hc2 => ?_)
    · rw [if_pos hc2] at h
      obtain ⟨hc3, h⟩ := ite_of h
      refine go_q (Q := inb 0 (s_i σ 66 22 ((σ.1 66 22) - (1 : Int32))) 72 ((4 : Int32) * ((σ.1 66 22) - (1 : Int32)))) (k' := 24) (L' := [some (.ref 66)]) (S' := [.int (σ.1 72 ((4 : Int32) * ((σ.1 66 22) - (1 : Int32))).toNatClampNeg), .ref 66]) (σ' := (s_i σ 66 22 ((σ.1 66 22) - (1 : Int32)))) 14 (inb_mk rfl hc3.1 hc3.2) (fun n h => h) ?_
      obtain ⟨hc4, h⟩ := ite_of h
      refine go_q (Q := inb 0 (s_i σ 66 22 ((σ.1 66 22) - (1 : Int32))) 72 (((4 : Int32) * ((σ.1 66 22) - (1 : Int32))) + (1 : Int32))) (k' := 33) (L' := [some (.ref 66)]) (S' := [.int (σ.1 72 (((4 : Int32) * ((σ.1 66 22) - (1 : Int32))) + (1 : Int32)).toNatClampNeg), .int (σ.1 72 ((4 : Int32) * ((σ.1 66 22) - (1 : Int32))).toNatClampNeg), .ref 66]) (σ' := (s_i σ 66 22 ((σ.1 66 22) - (1 : Int32)))) 9 (inb_mk rfl hc4.1 hc4.2) (fun n h => h) ?_
      obtain ⟨hc5, h⟩ := ite_of h
      refine go_q (Q := inb 0 (s_i σ 66 22 ((σ.1 66 22) - (1 : Int32))) 72 (((4 : Int32) * ((σ.1 66 22) - (1 : Int32))) + (2 : Int32))) (k' := 42) (L' := [some (.ref 66)]) (S' := [.int (σ.1 72 (((4 : Int32) * ((σ.1 66 22) - (1 : Int32))) + (2 : Int32)).toNatClampNeg), .int (σ.1 72 (((4 : Int32) * ((σ.1 66 22) - (1 : Int32))) + (1 : Int32)).toNatClampNeg), .int (σ.1 72 ((4 : Int32) * ((σ.1 66 22) - (1 : Int32))).toNatClampNeg), .ref 66]) (σ' := (s_i σ 66 22 ((σ.1 66 22) - (1 : Int32)))) 9 (inb_mk rfl hc5.1 hc5.2) (fun n h => h) ?_
      obtain ⟨hc6, h⟩ := ite_of h
      refine go_q (Q := inb 0 (s_i σ 66 22 ((σ.1 66 22) - (1 : Int32))) 72 (((4 : Int32) * ((σ.1 66 22) - (1 : Int32))) + (3 : Int32))) (k' := 51) (L' := [some (.ref 66)]) (S' := [.int (σ.1 72 (((4 : Int32) * ((σ.1 66 22) - (1 : Int32))) + (3 : Int32)).toNatClampNeg), .int (σ.1 72 (((4 : Int32) * ((σ.1 66 22) - (1 : Int32))) + (2 : Int32)).toNatClampNeg), .int (σ.1 72 (((4 : Int32) * ((σ.1 66 22) - (1 : Int32))) + (1 : Int32)).toNatClampNeg), .int (σ.1 72 ((4 : Int32) * ((σ.1 66 22) - (1 : Int32))).toNatClampNeg), .ref 66]) (σ' := (s_i σ 66 22 ((σ.1 66 22) - (1 : Int32)))) 9 (inb_mk rfl hc6.1 hc6.2) (fun n h => h) ?_
      obtain ⟨x7, hx7, h⟩ := bind_of h
      refine go_call (r := none) (σc := (s_i σ 66 22 ((σ.1 66 22) - (1 : Int32)))) (σ1 := x7) (mi := 62) (vs := [.ref 66, .int (σ.1 72 ((4 : Int32) * ((σ.1 66 22) - (1 : Int32))).toNatClampNeg), .int (σ.1 72 (((4 : Int32) * ((σ.1 66 22) - (1 : Int32))) + (1 : Int32)).toNatClampNeg), .int (σ.1 72 (((4 : Int32) * ((σ.1 66 22) - (1 : Int32))) + (2 : Int32)).toNatClampNeg), .int (σ.1 72 (((4 : Int32) * ((σ.1 66 22) - (1 : Int32))) + (3 : Int32)).toNatClampNeg)]) (k' := 52) (L' := [some (.ref 66)]) (S' := []) 1 (fun P9 h9 => c_M_becomes (d + 0) (σ.1 72 ((4 : Int32) * ((σ.1 66 22) - (1 : Int32))).toNatClampNeg) (σ.1 72 (((4 : Int32) * ((σ.1 66 22) - (1 : Int32))) + (1 : Int32)).toNatClampNeg) (σ.1 72 (((4 : Int32) * ((σ.1 66 22) - (1 : Int32))) + (2 : Int32)).toNatClampNeg) (σ.1 72 (((4 : Int32) * ((σ.1 66 22) - (1 : Int32))) + (3 : Int32)).toNatClampNeg) (s_i σ 66 22 ((σ.1 66 22) - (1 : Int32))) hx7 h9) (fun n h => h) ?_
      cases h
      exact go_ret 3 (fun _ => hp)
    · rw [if_neg hc2] at h
      cases h
      exact go_ret 2 (fun _ => hp)
  · rw [if_neg hc1] at h
    cases h
    exact go_ret 2 (fun _ => hp)
def f_M_addsOver (N : Nat) (p0 : Int32) (p1 : Int64) (p2 : Int32) (σ : aSt) : Option aSt :=
  (if (σ.1 66 51) ≠ (120 : Int32) then (if 0 ≤ (σ.1 66 51) ∧ (σ.1 66 51) < (120 : Int32) then some (s_i (s_i (s_l (s_i σ 80 (σ.1 66 51).toNatClampNeg p0) 81 (σ.1 66 51).toNatClampNeg p1) 82 (σ.1 66 51).toNatClampNeg p2) 66 51 ((σ.1 66 51) + (1 : Int32))) else none) else some σ)
set_option maxRecDepth 20000 in
set_option maxHeartbeats 4000000 in
theorem c_M_addsOver (d : Nat) {N : Nat} (p0 : Int32) (p1 : Int64) (p2 : Int32) (σ : aSt) {P : Option Value → aSt → Prop} {x : aSt} (h : f_M_addsOver N p0 p1 p2 σ = some x) (hp : P none x) : aCall MT (d + 1) 310 [.ref 66, .int p0, .long p1, .int p2] σ P := by
  unfold f_M_addsOver at h
  refine call_of (code := mc_M_addsOver) (L := [some (.ref 66), some (.int p0), some (.long p1), none, some (.int p2)]) rfl rfl rfl rfl ?_
  refine go_if (c := (σ.1 66 51) ≠ (120 : Int32)) (k1 := 5) (L1 := [some (.ref 66), some (.int p0), some (.long p1), none, some (.int p2)]) (S1 := []) (σ1 := σ) (k2 := 4) (L2 := [some (.ref 66), some (.int p0), some (.long p1), none, some (.int p2)]) (S2 := []) (σ2 := σ) 4 (fun n h => h) (fun hc1 => ?_) (fun hc1 => ?_)
  · rw [if_pos hc1] at h
    obtain ⟨hc2, h⟩ := ite_of h
    refine go_q (Q := inb 0 σ 80 (σ.1 66 51)) (k' := 11) (L' := [some (.ref 66), some (.int p0), some (.long p1), none, some (.int p2)]) (S' := []) (σ' := (s_i σ 80 (σ.1 66 51).toNatClampNeg p0)) 6 (inb_mk rfl hc2.1 hc2.2) (fun n h => h) ?_
    refine go_q (Q := inb 1 (s_i σ 80 (σ.1 66 51).toNatClampNeg p0) 81 (σ.1 66 51)) (k' := 17) (L' := [some (.ref 66), some (.int p0), some (.long p1), none, some (.int p2)]) (S' := []) (σ' := (s_l (s_i σ 80 (σ.1 66 51).toNatClampNeg p0) 81 (σ.1 66 51).toNatClampNeg p1)) 6 (inb_mk rfl hc2.1 hc2.2) (fun n h => h) ?_
    refine go_q (Q := inb 0 (s_l (s_i σ 80 (σ.1 66 51).toNatClampNeg p0) 81 (σ.1 66 51).toNatClampNeg p1) 82 (σ.1 66 51)) (k' := 23) (L' := [some (.ref 66), some (.int p0), some (.long p1), none, some (.int p2)]) (S' := []) (σ' := (s_i (s_l (s_i σ 80 (σ.1 66 51).toNatClampNeg p0) 81 (σ.1 66 51).toNatClampNeg p1) 82 (σ.1 66 51).toNatClampNeg p2)) 6 (inb_mk rfl hc2.1 hc2.2) (fun n h => h) ?_
    cases h
    exact go_ret 7 (fun _ => hp)
  · rw [if_neg hc1] at h
    cases h
    exact go_ret 1 (fun _ => hp)
def f_M_laysOver_l33 (N : Nat) (k102 : Int64 → Int64 → Int32 → aSt → Option aSt) : Nat → Int64 → Int64 → Int32 → Int32 → aSt → Option aSt
  | 0, _, _, _, _, _ => none
  | n + 1, v1, v3, v5, v6, σ => (if (σ.1 66 4) < v6 then k102 v1 v3 v5 σ else ((f_M_common N v6.toInt64 v5.toInt64).bind fun x3 => (if x3 = (1 : Int64) then ((f_M_isSquare N ((((v6.toInt64 * v6.toInt64) * v6.toInt64) + (((v1 * (v5 * v5).toInt64) * v6.toInt64) * v6.toInt64)) + (((v3 * (v5 * v5).toInt64) * (v5 * v5).toInt64) * v6.toInt64))).bind fun x5 => (if x5 = true then (if ((((v6.toInt64 * v6.toInt64) * v6.toInt64) + (((v1 * (v5 * v5).toInt64) * v6.toInt64) * v6.toInt64)) + (((v3 * (v5 * v5).toInt64) * (v5 * v5).toInt64) * v6.toInt64)) ≤ (0 : Int64) then ((f_M_root N ((((v6.toInt64 * v6.toInt64) * v6.toInt64) + (((v1 * (v5 * v5).toInt64) * v6.toInt64) * v6.toInt64)) + (((v3 * (v5 * v5).toInt64) * (v5 * v5).toInt64) * v6.toInt64))).bind fun x8 => ((f_M_addsOver N v6 x8 v5 σ).bind fun x9 => f_M_laysOver_l33 N k102 n v1 v3 v5 (v6 + (1 : Int32)) x9)) else ((f_M_root N ((((v6.toInt64 * v6.toInt64) * v6.toInt64) + (((v1 * (v5 * v5).toInt64) * v6.toInt64) * v6.toInt64)) + (((v3 * (v5 * v5).toInt64) * (v5 * v5).toInt64) * v6.toInt64))).bind fun x10 => ((f_M_addsOver N v6 (-x10) v5 σ).bind fun x11 => ((f_M_root N ((((v6.toInt64 * v6.toInt64) * v6.toInt64) + (((v1 * (v5 * v5).toInt64) * v6.toInt64) * v6.toInt64)) + (((v3 * (v5 * v5).toInt64) * (v5 * v5).toInt64) * v6.toInt64))).bind fun x12 => ((f_M_addsOver N v6 x12 v5 x11).bind fun x13 => f_M_laysOver_l33 N k102 n v1 v3 v5 (v6 + (1 : Int32)) x13))))) else f_M_laysOver_l33 N k102 n v1 v3 v5 (v6 + (1 : Int32)) σ)) else f_M_laysOver_l33 N k102 n v1 v3 v5 (v6 + (1 : Int32)) σ)))
set_option maxRecDepth 20000 in
set_option maxHeartbeats 4000000 in
theorem t_M_laysOver_l33 (d : Nat) {N : Nat} (k102 : Int64 → Int64 → Int32 → aSt → Option aSt) {x : aSt} {P : Option Value → aSt → Prop} (hp : P none x) (hk102 : ∀ (d6 d7 d8 d9 d10 : Option Value) (v1 : Int64) (v3 : Int64) (v5 : Int32) (σ : aSt), k102 v1 v3 v5 σ = some x → aGo (aCall MT (d + 2)) P mc_M_laysOver 102 [some (.ref 66), some (.long v1), none, some (.long v3), none, some (.int v5), d6, d7, d8, d9, d10] [] σ) : ∀ (n : Nat) (d7 d8 d9 d10 : Option Value) (v1 : Int64) (v3 : Int64) (v5 : Int32) (v6 : Int32) (σ : aSt), f_M_laysOver_l33 N k102 n v1 v3 v5 v6 σ = some x → aGo (aCall MT (d + 2)) P mc_M_laysOver 33 [some (.ref 66), some (.long v1), none, some (.long v3), none, some (.int v5), some (.int v6), d7, d8, d9, d10] [] σ := by
  intro n
  induction n with
  | zero => intro d7 d8 d9 d10 v1 v3 v5 v6 σ h; cases h
  | succ n ih =>
    intro d7 d8 d9 d10 v1 v3 v5 v6 σ h
    rw [f_M_laysOver_l33] at h
    refine go_if (c := (σ.1 66 4) < v6) (k1 := 102) (L1 := [some (.ref 66), some (.long v1), none, some (.long v3), none, some (.int v5), some (.int v6), d7, d8, d9, d10]) (S1 := []) (σ1 := σ) (k2 := 37) (L2 := [some (.ref 66), some (.long v1), none, some (.long v3), none, some (.int v5), some (.int v6), d7, d8, d9, d10]) (S2 := []) (σ2 := σ) 4 (fun n h => h) (fun hc2 => ?_) (fun hc2 => ?_)
    · rw [if_pos hc2] at h
      exact hk102 _ _ _ _ _ v1 v3 v5 σ h
    · rw [if_neg hc2] at h
      obtain ⟨x3, hx3, h⟩ := bind_of h
      refine go_call (r := some (.long x3)) (σc := σ) (σ1 := σ) (mi := 57) (vs := [.long v6.toInt64, .long v5.toInt64]) (k' := 42) (L' := [some (.ref 66), some (.long v1), none, some (.long v3), none, some (.int v5), some (.int v6), d7, d8, d9, d10]) (S' := []) 5 (fun P9 h9 => c_M_common (d + 1) v6.toInt64 v5.toInt64 σ hx3 h9) (fun n h => h) ?_
      refine go_iff (lcmp_eq x3 (1 : Int64)) (k1 := 46) (L1 := [some (.ref 66), some (.long v1), none, some (.long v3), none, some (.int v5), some (.int v6), d7, d8, d9, d10]) (S1 := []) (σ1 := σ) (k2 := 45) (L2 := [some (.ref 66), some (.long v1), none, some (.long v3), none, some (.int v5), some (.int v6), d7, d8, d9, d10]) (S2 := []) (σ2 := σ) 3 (fun n h => h) (fun hc4 => ?_) (fun hc4 => ?_)
      · rw [if_pos hc4] at h
        obtain ⟨x5, hx5, h⟩ := bind_of h
        refine go_call (r := some (.int (b2i x5))) (σc := σ) (σ1 := σ) (mi := 59) (vs := [.long ((((v6.toInt64 * v6.toInt64) * v6.toInt64) + (((v1 * (v5 * v5).toInt64) * v6.toInt64) * v6.toInt64)) + (((v3 * (v5 * v5).toInt64) * (v5 * v5).toInt64) * v6.toInt64))]) (k' := 81) (L' := [some (.ref 66), some (.long v1), none, some (.long v3), none, some (.int v5), some (.int v6), some (.long (v5 * v5).toInt64), none, some (.long ((((v6.toInt64 * v6.toInt64) * v6.toInt64) + (((v1 * (v5 * v5).toInt64) * v6.toInt64) * v6.toInt64)) + (((v3 * (v5 * v5).toInt64) * (v5 * v5).toInt64) * v6.toInt64))), none]) (S' := []) 35 (fun P9 h9 => c_M_isSquare (d + 0) ((((v6.toInt64 * v6.toInt64) * v6.toInt64) + (((v1 * (v5 * v5).toInt64) * v6.toInt64) * v6.toInt64)) + (((v3 * (v5 * v5).toInt64) * (v5 * v5).toInt64) * v6.toInt64)) σ hx5 h9) (fun n h => h) ?_
        refine go_ifn (b := x5) (k1 := 83) (L1 := [some (.ref 66), some (.long v1), none, some (.long v3), none, some (.int v5), some (.int v6), some (.long (v5 * v5).toInt64), none, some (.long ((((v6.toInt64 * v6.toInt64) * v6.toInt64) + (((v1 * (v5 * v5).toInt64) * v6.toInt64) * v6.toInt64)) + (((v3 * (v5 * v5).toInt64) * (v5 * v5).toInt64) * v6.toInt64))), none]) (S1 := []) (σ1 := σ) (k2 := 82) (L2 := [some (.ref 66), some (.long v1), none, some (.long v3), none, some (.int v5), some (.int v6), some (.long (v5 * v5).toInt64), none, some (.long ((((v6.toInt64 * v6.toInt64) * v6.toInt64) + (((v1 * (v5 * v5).toInt64) * v6.toInt64) * v6.toInt64)) + (((v3 * (v5 * v5).toInt64) * (v5 * v5).toInt64) * v6.toInt64))), none]) (S2 := []) (σ2 := σ) 1 (fun n h => h) (fun hc6 => ?_) (fun hc6 => ?_)
        · rw [if_pos hc6] at h
          refine go_iff (lcmp_le ((((v6.toInt64 * v6.toInt64) * v6.toInt64) + (((v1 * (v5 * v5).toInt64) * v6.toInt64) * v6.toInt64)) + (((v3 * (v5 * v5).toInt64) * (v5 * v5).toInt64) * v6.toInt64)) (0 : Int64)) (k1 := 94) (L1 := [some (.ref 66), some (.long v1), none, some (.long v3), none, some (.int v5), some (.int v6), some (.long (v5 * v5).toInt64), none, some (.long ((((v6.toInt64 * v6.toInt64) * v6.toInt64) + (((v1 * (v5 * v5).toInt64) * v6.toInt64) * v6.toInt64)) + (((v3 * (v5 * v5).toInt64) * (v5 * v5).toInt64) * v6.toInt64))), none]) (S1 := []) (σ1 := σ) (k2 := 87) (L2 := [some (.ref 66), some (.long v1), none, some (.long v3), none, some (.int v5), some (.int v6), some (.long (v5 * v5).toInt64), none, some (.long ((((v6.toInt64 * v6.toInt64) * v6.toInt64) + (((v1 * (v5 * v5).toInt64) * v6.toInt64) * v6.toInt64)) + (((v3 * (v5 * v5).toInt64) * (v5 * v5).toInt64) * v6.toInt64))), none]) (S2 := []) (σ2 := σ) 4 (fun n h => h) (fun hc7 => ?_) (fun hc7 => ?_)
          · rw [if_pos hc7] at h
            obtain ⟨x8, hx8, h⟩ := bind_of h
            refine go_call (r := some (.long x8)) (σc := σ) (σ1 := σ) (mi := 58) (vs := [.long ((((v6.toInt64 * v6.toInt64) * v6.toInt64) + (((v1 * (v5 * v5).toInt64) * v6.toInt64) * v6.toInt64)) + (((v3 * (v5 * v5).toInt64) * (v5 * v5).toInt64) * v6.toInt64))]) (k' := 98) (L' := [some (.ref 66), some (.long v1), none, some (.long v3), none, some (.int v5), some (.int v6), some (.long (v5 * v5).toInt64), none, some (.long ((((v6.toInt64 * v6.toInt64) * v6.toInt64) + (((v1 * (v5 * v5).toInt64) * v6.toInt64) * v6.toInt64)) + (((v3 * (v5 * v5).toInt64) * (v5 * v5).toInt64) * v6.toInt64))), none]) (S' := [.int v6, .ref 66]) 4 (fun P9 h9 => c_M_root (d + 1) ((((v6.toInt64 * v6.toInt64) * v6.toInt64) + (((v1 * (v5 * v5).toInt64) * v6.toInt64) * v6.toInt64)) + (((v3 * (v5 * v5).toInt64) * (v5 * v5).toInt64) * v6.toInt64)) σ hx8 h9) (fun n h => h) ?_
            obtain ⟨x9, hx9, h⟩ := bind_of h
            refine go_call (r := none) (σc := σ) (σ1 := x9) (mi := 310) (vs := [.ref 66, .int v6, .long x8, .int v5]) (k' := 100) (L' := [some (.ref 66), some (.long v1), none, some (.long v3), none, some (.int v5), some (.int v6), some (.long (v5 * v5).toInt64), none, some (.long ((((v6.toInt64 * v6.toInt64) * v6.toInt64) + (((v1 * (v5 * v5).toInt64) * v6.toInt64) * v6.toInt64)) + (((v3 * (v5 * v5).toInt64) * (v5 * v5).toInt64) * v6.toInt64))), none]) (S' := []) 2 (fun P9 h9 => c_M_addsOver (d + 1) v6 x8 v5 σ hx9 h9) (fun n h => h) ?_
            refine go_st (k' := 33) (L' := [some (.ref 66), some (.long v1), none, some (.long v3), none, some (.int v5), some (.int (v6 + (1 : Int32))), some (.long (v5 * v5).toInt64), none, some (.long ((((v6.toInt64 * v6.toInt64) * v6.toInt64) + (((v1 * (v5 * v5).toInt64) * v6.toInt64) * v6.toInt64)) + (((v3 * (v5 * v5).toInt64) * (v5 * v5).toInt64) * v6.toInt64))), none]) (S' := []) (σ' := x9) 2 (fun n h => h) ?_
            exact ih _ _ _ _ v1 v3 v5 (v6 + (1 : Int32)) x9 h
          · rw [if_neg hc7] at h
            obtain ⟨x10, hx10, h⟩ := bind_of h
            refine go_call (r := some (.long x10)) (σc := σ) (σ1 := σ) (mi := 58) (vs := [.long ((((v6.toInt64 * v6.toInt64) * v6.toInt64) + (((v1 * (v5 * v5).toInt64) * v6.toInt64) * v6.toInt64)) + (((v3 * (v5 * v5).toInt64) * (v5 * v5).toInt64) * v6.toInt64))]) (k' := 91) (L' := [some (.ref 66), some (.long v1), none, some (.long v3), none, some (.int v5), some (.int v6), some (.long (v5 * v5).toInt64), none, some (.long ((((v6.toInt64 * v6.toInt64) * v6.toInt64) + (((v1 * (v5 * v5).toInt64) * v6.toInt64) * v6.toInt64)) + (((v3 * (v5 * v5).toInt64) * (v5 * v5).toInt64) * v6.toInt64))), none]) (S' := [.int v6, .ref 66]) 4 (fun P9 h9 => c_M_root (d + 1) ((((v6.toInt64 * v6.toInt64) * v6.toInt64) + (((v1 * (v5 * v5).toInt64) * v6.toInt64) * v6.toInt64)) + (((v3 * (v5 * v5).toInt64) * (v5 * v5).toInt64) * v6.toInt64)) σ hx10 h9) (fun n h => h) ?_
            obtain ⟨x11, hx11, h⟩ := bind_of h
            refine go_call (r := none) (σc := σ) (σ1 := x11) (mi := 310) (vs := [.ref 66, .int v6, .long (-x10), .int v5]) (k' := 94) (L' := [some (.ref 66), some (.long v1), none, some (.long v3), none, some (.int v5), some (.int v6), some (.long (v5 * v5).toInt64), none, some (.long ((((v6.toInt64 * v6.toInt64) * v6.toInt64) + (((v1 * (v5 * v5).toInt64) * v6.toInt64) * v6.toInt64)) + (((v3 * (v5 * v5).toInt64) * (v5 * v5).toInt64) * v6.toInt64))), none]) (S' := []) 3 (fun P9 h9 => c_M_addsOver (d + 1) v6 (-x10) v5 σ hx11 h9) (fun n h => h) ?_
            obtain ⟨x12, hx12, h⟩ := bind_of h
            refine go_call (r := some (.long x12)) (σc := x11) (σ1 := x11) (mi := 58) (vs := [.long ((((v6.toInt64 * v6.toInt64) * v6.toInt64) + (((v1 * (v5 * v5).toInt64) * v6.toInt64) * v6.toInt64)) + (((v3 * (v5 * v5).toInt64) * (v5 * v5).toInt64) * v6.toInt64))]) (k' := 98) (L' := [some (.ref 66), some (.long v1), none, some (.long v3), none, some (.int v5), some (.int v6), some (.long (v5 * v5).toInt64), none, some (.long ((((v6.toInt64 * v6.toInt64) * v6.toInt64) + (((v1 * (v5 * v5).toInt64) * v6.toInt64) * v6.toInt64)) + (((v3 * (v5 * v5).toInt64) * (v5 * v5).toInt64) * v6.toInt64))), none]) (S' := [.int v6, .ref 66]) 4 (fun P9 h9 => c_M_root (d + 1) ((((v6.toInt64 * v6.toInt64) * v6.toInt64) + (((v1 * (v5 * v5).toInt64) * v6.toInt64) * v6.toInt64)) + (((v3 * (v5 * v5).toInt64) * (v5 * v5).toInt64) * v6.toInt64)) x11 hx12 h9) (fun n h => h) ?_
            obtain ⟨x13, hx13, h⟩ := bind_of h
            refine go_call (r := none) (σc := x11) (σ1 := x13) (mi := 310) (vs := [.ref 66, .int v6, .long x12, .int v5]) (k' := 100) (L' := [some (.ref 66), some (.long v1), none, some (.long v3), none, some (.int v5), some (.int v6), some (.long (v5 * v5).toInt64), none, some (.long ((((v6.toInt64 * v6.toInt64) * v6.toInt64) + (((v1 * (v5 * v5).toInt64) * v6.toInt64) * v6.toInt64)) + (((v3 * (v5 * v5).toInt64) * (v5 * v5).toInt64) * v6.toInt64))), none]) (S' := []) 2 (fun P9 h9 => c_M_addsOver (d + 1) v6 x12 v5 x11 hx13 h9) (fun n h => h) ?_
            refine go_st (k' := 33) (L' := [some (.ref 66), some (.long v1), none, some (.long v3), none, some (.int v5), some (.int (v6 + (1 : Int32))), some (.long (v5 * v5).toInt64), none, some (.long ((((v6.toInt64 * v6.toInt64) * v6.toInt64) + (((v1 * (v5 * v5).toInt64) * v6.toInt64) * v6.toInt64)) + (((v3 * (v5 * v5).toInt64) * (v5 * v5).toInt64) * v6.toInt64))), none]) (S' := []) (σ' := x13) 2 (fun n h => h) ?_
            exact ih _ _ _ _ v1 v3 v5 (v6 + (1 : Int32)) x13 h
        · rw [if_neg hc6] at h
          refine go_st (k' := 33) (L' := [some (.ref 66), some (.long v1), none, some (.long v3), none, some (.int v5), some (.int (v6 + (1 : Int32))), some (.long (v5 * v5).toInt64), none, some (.long ((((v6.toInt64 * v6.toInt64) * v6.toInt64) + (((v1 * (v5 * v5).toInt64) * v6.toInt64) * v6.toInt64)) + (((v3 * (v5 * v5).toInt64) * (v5 * v5).toInt64) * v6.toInt64))), none]) (S' := []) (σ' := σ) 3 (fun n h => h) ?_
          exact ih _ _ _ _ v1 v3 v5 (v6 + (1 : Int32)) σ h
      · rw [if_neg hc4] at h
        refine go_st (k' := 33) (L' := [some (.ref 66), some (.long v1), none, some (.long v3), none, some (.int v5), some (.int (v6 + (1 : Int32))), d7, d8, d9, d10]) (S' := []) (σ' := σ) 3 (fun n h => h) ?_
        exact ih _ _ _ _ v1 v3 v5 (v6 + (1 : Int32)) σ h
def f_M_laysOver_l25 (N : Nat) : Nat → Int64 → Int64 → Int32 → aSt → Option aSt
  | 0, _, _, _, _ => none
  | n + 1, v1, v3, v5, σ => (if (σ.1 66 5) < v5 then some σ else f_M_laysOver_l33 N (fun (y14 : Int64) (y15 : Int64) (y16 : Int32) σ17 => f_M_laysOver_l25 N n y14 y15 (y16 + (1 : Int32)) σ17) N v1 v3 v5 (-(σ.1 66 4)) σ)
set_option maxRecDepth 20000 in
set_option maxHeartbeats 4000000 in
theorem t_M_laysOver_l25 (d : Nat) {N : Nat} {x : aSt} {P : Option Value → aSt → Prop} (hp : P none x) : ∀ (n : Nat) (d6 d7 d8 d9 d10 : Option Value) (v1 : Int64) (v3 : Int64) (v5 : Int32) (σ : aSt), f_M_laysOver_l25 N n v1 v3 v5 σ = some x → aGo (aCall MT (d + 2)) P mc_M_laysOver 25 [some (.ref 66), some (.long v1), none, some (.long v3), none, some (.int v5), d6, d7, d8, d9, d10] [] σ := by
  intro n
  induction n with
  | zero => intro d6 d7 d8 d9 d10 v1 v3 v5 σ h; cases h
  | succ n ih =>
    intro d6 d7 d8 d9 d10 v1 v3 v5 σ h
    rw [f_M_laysOver_l25] at h
    refine go_if (c := (σ.1 66 5) < v5) (k1 := 104) (L1 := [some (.ref 66), some (.long v1), none, some (.long v3), none, some (.int v5), d6, d7, d8, d9, d10]) (S1 := []) (σ1 := σ) (k2 := 29) (L2 := [some (.ref 66), some (.long v1), none, some (.long v3), none, some (.int v5), d6, d7, d8, d9, d10]) (S2 := []) (σ2 := σ) 4 (fun n h => h) (fun hc1 => ?_) (fun hc1 => ?_)
    · rw [if_pos hc1] at h
      cases h
      exact go_ret 1 (fun _ => hp)
    · rw [if_neg hc1] at h
      refine go_st (k' := 33) (L' := [some (.ref 66), some (.long v1), none, some (.long v3), none, some (.int v5), some (.int (-(σ.1 66 4))), d7, d8, d9, d10]) (S' := []) (σ' := σ) 4 (fun n h => h) ?_
      refine t_M_laysOver_l33 d _ hp (fun d6 d7 d8 d9 d10 y14 y15 y16 σ17 h => ?_) N _ _ _ _ v1 v3 v5 (-(σ.1 66 4)) σ h
      · refine go_st (k' := 25) (L' := [some (.ref 66), some (.long y14), none, some (.long y15), none, some (.int (y16 + (1 : Int32))), d6, d7, d8, d9, d10]) (S' := []) (σ' := σ17) 2 (fun n h => h) ?_
        exact ih _ _ _ _ _ y14 y15 (y16 + (1 : Int32)) σ17 h
def f_M_laysOver (N : Nat) (σ : aSt) : Option aSt :=
  f_M_laysOver_l25 N N ((-2 : Int64) * (σ.1 66 2).toInt64) (((σ.1 66 2).toInt64 * (σ.1 66 2).toInt64) - ((4 : Int64) * (σ.1 66 3).toInt64)) (1 : Int32) (s_i σ 66 51 (0 : Int32))
set_option maxRecDepth 20000 in
set_option maxHeartbeats 4000000 in
theorem c_M_laysOver (d : Nat) {N : Nat} (σ : aSt) {P : Option Value → aSt → Prop} {x : aSt} (h : f_M_laysOver N σ = some x) (hp : P none x) : aCall MT (d + 3) 311 [.ref 66] σ P := by
  unfold f_M_laysOver at h
  refine call_of (code := mc_M_laysOver) (L := [some (.ref 66), none, none, none, none, none, none, none, none, none, none]) rfl rfl rfl rfl ?_
  refine go_st (k' := 25) (L' := [some (.ref 66), some (.long ((-2 : Int64) * (σ.1 66 2).toInt64)), none, some (.long (((σ.1 66 2).toInt64 * (σ.1 66 2).toInt64) - ((4 : Int64) * (σ.1 66 3).toInt64))), none, some (.int (1 : Int32)), none, none, none, none, none]) (S' := []) (σ' := (s_i σ 66 51 (0 : Int32))) 25 (fun n h => h) ?_
  exact t_M_laysOver_l25 d hp N _ _ _ _ _ ((-2 : Int64) * (σ.1 66 2).toInt64) (((σ.1 66 2).toInt64 * (σ.1 66 2).toInt64) - ((4 : Int64) * (σ.1 66 3).toInt64)) (1 : Int32) (s_i σ 66 51 (0 : Int32)) h
def f_M_overMany (N : Nat) (σ : aSt) : Option (Int32 × aSt) :=
  (if (σ.2.2 66 1) = true then ((f_M_laysOver N σ).bind fun x2 => some ((x2.1 66 51), x2)) else some ((-2 : Int32), σ))
set_option maxRecDepth 20000 in
set_option maxHeartbeats 4000000 in
theorem c_M_overMany (d : Nat) {N : Nat} (σ : aSt) {P : Option Value → aSt → Prop} {x : (Int32 × aSt)} (h : f_M_overMany N σ = some x) (hp : P (some (.int x.1)) x.2) : aCall MT (d + 4) 312 [.ref 66] σ P := by
  unfold f_M_overMany at h
  refine call_of (code := mc_M_overMany) (L := [some (.ref 66)]) rfl rfl rfl rfl ?_
  refine go_ifn (b := (σ.2.2 66 1)) (k1 := 5) (L1 := [some (.ref 66)]) (S1 := []) (σ1 := σ) (k2 := 3) (L2 := [some (.ref 66)]) (S2 := []) (σ2 := σ) 3 (fun n h => h) (fun hc1 => ?_) (fun hc1 => ?_)
  · rw [if_pos hc1] at h
    obtain ⟨x2, hx2, h⟩ := bind_of h
    refine go_call (r := none) (σc := σ) (σ1 := x2) (mi := 311) (vs := [.ref 66]) (k' := 7) (L' := [some (.ref 66)]) (S' := []) 2 (fun P9 h9 => c_M_laysOver (d + 0) σ hx2 h9) (fun n h => h) ?_
    cases h
    exact go_ret 3 (fun _ => hp)
  · rw [if_neg hc1] at h
    cases h
    exact go_ret 2 (fun _ => hp)
def f_M_overPoint (N : Nat) (p0 : Int32) (p1 : Int32) (σ : aSt) : Option (Int64 × aSt) :=
  (if (σ.2.2 66 1) = true then (if (f_M_in p1.toInt64 (0 : Int64) (2 : Int64)) = true then ((f_M_laysOver N σ).bind fun x3 => (if (f_M_in p0.toInt64 (0 : Int64) ((x3.1 66 51) - (1 : Int32)).toInt64) = true then (if p1 ≠ 0 then (if p1 ≠ (1 : Int32) then (if 0 ≤ p0 ∧ p0 < (120 : Int32) then some ((x3.1 82 p0.toNatClampNeg).toInt64, x3) else none) else (if 0 ≤ p0 ∧ p0 < (120 : Int32) then some ((x3.2.1 81 p0.toNatClampNeg), x3) else none)) else (if 0 ≤ p0 ∧ p0 < (120 : Int32) then some ((x3.1 80 p0.toNatClampNeg).toInt64, x3) else none)) else some ((-9223372036854775808 : Int64), x3))) else some ((-9223372036854775808 : Int64), σ)) else some ((-9223372036854775808 : Int64), σ))
set_option maxRecDepth 20000 in
set_option maxHeartbeats 4000000 in
theorem c_M_overPoint (d : Nat) {N : Nat} (p0 : Int32) (p1 : Int32) (σ : aSt) {P : Option Value → aSt → Prop} {x : (Int64 × aSt)} (h : f_M_overPoint N p0 p1 σ = some x) (hp : P (some (.long x.1)) x.2) : aCall MT (d + 4) 314 [.ref 66, .int p0, .int p1] σ P := by
  unfold f_M_overPoint at h
  refine call_of (code := mc_M_overPoint) (L := [some (.ref 66), some (.int p0), some (.int p1)]) rfl rfl rfl rfl ?_
  refine go_ifz (b := (σ.2.2 66 1)) (k1 := 9) (L1 := [some (.ref 66), some (.int p0), some (.int p1)]) (S1 := []) (σ1 := σ) (k2 := 3) (L2 := [some (.ref 66), some (.int p0), some (.int p1)]) (S2 := []) (σ2 := σ) 3 (fun n h => h) (fun hc1 => ?_) (fun hc1 => ?_)
  · rw [if_neg hc1] at h
    cases h
    exact go_ret 2 (fun _ => hp)
  · rw [if_pos hc1] at h
    refine go_call (r := some (.int (b2i (f_M_in p1.toInt64 (0 : Int64) (2 : Int64))))) (σc := σ) (σ1 := σ) (mi := 7) (vs := [.long p1.toInt64, .long (0 : Int64), .long (2 : Int64)]) (k' := 8) (L' := [some (.ref 66), some (.int p0), some (.int p1)]) (S' := []) 5 (fun P9 h9 => c_M_in (d + 2) p1.toInt64 (0 : Int64) (2 : Int64) σ h9) (fun n h => h) ?_
    refine go_ifn (b := (f_M_in p1.toInt64 (0 : Int64) (2 : Int64))) (k1 := 11) (L1 := [some (.ref 66), some (.int p0), some (.int p1)]) (S1 := []) (σ1 := σ) (k2 := 9) (L2 := [some (.ref 66), some (.int p0), some (.int p1)]) (S2 := []) (σ2 := σ) 1 (fun n h => h) (fun hc2 => ?_) (fun hc2 => ?_)
    · rw [if_pos hc2] at h
      obtain ⟨x3, hx3, h⟩ := bind_of h
      refine go_call (r := none) (σc := σ) (σ1 := x3) (mi := 311) (vs := [.ref 66]) (k' := 13) (L' := [some (.ref 66), some (.int p0), some (.int p1)]) (S' := []) 2 (fun P9 h9 => c_M_laysOver (d + 0) σ hx3 h9) (fun n h => h) ?_
      refine go_call (r := some (.int (b2i (f_M_in p0.toInt64 (0 : Int64) ((x3.1 66 51) - (1 : Int32)).toInt64)))) (σc := x3) (σ1 := x3) (mi := 7) (vs := [.long p0.toInt64, .long (0 : Int64), .long ((x3.1 66 51) - (1 : Int32)).toInt64]) (k' := 22) (L' := [some (.ref 66), some (.int p0), some (.int p1)]) (S' := []) 9 (fun P9 h9 => c_M_in (d + 2) p0.toInt64 (0 : Int64) ((x3.1 66 51) - (1 : Int32)).toInt64 x3 h9) (fun n h => h) ?_
      refine go_ifn (b := (f_M_in p0.toInt64 (0 : Int64) ((x3.1 66 51) - (1 : Int32)).toInt64)) (k1 := 25) (L1 := [some (.ref 66), some (.int p0), some (.int p1)]) (S1 := []) (σ1 := x3) (k2 := 23) (L2 := [some (.ref 66), some (.int p0), some (.int p1)]) (S2 := []) (σ2 := x3) 1 (fun n h => h) (fun hc4 => ?_) (fun hc4 => ?_)
      · rw [if_pos hc4] at h
        refine go_if (c := p1 ≠ 0) (k1 := 33) (L1 := [some (.ref 66), some (.int p0), some (.int p1)]) (S1 := []) (σ1 := x3) (k2 := 27) (L2 := [some (.ref 66), some (.int p0), some (.int p1)]) (S2 := []) (σ2 := x3) 2 (fun n h => h) (fun hc5 => ?_) (fun hc5 => ?_)
        · rw [if_pos hc5] at h
          refine go_if (c := p1 ≠ (1 : Int32)) (k1 := 41) (L1 := [some (.ref 66), some (.int p0), some (.int p1)]) (S1 := []) (σ1 := x3) (k2 := 36) (L2 := [some (.ref 66), some (.int p0), some (.int p1)]) (S2 := []) (σ2 := x3) 3 (fun n h => h) (fun hc6 => ?_) (fun hc6 => ?_)
          · rw [if_pos hc6] at h
            obtain ⟨hc7, h⟩ := ite_of h
            refine go_q (Q := inb 0 x3 82 p0) (k' := 45) (L' := [some (.ref 66), some (.int p0), some (.int p1)]) (S' := [.int (x3.1 82 p0.toNatClampNeg)]) (σ' := x3) 4 (inb_mk rfl hc7.1 hc7.2) (fun n h => h) ?_
            cases h
            exact go_ret 2 (fun _ => hp)
          · rw [if_neg hc6] at h
            obtain ⟨hc8, h⟩ := ite_of h
            refine go_q (Q := inb 1 x3 81 p0) (k' := 40) (L' := [some (.ref 66), some (.int p0), some (.int p1)]) (S' := [.long (x3.2.1 81 p0.toNatClampNeg)]) (σ' := x3) 4 (inb_mk rfl hc8.1 hc8.2) (fun n h => h) ?_
            cases h
            exact go_ret 2 (fun _ => hp)
        · rw [if_neg hc5] at h
          obtain ⟨hc9, h⟩ := ite_of h
          refine go_q (Q := inb 0 x3 80 p0) (k' := 31) (L' := [some (.ref 66), some (.int p0), some (.int p1)]) (S' := [.int (x3.1 80 p0.toNatClampNeg)]) (σ' := x3) 4 (inb_mk rfl hc9.1 hc9.2) (fun n h => h) ?_
          cases h
          exact go_ret 3 (fun _ => hp)
      · rw [if_neg hc4] at h
        cases h
        exact go_ret 2 (fun _ => hp)
    · rw [if_neg hc2] at h
      cases h
      exact go_ret 2 (fun _ => hp)
def f_M_eWithin (N : Nat) (p0 : Int64) (p1 : Int64) (σ : aSt) : Option (Int64 × aSt) :=
  ((f_M_lowers N p0 p1 σ).bind fun x1 => ((f_M_root N (x1.2.1 66 24)).bind fun x2 => (if (x2 * x2) ≠ (x1.2.1 66 24) then some ((0 : Int64), x1) else (if (x1.1 66 5).toInt64 < x2 then some ((0 : Int64), x1) else (if (x1.1 66 4).toInt64 < (labs (x1.2.1 66 23)) then some ((0 : Int64), x1) else some (x2, x1))))))
set_option maxRecDepth 20000 in
set_option maxHeartbeats 4000000 in
theorem c_M_eWithin (d : Nat) {N : Nat} (p0 : Int64) (p1 : Int64) (σ : aSt) {P : Option Value → aSt → Prop} {x : (Int64 × aSt)} (h : f_M_eWithin N p0 p1 σ = some x) (hp : P (some (.long x.1)) x.2) : aCall MT (d + 3) 317 [.ref 66, .long p0, .long p1] σ P := by
  unfold f_M_eWithin at h
  refine call_of (code := mc_M_eWithin) (L := [some (.ref 66), some (.long p0), none, some (.long p1), none, none, none]) rfl rfl rfl rfl ?_
  obtain ⟨x1, hx1, h⟩ := bind_of h
  refine go_call (r := none) (σc := σ) (σ1 := x1) (mi := 103) (vs := [.ref 66, .long p0, .long p1]) (k' := 4) (L' := [some (.ref 66), some (.long p0), none, some (.long p1), none, none, none]) (S' := []) 4 (fun P9 h9 => c_M_lowers (d + 0) p0 p1 σ hx1 h9) (fun n h => h) ?_
  obtain ⟨x2, hx2, h⟩ := bind_of h
  refine go_call (r := some (.long x2)) (σc := x1) (σ1 := x1) (mi := 58) (vs := [.long (x1.2.1 66 24)]) (k' := 7) (L' := [some (.ref 66), some (.long p0), none, some (.long p1), none, none, none]) (S' := []) 3 (fun P9 h9 => c_M_root (d + 1) (x1.2.1 66 24) x1 hx2 h9) (fun n h => h) ?_
  refine go_iff (lcmp_ne (x2 * x2) (x1.2.1 66 24)) (k1 := 31) (L1 := [some (.ref 66), some (.long p0), none, some (.long p1), none, some (.long x2), none]) (S1 := []) (σ1 := x1) (k2 := 15) (L2 := [some (.ref 66), some (.long p0), none, some (.long p1), none, some (.long x2), none]) (S2 := []) (σ2 := x1) 8 (fun n h => h) (fun hc3 => ?_) (fun hc3 => ?_)
  · rw [if_pos hc3] at h
    cases h
    exact go_ret 2 (fun _ => hp)
  · rw [if_neg hc3] at h
    refine go_iff (lcmp_gt x2 (x1.1 66 5).toInt64) (k1 := 31) (L1 := [some (.ref 66), some (.long p0), none, some (.long p1), none, some (.long x2), none]) (S1 := []) (σ1 := x1) (k2 := 21) (L2 := [some (.ref 66), some (.long p0), none, some (.long p1), none, some (.long x2), none]) (S2 := []) (σ2 := x1) 6 (fun n h => h) (fun hc4 => ?_) (fun hc4 => ?_)
    · rw [if_pos hc4] at h
      cases h
      exact go_ret 2 (fun _ => hp)
    · rw [if_neg hc4] at h
      refine go_iff (lcmp_gt (labs (x1.2.1 66 23)) (x1.1 66 4).toInt64) (k1 := 31) (L1 := [some (.ref 66), some (.long p0), none, some (.long p1), none, some (.long x2), none]) (S1 := []) (σ1 := x1) (k2 := 29) (L2 := [some (.ref 66), some (.long p0), none, some (.long p1), none, some (.long x2), none]) (S2 := []) (σ2 := x1) 8 (fun n h => h) (fun hc5 => ?_) (fun hc5 => ?_)
      · rw [if_pos hc5] at h
        cases h
        exact go_ret 2 (fun _ => hp)
      · rw [if_neg hc5] at h
        cases h
        exact go_ret 3 (fun _ => hp)
def f_M_findOver_l2 (N : Nat) (σ : aSt) : Nat → Int64 → Int64 → Int64 → Int32 → Option Int32
  | 0, _, _, _, _ => none
  | n + 1, v1, v3, v5, v7 => (if (σ.1 66 51) ≤ v7 then some (-6 : Int32) else (if 0 ≤ v7 ∧ v7 < (120 : Int32) then (if (σ.1 80 v7.toNatClampNeg).toInt64 ≠ v1 then f_M_findOver_l2 N σ n v1 v3 v5 (v7 + (1 : Int32)) else (if (σ.1 82 v7.toNatClampNeg).toInt64 ≠ v3 then f_M_findOver_l2 N σ n v1 v3 v5 (v7 + (1 : Int32)) else (if (σ.2.1 81 v7.toNatClampNeg) ≠ v5 then f_M_findOver_l2 N σ n v1 v3 v5 (v7 + (1 : Int32)) else some v7))) else none))
set_option maxRecDepth 20000 in
set_option maxHeartbeats 4000000 in
theorem t_M_findOver_l2 (d : Nat) {N : Nat} (σ : aSt) {x : Int32} {P : Option Value → aSt → Prop} (hp : P (some (.int x)) σ) : ∀ (n : Nat) (v1 : Int64) (v3 : Int64) (v5 : Int64) (v7 : Int32), f_M_findOver_l2 N σ n v1 v3 v5 v7 = some x → aGo (aCall MT (d + 0)) P mc_M_findOver 2 [some (.ref 66), some (.long v1), none, some (.long v3), none, some (.long v5), none, some (.int v7)] [] σ := by
  intro n
  induction n with
  | zero => intro v1 v3 v5 v7 h; cases h
  | succ n ih =>
    intro v1 v3 v5 v7 h
    rw [f_M_findOver_l2] at h
    refine go_if (c := (σ.1 66 51) ≤ v7) (k1 := 33) (L1 := [some (.ref 66), some (.long v1), none, some (.long v3), none, some (.long v5), none, some (.int v7)]) (S1 := []) (σ1 := σ) (k2 := 6) (L2 := [some (.ref 66), some (.long v1), none, some (.long v3), none, some (.long v5), none, some (.int v7)]) (S2 := []) (σ2 := σ) 4 (fun n h => h) (fun hc1 => ?_) (fun hc1 => ?_)
    · rw [if_pos hc1] at h
      cases h
      exact go_ret 2 (fun _ => hp)
    · rw [if_neg hc1] at h
      obtain ⟨hc2, h⟩ := ite_of h
      refine go_q (Q := inb 0 σ 80 v7) (k' := 10) (L' := [some (.ref 66), some (.long v1), none, some (.long v3), none, some (.long v5), none, some (.int v7)]) (S' := [.int (σ.1 80 v7.toNatClampNeg)]) (σ' := σ) 4 (inb_mk rfl hc2.1 hc2.2) (fun n h => h) ?_
      refine go_iff (lcmp_ne (σ.1 80 v7.toNatClampNeg).toInt64 v1) (k1 := 31) (L1 := [some (.ref 66), some (.long v1), none, some (.long v3), none, some (.long v5), none, some (.int v7)]) (S1 := []) (σ1 := σ) (k2 := 14) (L2 := [some (.ref 66), some (.long v1), none, some (.long v3), none, some (.long v5), none, some (.int v7)]) (S2 := []) (σ2 := σ) 4 (fun n h => h) (fun hc3 => ?_) (fun hc3 => ?_)
      · rw [if_pos hc3] at h
        refine go_st (k' := 2) (L' := [some (.ref 66), some (.long v1), none, some (.long v3), none, some (.long v5), none, some (.int (v7 + (1 : Int32)))]) (S' := []) (σ' := σ) 2 (fun n h => h) ?_
        exact ih v1 v3 v5 (v7 + (1 : Int32)) h
      · rw [if_neg hc3] at h
        refine go_q (Q := inb 0 σ 82 v7) (k' := 18) (L' := [some (.ref 66), some (.long v1), none, some (.long v3), none, some (.long v5), none, some (.int v7)]) (S' := [.int (σ.1 82 v7.toNatClampNeg)]) (σ' := σ) 4 (inb_mk rfl hc2.1 hc2.2) (fun n h => h) ?_
        refine go_iff (lcmp_ne (σ.1 82 v7.toNatClampNeg).toInt64 v3) (k1 := 31) (L1 := [some (.ref 66), some (.long v1), none, some (.long v3), none, some (.long v5), none, some (.int v7)]) (S1 := []) (σ1 := σ) (k2 := 22) (L2 := [some (.ref 66), some (.long v1), none, some (.long v3), none, some (.long v5), none, some (.int v7)]) (S2 := []) (σ2 := σ) 4 (fun n h => h) (fun hc4 => ?_) (fun hc4 => ?_)
        · rw [if_pos hc4] at h
          refine go_st (k' := 2) (L' := [some (.ref 66), some (.long v1), none, some (.long v3), none, some (.long v5), none, some (.int (v7 + (1 : Int32)))]) (S' := []) (σ' := σ) 2 (fun n h => h) ?_
          exact ih v1 v3 v5 (v7 + (1 : Int32)) h
        · rw [if_neg hc4] at h
          refine go_q (Q := inb 1 σ 81 v7) (k' := 26) (L' := [some (.ref 66), some (.long v1), none, some (.long v3), none, some (.long v5), none, some (.int v7)]) (S' := [.long (σ.2.1 81 v7.toNatClampNeg)]) (σ' := σ) 4 (inb_mk rfl hc2.1 hc2.2) (fun n h => h) ?_
          refine go_iff (lcmp_ne (σ.2.1 81 v7.toNatClampNeg) v5) (k1 := 31) (L1 := [some (.ref 66), some (.long v1), none, some (.long v3), none, some (.long v5), none, some (.int v7)]) (S1 := []) (σ1 := σ) (k2 := 29) (L2 := [some (.ref 66), some (.long v1), none, some (.long v3), none, some (.long v5), none, some (.int v7)]) (S2 := []) (σ2 := σ) 3 (fun n h => h) (fun hc5 => ?_) (fun hc5 => ?_)
          · rw [if_pos hc5] at h
            refine go_st (k' := 2) (L' := [some (.ref 66), some (.long v1), none, some (.long v3), none, some (.long v5), none, some (.int (v7 + (1 : Int32)))]) (S' := []) (σ' := σ) 2 (fun n h => h) ?_
            exact ih v1 v3 v5 (v7 + (1 : Int32)) h
          · rw [if_neg hc5] at h
            cases h
            exact go_ret 2 (fun _ => hp)
def f_M_findOver (N : Nat) (p0 : Int64) (p1 : Int64) (p2 : Int64) (σ : aSt) : Option Int32 :=
  f_M_findOver_l2 N σ N p0 p1 p2 (0 : Int32)
set_option maxRecDepth 20000 in
set_option maxHeartbeats 4000000 in
theorem c_M_findOver (d : Nat) {N : Nat} (p0 : Int64) (p1 : Int64) (p2 : Int64) (σ : aSt) {P : Option Value → aSt → Prop} {x : Int32} (h : f_M_findOver N p0 p1 p2 σ = some x) (hp : P (some (.int x)) σ) : aCall MT (d + 1) 318 [.ref 66, .long p0, .long p1, .long p2] σ P := by
  unfold f_M_findOver at h
  refine call_of (code := mc_M_findOver) (L := [some (.ref 66), some (.long p0), none, some (.long p1), none, some (.long p2), none, none]) rfl rfl rfl rfl ?_
  refine go_st (k' := 2) (L' := [some (.ref 66), some (.long p0), none, some (.long p1), none, some (.long p2), none, some (.int (0 : Int32))]) (S' := []) (σ' := σ) 2 (fun n h => h) ?_
  exact t_M_findOver_l2 d σ hp N p0 p1 p2 (0 : Int32) h
def f_M_over (N : Nat) (p0 : Int32) (σ : aSt) : Option (Int32 × aSt) :=
  (if (f_M_isPoint p0 σ) = true then (if p0 = (1000 : Int32) then some ((1000 : Int32), σ) else (if 0 ≤ p0 ∧ p0 < (120 : Int32) then (if (σ.1 67 p0.toNatClampNeg) ≠ 0 then ((f_M_laysOver N σ).bind fun x5 => ((f_M_eWithin N ((x5.2.1 68 p0.toNatClampNeg) * (x5.2.1 68 p0.toNatClampNeg)) ((((x5.1 69 p0.toNatClampNeg).toInt64 * (x5.1 69 p0.toNatClampNeg).toInt64) * (x5.1 67 p0.toNatClampNeg).toInt64) * (x5.1 67 p0.toNatClampNeg).toInt64) x5).bind fun x6 => (if x6.1 ≠ (0 : Int64) then (if ¬ (((((x5.1 69 p0.toNatClampNeg).toInt64 * (x5.1 69 p0.toNatClampNeg).toInt64) * (x5.1 69 p0.toNatClampNeg).toInt64) * (x5.1 67 p0.toNatClampNeg).toInt64) * (x5.1 67 p0.toNatClampNeg).toInt64) = 0 then ((f_M_findOver N (x6.2.2.1 66 23) x6.1 ((((((x5.2.1 68 p0.toNatClampNeg) * ((((((x6.2.1 66 3).toInt64 * (x5.1 69 p0.toNatClampNeg).toInt64) * (x5.1 69 p0.toNatClampNeg).toInt64) * (x5.1 69 p0.toNatClampNeg).toInt64) * (x5.1 69 p0.toNatClampNeg).toInt64) - ((x5.1 67 p0.toNatClampNeg).toInt64 * (x5.1 67 p0.toNatClampNeg).toInt64))) * x6.1) * x6.1) * x6.1) / (((((x5.1 69 p0.toNatClampNeg).toInt64 * (x5.1 69 p0.toNatClampNeg).toInt64) * (x5.1 69 p0.toNatClampNeg).toInt64) * (x5.1 67 p0.toNatClampNeg).toInt64) * (x5.1 67 p0.toNatClampNeg).toInt64)) x6.2).bind fun x9 => some (x9, x6.2)) else none) else some ((-6 : Int32), x6.2)))) else some ((1000 : Int32), σ)) else none)) else some ((-2 : Int32), σ))
set_option maxRecDepth 20000 in
set_option maxHeartbeats 4000000 in
theorem c_M_over (d : Nat) {N : Nat} (p0 : Int32) (σ : aSt) {P : Option Value → aSt → Prop} {x : (Int32 × aSt)} (h : f_M_over N p0 σ = some x) (hp : P (some (.int x.1)) x.2) : aCall MT (d + 4) 319 [.ref 66, .int p0] σ P := by
  unfold f_M_over at h
  refine call_of (code := mc_M_over) (L := [some (.ref 66), some (.int p0), none, none, none, none, none, none, none, none]) rfl rfl rfl rfl ?_
  refine go_call (r := some (.int (b2i (f_M_isPoint p0 σ)))) (σc := σ) (σ1 := σ) (mi := 90) (vs := [.ref 66, .int p0]) (k' := 3) (L' := [some (.ref 66), some (.int p0), none, none, none, none, none, none, none, none]) (S' := []) 3 (fun P9 h9 => c_M_isPoint (d + 0) p0 σ h9) (fun n h => h) ?_
  refine go_ifn (b := (f_M_isPoint p0 σ)) (k1 := 6) (L1 := [some (.ref 66), some (.int p0), none, none, none, none, none, none, none, none]) (S1 := []) (σ1 := σ) (k2 := 4) (L2 := [some (.ref 66), some (.int p0), none, none, none, none, none, none, none, none]) (S2 := []) (σ2 := σ) 1 (fun n h => h) (fun hc1 => ?_) (fun hc1 => ?_)
  · rw [if_pos hc1] at h
    refine go_if (c := p0 = (1000 : Int32)) (k1 := 14) (L1 := [some (.ref 66), some (.int p0), none, none, none, none, none, none, none, none]) (S1 := []) (σ1 := σ) (k2 := 9) (L2 := [some (.ref 66), some (.int p0), none, none, none, none, none, none, none, none]) (S2 := []) (σ2 := σ) 3 (fun n h => h) (fun hc2 => ?_) (fun hc2 => ?_)
    · rw [if_pos hc2] at h
      cases h
      exact go_ret 2 (fun _ => hp)
    · rw [if_neg hc2] at h
      obtain ⟨hc3, h⟩ := ite_of h
      refine go_q (Q := inb 0 σ 67 p0) (k' := 13) (L' := [some (.ref 66), some (.int p0), none, none, none, none, none, none, none, none]) (S' := [.int (σ.1 67 p0.toNatClampNeg)]) (σ' := σ) 4 (inb_mk rfl hc3.1 hc3.2) (fun n h => h) ?_
      refine go_if (c := (σ.1 67 p0.toNatClampNeg) ≠ 0) (k1 := 16) (L1 := [some (.ref 66), some (.int p0), none, none, none, none, none, none, none, none]) (S1 := []) (σ1 := σ) (k2 := 14) (L2 := [some (.ref 66), some (.int p0), none, none, none, none, none, none, none, none]) (S2 := []) (σ2 := σ) 1 (fun n h => h) (fun hc4 => ?_) (fun hc4 => ?_)
      · rw [if_pos hc4] at h
        obtain ⟨x5, hx5, h⟩ := bind_of h
        refine go_call (r := none) (σc := σ) (σ1 := x5) (mi := 311) (vs := [.ref 66]) (k' := 18) (L' := [some (.ref 66), some (.int p0), none, none, none, none, none, none, none, none]) (S' := []) 2 (fun P9 h9 => c_M_laysOver (d + 0) σ hx5 h9) (fun n h => h) ?_
        refine go_q (Q := inb 0 x5 67 p0) (k' := 22) (L' := [some (.ref 66), some (.int p0), none, none, none, none, none, none, none, none]) (S' := [.int (x5.1 67 p0.toNatClampNeg)]) (σ' := x5) 4 (inb_mk rfl hc3.1 hc3.2) (fun n h => h) ?_
        refine go_q (Q := inb 1 x5 68 p0) (k' := 28) (L' := [some (.ref 66), some (.int p0), some (.long (x5.1 67 p0.toNatClampNeg).toInt64), none, none, none, none, none, none, none]) (S' := [.long (x5.2.1 68 p0.toNatClampNeg)]) (σ' := x5) 6 (inb_mk rfl hc3.1 hc3.2) (fun n h => h) ?_
        refine go_q (Q := inb 0 x5 69 p0) (k' := 33) (L' := [some (.ref 66), some (.int p0), some (.long (x5.1 67 p0.toNatClampNeg).toInt64), none, some (.long (x5.2.1 68 p0.toNatClampNeg)), none, none, none, none, none]) (S' := [.int (x5.1 69 p0.toNatClampNeg)]) (σ' := x5) 5 (inb_mk rfl hc3.1 hc3.2) (fun n h => h) ?_
        obtain ⟨x6, hx6, h⟩ := bind_of h
        refine go_call (r := some (.long x6.1)) (σc := x5) (σ1 := x6.2) (mi := 317) (vs := [.ref 66, .long ((x5.2.1 68 p0.toNatClampNeg) * (x5.2.1 68 p0.toNatClampNeg)), .long ((((x5.1 69 p0.toNatClampNeg).toInt64 * (x5.1 69 p0.toNatClampNeg).toInt64) * (x5.1 67 p0.toNatClampNeg).toInt64) * (x5.1 67 p0.toNatClampNeg).toInt64)]) (k' := 47) (L' := [some (.ref 66), some (.int p0), some (.long (x5.1 67 p0.toNatClampNeg).toInt64), none, some (.long (x5.2.1 68 p0.toNatClampNeg)), none, some (.long (x5.1 69 p0.toNatClampNeg).toInt64), none, none, none]) (S' := []) 14 (fun P9 h9 => c_M_eWithin (d + 0) ((x5.2.1 68 p0.toNatClampNeg) * (x5.2.1 68 p0.toNatClampNeg)) ((((x5.1 69 p0.toNatClampNeg).toInt64 * (x5.1 69 p0.toNatClampNeg).toInt64) * (x5.1 67 p0.toNatClampNeg).toInt64) * (x5.1 67 p0.toNatClampNeg).toInt64) x5 hx6 h9) (fun n h => h) ?_
        refine go_iff (lcmp_ne x6.1 (0 : Int64)) (k1 := 54) (L1 := [some (.ref 66), some (.int p0), some (.long (x5.1 67 p0.toNatClampNeg).toInt64), none, some (.long (x5.2.1 68 p0.toNatClampNeg)), none, some (.long (x5.1 69 p0.toNatClampNeg).toInt64), none, some (.long x6.1), none]) (S1 := []) (σ1 := x6.2) (k2 := 52) (L2 := [some (.ref 66), some (.int p0), some (.long (x5.1 67 p0.toNatClampNeg).toInt64), none, some (.long (x5.2.1 68 p0.toNatClampNeg)), none, some (.long (x5.1 69 p0.toNatClampNeg).toInt64), none, some (.long x6.1), none]) (S2 := []) (σ2 := x6.2) 5 (fun n h => h) (fun hc7 => ?_) (fun hc7 => ?_)
        · rw [if_pos hc7] at h
          obtain ⟨hc8, h⟩ := ite_of h
          refine go_q (Q := ¬ (((((x5.1 69 p0.toNatClampNeg).toInt64 * (x5.1 69 p0.toNatClampNeg).toInt64) * (x5.1 69 p0.toNatClampNeg).toInt64) * (x5.1 67 p0.toNatClampNeg).toInt64) * (x5.1 67 p0.toNatClampNeg).toInt64) = 0) (k' := 91) (L' := [some (.ref 66), some (.int p0), some (.long (x5.1 67 p0.toNatClampNeg).toInt64), none, some (.long (x5.2.1 68 p0.toNatClampNeg)), none, some (.long (x5.1 69 p0.toNatClampNeg).toInt64), none, some (.long x6.1), none]) (S' := [.long ((((((x5.2.1 68 p0.toNatClampNeg) * ((((((x6.2.1 66 3).toInt64 * (x5.1 69 p0.toNatClampNeg).toInt64) * (x5.1 69 p0.toNatClampNeg).toInt64) * (x5.1 69 p0.toNatClampNeg).toInt64) * (x5.1 69 p0.toNatClampNeg).toInt64) - ((x5.1 67 p0.toNatClampNeg).toInt64 * (x5.1 67 p0.toNatClampNeg).toInt64))) * x6.1) * x6.1) * x6.1) / (((((x5.1 69 p0.toNatClampNeg).toInt64 * (x5.1 69 p0.toNatClampNeg).toInt64) * (x5.1 69 p0.toNatClampNeg).toInt64) * (x5.1 67 p0.toNatClampNeg).toInt64) * (x5.1 67 p0.toNatClampNeg).toInt64)), .long x6.1, .long (x6.2.2.1 66 23), .ref 66]) (σ' := x6.2) 37 hc8 (fun n h => h) ?_
          obtain ⟨x9, hx9, h⟩ := bind_of h
          refine go_call (r := some (.int x9)) (σc := x6.2) (σ1 := x6.2) (mi := 318) (vs := [.ref 66, .long (x6.2.2.1 66 23), .long x6.1, .long ((((((x5.2.1 68 p0.toNatClampNeg) * ((((((x6.2.1 66 3).toInt64 * (x5.1 69 p0.toNatClampNeg).toInt64) * (x5.1 69 p0.toNatClampNeg).toInt64) * (x5.1 69 p0.toNatClampNeg).toInt64) * (x5.1 69 p0.toNatClampNeg).toInt64) - ((x5.1 67 p0.toNatClampNeg).toInt64 * (x5.1 67 p0.toNatClampNeg).toInt64))) * x6.1) * x6.1) * x6.1) / (((((x5.1 69 p0.toNatClampNeg).toInt64 * (x5.1 69 p0.toNatClampNeg).toInt64) * (x5.1 69 p0.toNatClampNeg).toInt64) * (x5.1 67 p0.toNatClampNeg).toInt64) * (x5.1 67 p0.toNatClampNeg).toInt64))]) (k' := 92) (L' := [some (.ref 66), some (.int p0), some (.long (x5.1 67 p0.toNatClampNeg).toInt64), none, some (.long (x5.2.1 68 p0.toNatClampNeg)), none, some (.long (x5.1 69 p0.toNatClampNeg).toInt64), none, some (.long x6.1), none]) (S' := []) 1 (fun P9 h9 => c_M_findOver (d + 2) (x6.2.2.1 66 23) x6.1 ((((((x5.2.1 68 p0.toNatClampNeg) * ((((((x6.2.1 66 3).toInt64 * (x5.1 69 p0.toNatClampNeg).toInt64) * (x5.1 69 p0.toNatClampNeg).toInt64) * (x5.1 69 p0.toNatClampNeg).toInt64) * (x5.1 69 p0.toNatClampNeg).toInt64) - ((x5.1 67 p0.toNatClampNeg).toInt64 * (x5.1 67 p0.toNatClampNeg).toInt64))) * x6.1) * x6.1) * x6.1) / (((((x5.1 69 p0.toNatClampNeg).toInt64 * (x5.1 69 p0.toNatClampNeg).toInt64) * (x5.1 69 p0.toNatClampNeg).toInt64) * (x5.1 67 p0.toNatClampNeg).toInt64) * (x5.1 67 p0.toNatClampNeg).toInt64)) x6.2 hx9 h9) (fun n h => h) ?_
          cases h
          exact go_ret 1 (fun _ => hp)
        · rw [if_neg hc7] at h
          cases h
          exact go_ret 3 (fun _ => hp)
      · rw [if_neg hc4] at h
        cases h
        exact go_ret 2 (fun _ => hp)
  · rw [if_neg hc1] at h
    cases h
    exact go_ret 2 (fun _ => hp)
def f_M_back (N : Nat) (p0 : Int32) (σ : aSt) : Option (Int32 × aSt) :=
  (if (σ.2.2 66 1) = true then ((f_M_laysOver N σ).bind fun x2 => (if p0 ≠ (1000 : Int32) then (if (f_M_in p0.toInt64 (0 : Int64) ((x2.1 66 51) - (1 : Int32)).toInt64) = true then (if 0 ≤ p0 ∧ p0 < (120 : Int32) then (if (x2.1 80 p0.toNatClampNeg) ≠ 0 then ((f_M_eWithin N ((x2.2.1 81 p0.toNatClampNeg) * (x2.2.1 81 p0.toNatClampNeg)) (((((4 : Int64) * (x2.1 82 p0.toNatClampNeg).toInt64) * (x2.1 82 p0.toNatClampNeg).toInt64) * (x2.1 80 p0.toNatClampNeg).toInt64) * (x2.1 80 p0.toNatClampNeg).toInt64) x2).bind fun x7 => (if x7.1 ≠ (0 : Int64) then (if ¬ ((((((8 : Int64) * (x2.1 82 p0.toNatClampNeg).toInt64) * (x2.1 82 p0.toNatClampNeg).toInt64) * (x2.1 82 p0.toNatClampNeg).toInt64) * (x2.1 80 p0.toNatClampNeg).toInt64) * (x2.1 80 p0.toNatClampNeg).toInt64) = 0 then ((f_M_find N (x7.2.2.1 66 23) x7.1 ((((((x2.2.1 81 p0.toNatClampNeg) * ((((((((x2.1 66 2).toInt64 * (x2.1 66 2).toInt64) - ((4 : Int64) * (x2.1 66 3).toInt64)) * (x2.1 82 p0.toNatClampNeg).toInt64) * (x2.1 82 p0.toNatClampNeg).toInt64) * (x2.1 82 p0.toNatClampNeg).toInt64) * (x2.1 82 p0.toNatClampNeg).toInt64) - ((x2.1 80 p0.toNatClampNeg).toInt64 * (x2.1 80 p0.toNatClampNeg).toInt64))) * x7.1) * x7.1) * x7.1) / ((((((8 : Int64) * (x2.1 82 p0.toNatClampNeg).toInt64) * (x2.1 82 p0.toNatClampNeg).toInt64) * (x2.1 82 p0.toNatClampNeg).toInt64) * (x2.1 80 p0.toNatClampNeg).toInt64) * (x2.1 80 p0.toNatClampNeg).toInt64)) x7.2).bind fun x10 => some (x10, x7.2)) else none) else some ((-6 : Int32), x7.2))) else some ((1000 : Int32), x2)) else none) else some ((-2 : Int32), x2)) else some ((1000 : Int32), x2))) else some ((-2 : Int32), σ))
set_option maxRecDepth 20000 in
set_option maxHeartbeats 4000000 in
theorem c_M_back (d : Nat) {N : Nat} (p0 : Int32) (σ : aSt) {P : Option Value → aSt → Prop} {x : (Int32 × aSt)} (h : f_M_back N p0 σ = some x) (hp : P (some (.int x.1)) x.2) : aCall MT (d + 4) 321 [.ref 66, .int p0] σ P := by
  unfold f_M_back at h
  refine call_of (code := mc_M_back) (L := [some (.ref 66), some (.int p0), none, none, none, none, none, none, none, none, none, none]) rfl rfl rfl rfl ?_
  refine go_ifn (b := (σ.2.2 66 1)) (k1 := 5) (L1 := [some (.ref 66), some (.int p0), none, none, none, none, none, none, none, none, none, none]) (S1 := []) (σ1 := σ) (k2 := 3) (L2 := [some (.ref 66), some (.int p0), none, none, none, none, none, none, none, none, none, none]) (S2 := []) (σ2 := σ) 3 (fun n h => h) (fun hc1 => ?_) (fun hc1 => ?_)
  · rw [if_pos hc1] at h
    obtain ⟨x2, hx2, h⟩ := bind_of h
    refine go_call (r := none) (σc := σ) (σ1 := x2) (mi := 311) (vs := [.ref 66]) (k' := 7) (L' := [some (.ref 66), some (.int p0), none, none, none, none, none, none, none, none, none, none]) (S' := []) 2 (fun P9 h9 => c_M_laysOver (d + 0) σ hx2 h9) (fun n h => h) ?_
    refine go_if (c := p0 ≠ (1000 : Int32)) (k1 := 12) (L1 := [some (.ref 66), some (.int p0), none, none, none, none, none, none, none, none, none, none]) (S1 := []) (σ1 := x2) (k2 := 10) (L2 := [some (.ref 66), some (.int p0), none, none, none, none, none, none, none, none, none, none]) (S2 := []) (σ2 := x2) 3 (fun n h => h) (fun hc3 => ?_) (fun hc3 => ?_)
    · rw [if_pos hc3] at h
      refine go_call (r := some (.int (b2i (f_M_in p0.toInt64 (0 : Int64) ((x2.1 66 51) - (1 : Int32)).toInt64)))) (σc := x2) (σ1 := x2) (mi := 7) (vs := [.long p0.toInt64, .long (0 : Int64), .long ((x2.1 66 51) - (1 : Int32)).toInt64]) (k' := 21) (L' := [some (.ref 66), some (.int p0), none, none, none, none, none, none, none, none, none, none]) (S' := []) 9 (fun P9 h9 => c_M_in (d + 2) p0.toInt64 (0 : Int64) ((x2.1 66 51) - (1 : Int32)).toInt64 x2 h9) (fun n h => h) ?_
      refine go_ifn (b := (f_M_in p0.toInt64 (0 : Int64) ((x2.1 66 51) - (1 : Int32)).toInt64)) (k1 := 24) (L1 := [some (.ref 66), some (.int p0), none, none, none, none, none, none, none, none, none, none]) (S1 := []) (σ1 := x2) (k2 := 22) (L2 := [some (.ref 66), some (.int p0), none, none, none, none, none, none, none, none, none, none]) (S2 := []) (σ2 := x2) 1 (fun n h => h) (fun hc4 => ?_) (fun hc4 => ?_)
      · rw [if_pos hc4] at h
        obtain ⟨hc5, h⟩ := ite_of h
        refine go_q (Q := inb 0 x2 80 p0) (k' := 28) (L' := [some (.ref 66), some (.int p0), none, none, none, none, none, none, none, none, none, none]) (S' := [.int (x2.1 80 p0.toNatClampNeg)]) (σ' := x2) 4 (inb_mk rfl hc5.1 hc5.2) (fun n h => h) ?_
        refine go_if (c := (x2.1 80 p0.toNatClampNeg) ≠ 0) (k1 := 31) (L1 := [some (.ref 66), some (.int p0), none, none, none, none, none, none, none, none, none, none]) (S1 := []) (σ1 := x2) (k2 := 29) (L2 := [some (.ref 66), some (.int p0), none, none, none, none, none, none, none, none, none, none]) (S2 := []) (σ2 := x2) 1 (fun n h => h) (fun hc6 => ?_) (fun hc6 => ?_)
        · rw [if_pos hc6] at h
          refine go_q (Q := inb 0 x2 80 p0) (k' := 35) (L' := [some (.ref 66), some (.int p0), none, none, none, none, none, none, none, none, none, none]) (S' := [.int (x2.1 80 p0.toNatClampNeg)]) (σ' := x2) 4 (inb_mk rfl hc5.1 hc5.2) (fun n h => h) ?_
          refine go_q (Q := inb 1 x2 81 p0) (k' := 41) (L' := [some (.ref 66), some (.int p0), some (.long (x2.1 80 p0.toNatClampNeg).toInt64), none, none, none, none, none, none, none, none, none]) (S' := [.long (x2.2.1 81 p0.toNatClampNeg)]) (σ' := x2) 6 (inb_mk rfl hc5.1 hc5.2) (fun n h => h) ?_
          refine go_q (Q := inb 0 x2 82 p0) (k' := 46) (L' := [some (.ref 66), some (.int p0), some (.long (x2.1 80 p0.toNatClampNeg).toInt64), none, some (.long (x2.2.1 81 p0.toNatClampNeg)), none, none, none, none, none, none, none]) (S' := [.int (x2.1 82 p0.toNatClampNeg)]) (σ' := x2) 5 (inb_mk rfl hc5.1 hc5.2) (fun n h => h) ?_
          obtain ⟨x7, hx7, h⟩ := bind_of h
          refine go_call (r := some (.long x7.1)) (σc := x2) (σ1 := x7.2) (mi := 317) (vs := [.ref 66, .long ((x2.2.1 81 p0.toNatClampNeg) * (x2.2.1 81 p0.toNatClampNeg)), .long (((((4 : Int64) * (x2.1 82 p0.toNatClampNeg).toInt64) * (x2.1 82 p0.toNatClampNeg).toInt64) * (x2.1 80 p0.toNatClampNeg).toInt64) * (x2.1 80 p0.toNatClampNeg).toInt64)]) (k' := 76) (L' := [some (.ref 66), some (.int p0), some (.long (x2.1 80 p0.toNatClampNeg).toInt64), none, some (.long (x2.2.1 81 p0.toNatClampNeg)), none, some (.long (x2.1 82 p0.toNatClampNeg).toInt64), none, some (.long (((x2.1 66 2).toInt64 * (x2.1 66 2).toInt64) - ((4 : Int64) * (x2.1 66 3).toInt64))), none, none, none]) (S' := []) 30 (fun P9 h9 => c_M_eWithin (d + 0) ((x2.2.1 81 p0.toNatClampNeg) * (x2.2.1 81 p0.toNatClampNeg)) (((((4 : Int64) * (x2.1 82 p0.toNatClampNeg).toInt64) * (x2.1 82 p0.toNatClampNeg).toInt64) * (x2.1 80 p0.toNatClampNeg).toInt64) * (x2.1 80 p0.toNatClampNeg).toInt64) x2 hx7 h9) (fun n h => h) ?_
          refine go_iff (lcmp_ne x7.1 (0 : Int64)) (k1 := 83) (L1 := [some (.ref 66), some (.int p0), some (.long (x2.1 80 p0.toNatClampNeg).toInt64), none, some (.long (x2.2.1 81 p0.toNatClampNeg)), none, some (.long (x2.1 82 p0.toNatClampNeg).toInt64), none, some (.long (((x2.1 66 2).toInt64 * (x2.1 66 2).toInt64) - ((4 : Int64) * (x2.1 66 3).toInt64))), none, some (.long x7.1), none]) (S1 := []) (σ1 := x7.2) (k2 := 81) (L2 := [some (.ref 66), some (.int p0), some (.long (x2.1 80 p0.toNatClampNeg).toInt64), none, some (.long (x2.2.1 81 p0.toNatClampNeg)), none, some (.long (x2.1 82 p0.toNatClampNeg).toInt64), none, some (.long (((x2.1 66 2).toInt64 * (x2.1 66 2).toInt64) - ((4 : Int64) * (x2.1 66 3).toInt64))), none, some (.long x7.1), none]) (S2 := []) (σ2 := x7.2) 5 (fun n h => h) (fun hc8 => ?_) (fun hc8 => ?_)
          · rw [if_pos hc8] at h
            obtain ⟨hc9, h⟩ := ite_of h
            refine go_q (Q := ¬ ((((((8 : Int64) * (x2.1 82 p0.toNatClampNeg).toInt64) * (x2.1 82 p0.toNatClampNeg).toInt64) * (x2.1 82 p0.toNatClampNeg).toInt64) * (x2.1 80 p0.toNatClampNeg).toInt64) * (x2.1 80 p0.toNatClampNeg).toInt64) = 0) (k' := 120) (L' := [some (.ref 66), some (.int p0), some (.long (x2.1 80 p0.toNatClampNeg).toInt64), none, some (.long (x2.2.1 81 p0.toNatClampNeg)), none, some (.long (x2.1 82 p0.toNatClampNeg).toInt64), none, some (.long (((x2.1 66 2).toInt64 * (x2.1 66 2).toInt64) - ((4 : Int64) * (x2.1 66 3).toInt64))), none, some (.long x7.1), none]) (S' := [.long ((((((x2.2.1 81 p0.toNatClampNeg) * ((((((((x2.1 66 2).toInt64 * (x2.1 66 2).toInt64) - ((4 : Int64) * (x2.1 66 3).toInt64)) * (x2.1 82 p0.toNatClampNeg).toInt64) * (x2.1 82 p0.toNatClampNeg).toInt64) * (x2.1 82 p0.toNatClampNeg).toInt64) * (x2.1 82 p0.toNatClampNeg).toInt64) - ((x2.1 80 p0.toNatClampNeg).toInt64 * (x2.1 80 p0.toNatClampNeg).toInt64))) * x7.1) * x7.1) * x7.1) / ((((((8 : Int64) * (x2.1 82 p0.toNatClampNeg).toInt64) * (x2.1 82 p0.toNatClampNeg).toInt64) * (x2.1 82 p0.toNatClampNeg).toInt64) * (x2.1 80 p0.toNatClampNeg).toInt64) * (x2.1 80 p0.toNatClampNeg).toInt64)), .long x7.1, .long (x7.2.2.1 66 23), .ref 66]) (σ' := x7.2) 37 hc9 (fun n h => h) ?_
            obtain ⟨x10, hx10, h⟩ := bind_of h
            refine go_call (r := some (.int x10)) (σc := x7.2) (σ1 := x7.2) (mi := 91) (vs := [.ref 66, .long (x7.2.2.1 66 23), .long x7.1, .long ((((((x2.2.1 81 p0.toNatClampNeg) * ((((((((x2.1 66 2).toInt64 * (x2.1 66 2).toInt64) - ((4 : Int64) * (x2.1 66 3).toInt64)) * (x2.1 82 p0.toNatClampNeg).toInt64) * (x2.1 82 p0.toNatClampNeg).toInt64) * (x2.1 82 p0.toNatClampNeg).toInt64) * (x2.1 82 p0.toNatClampNeg).toInt64) - ((x2.1 80 p0.toNatClampNeg).toInt64 * (x2.1 80 p0.toNatClampNeg).toInt64))) * x7.1) * x7.1) * x7.1) / ((((((8 : Int64) * (x2.1 82 p0.toNatClampNeg).toInt64) * (x2.1 82 p0.toNatClampNeg).toInt64) * (x2.1 82 p0.toNatClampNeg).toInt64) * (x2.1 80 p0.toNatClampNeg).toInt64) * (x2.1 80 p0.toNatClampNeg).toInt64))]) (k' := 121) (L' := [some (.ref 66), some (.int p0), some (.long (x2.1 80 p0.toNatClampNeg).toInt64), none, some (.long (x2.2.1 81 p0.toNatClampNeg)), none, some (.long (x2.1 82 p0.toNatClampNeg).toInt64), none, some (.long (((x2.1 66 2).toInt64 * (x2.1 66 2).toInt64) - ((4 : Int64) * (x2.1 66 3).toInt64))), none, some (.long x7.1), none]) (S' := []) 1 (fun P9 h9 => c_M_find (d + 2) (x7.2.2.1 66 23) x7.1 ((((((x2.2.1 81 p0.toNatClampNeg) * ((((((((x2.1 66 2).toInt64 * (x2.1 66 2).toInt64) - ((4 : Int64) * (x2.1 66 3).toInt64)) * (x2.1 82 p0.toNatClampNeg).toInt64) * (x2.1 82 p0.toNatClampNeg).toInt64) * (x2.1 82 p0.toNatClampNeg).toInt64) * (x2.1 82 p0.toNatClampNeg).toInt64) - ((x2.1 80 p0.toNatClampNeg).toInt64 * (x2.1 80 p0.toNatClampNeg).toInt64))) * x7.1) * x7.1) * x7.1) / ((((((8 : Int64) * (x2.1 82 p0.toNatClampNeg).toInt64) * (x2.1 82 p0.toNatClampNeg).toInt64) * (x2.1 82 p0.toNatClampNeg).toInt64) * (x2.1 80 p0.toNatClampNeg).toInt64) * (x2.1 80 p0.toNatClampNeg).toInt64)) x7.2 hx10 h9) (fun n h => h) ?_
            cases h
            exact go_ret 1 (fun _ => hp)
          · rw [if_neg hc8] at h
            cases h
            exact go_ret 3 (fun _ => hp)
        · rw [if_neg hc6] at h
          cases h
          exact go_ret 2 (fun _ => hp)
      · rw [if_neg hc4] at h
        cases h
        exact go_ret 2 (fun _ => hp)
    · rw [if_neg hc3] at h
      cases h
      exact go_ret 2 (fun _ => hp)
  · rw [if_neg hc1] at h
    cases h
    exact go_ret 2 (fun _ => hp)
