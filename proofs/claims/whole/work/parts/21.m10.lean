def f_M_bad_l35 (N : Nat) (σ : aSt) : Nat → Int32 → Int32 → Int32 → Option Int32
  | 0, _, _, _ => none
  | n + 1, v1, v2, v3 => (if v1 ≤ v3 then some (2 : Int32) else (if ¬ v1 = 0 then (if (irem (v3 * v3) v1) ≠ v2 then f_M_bad_l35 N σ n v1 v2 (v3 + (1 : Int32)) else some (1 : Int32)) else none))
set_option maxRecDepth 20000 in
set_option maxHeartbeats 4000000 in
theorem t_M_bad_l35 (d : Nat) {N : Nat} (σ : aSt) {x : Int32} {P : Option Value → aSt → Prop} (hp : P (some (.int x)) σ) : ∀ (n : Nat) (d0 : Option Value) (v1 : Int32) (v2 : Int32) (v3 : Int32), f_M_bad_l35 N σ n v1 v2 v3 = some x → aGo (aCall MT (d + 2)) P mc_M_bad 35 [d0, some (.int v1), some (.int v2), some (.int v3)] [] σ := by
  intro n
  induction n with
  | zero => intro d0 v1 v2 v3 h; cases h
  | succ n ih =>
    intro d0 v1 v2 v3 h
    rw [f_M_bad_l35] at h
    refine go_if (c := v1 ≤ v3) (k1 := 49) (L1 := [d0, some (.int v1), some (.int v2), some (.int v3)]) (S1 := []) (σ1 := σ) (k2 := 38) (L2 := [d0, some (.int v1), some (.int v2), some (.int v3)]) (S2 := []) (σ2 := σ) 3 (fun n h => h) (fun hc10 => ?_) (fun hc10 => ?_)
    · rw [if_pos hc10] at h
      cases h
      exact go_ret 2 (fun _ => hp)
    · rw [if_neg hc10] at h
      obtain ⟨hc11, h⟩ := ite_of h
      refine go_q (Q := ¬ v1 = 0) (k' := 43) (L' := [d0, some (.int v1), some (.int v2), some (.int v3)]) (S' := [.int (irem (v3 * v3) v1)]) (σ' := σ) 5 hc11 (fun n h => h) ?_
      refine go_if (c := (irem (v3 * v3) v1) ≠ v2) (k1 := 47) (L1 := [d0, some (.int v1), some (.int v2), some (.int v3)]) (S1 := []) (σ1 := σ) (k2 := 45) (L2 := [d0, some (.int v1), some (.int v2), some (.int v3)]) (S2 := []) (σ2 := σ) 2 (fun n h => h) (fun hc12 => ?_) (fun hc12 => ?_)
      · rw [if_pos hc12] at h
        refine go_st (k' := 35) (L' := [d0, some (.int v1), some (.int v2), some (.int (v3 + (1 : Int32)))]) (S' := []) (σ' := σ) 2 (fun n h => h) ?_
        exact ih _ v1 v2 (v3 + (1 : Int32)) h
      · rw [if_neg hc12] at h
        cases h
        exact go_ret 2 (fun _ => hp)
def f_M_bad_b26 (N : Nat) (v1 : Int32) (s0 : Int64) (σ : aSt) : Option Int32 :=
  ((f_M_mod N s0 v1).bind fun x8 => (if x8 ≠ 0 then f_M_bad_l35 N σ N v1 x8 (1 : Int32) else some (3 : Int32)))
set_option maxRecDepth 20000 in
set_option maxHeartbeats 4000000 in
theorem t_M_bad_b26 (d : Nat) {N : Nat} (d0 d2 d3 : Option Value) (v1 : Int32) (s0 : Int64) (σ : aSt) {P : Option Value → aSt → Prop} {x : Int32} (h : f_M_bad_b26 N v1 s0 σ = some x) (hp : P (some (.int x)) σ) : aGo (aCall MT (d + 2)) P mc_M_bad 26 [d0, some (.int v1), d2, d3] [.long s0] σ := by
  unfold f_M_bad_b26 at h
  obtain ⟨x8, hx8, h⟩ := bind_of h
  refine go_call (r := some (.int x8)) (σc := σ) (σ1 := σ) (mi := 147) (vs := [.long s0, .int v1]) (k' := 28) (L' := [d0, some (.int v1), d2, d3]) (S' := []) 2 (fun P9 h9 => c_M_mod (d + 1) s0 v1 σ hx8 h9) (fun n h => h) ?_
  refine go_if (c := x8 ≠ 0) (k1 := 33) (L1 := [d0, some (.int v1), some (.int x8), d3]) (S1 := []) (σ1 := σ) (k2 := 31) (L2 := [d0, some (.int v1), some (.int x8), d3]) (S2 := []) (σ2 := σ) 3 (fun n h => h) (fun hc9 => ?_) (fun hc9 => ?_)
  · rw [if_pos hc9] at h
    refine go_st (k' := 35) (L' := [d0, some (.int v1), some (.int x8), some (.int (1 : Int32))]) (S' := []) (σ' := σ) 2 (fun n h => h) ?_
    exact t_M_bad_l35 d σ hp N _ v1 x8 (1 : Int32) h
  · rw [if_neg hc9] at h
    cases h
    exact go_ret 2 (fun _ => hp)
def f_M_bad (N : Nat) (p0 : Int32) (σ : aSt) : Option Int32 :=
  (if (σ.2.2 66 1) = true then ((f_M_isPrime N p0).bind fun x2 => (if x2 = true then ((f_M_isGoodPrime N p0 σ).bind fun x4 => (if x4 = true then some (-2 : Int32) else (if ¬ p0 = 0 then (if (irem (σ.1 66 3) p0) ≠ 0 then f_M_bad_b26 N p0 ((-2 : Int64) * (σ.1 66 2).toInt64) σ else f_M_bad_b26 N p0 (σ.1 66 2).toInt64 σ) else none))) else some (-2 : Int32))) else some (-2 : Int32))
set_option maxRecDepth 20000 in
set_option maxHeartbeats 4000000 in
theorem c_M_bad (d : Nat) {N : Nat} (p0 : Int32) (σ : aSt) {P : Option Value → aSt → Prop} {x : Int32} (h : f_M_bad N p0 σ = some x) (hp : P (some (.int x)) σ) : aCall MT (d + 3) 323 [.ref 66, .int p0] σ P := by
  unfold f_M_bad at h
  refine call_of (code := mc_M_bad) (L := [some (.ref 66), some (.int p0), none, none]) rfl rfl rfl rfl ?_
  refine go_ifz (b := (σ.2.2 66 1)) (k1 := 10) (L1 := [some (.ref 66), some (.int p0), none, none]) (S1 := []) (σ1 := σ) (k2 := 3) (L2 := [some (.ref 66), some (.int p0), none, none]) (S2 := []) (σ2 := σ) 3 (fun n h => h) (fun hc1 => ?_) (fun hc1 => ?_)
  · rw [if_neg hc1] at h
    cases h
    exact go_ret 2 (fun _ => hp)
  · rw [if_pos hc1] at h
    obtain ⟨x2, hx2, h⟩ := bind_of h
    refine go_call (r := some (.int (b2i x2))) (σc := σ) (σ1 := σ) (mi := 145) (vs := [.int p0]) (k' := 5) (L' := [some (.ref 66), some (.int p0), none, none]) (S' := []) 2 (fun P9 h9 => c_M_isPrime (d + 1) p0 σ hx2 h9) (fun n h => h) ?_
    refine go_ifz (b := x2) (k1 := 10) (L1 := [some (.ref 66), some (.int p0), none, none]) (S1 := []) (σ1 := σ) (k2 := 6) (L2 := [some (.ref 66), some (.int p0), none, none]) (S2 := []) (σ2 := σ) 1 (fun n h => h) (fun hc3 => ?_) (fun hc3 => ?_)
    · rw [if_neg hc3] at h
      cases h
      exact go_ret 2 (fun _ => hp)
    · rw [if_pos hc3] at h
      obtain ⟨x4, hx4, h⟩ := bind_of h
      refine go_call (r := some (.int (b2i x4))) (σc := σ) (σ1 := σ) (mi := 146) (vs := [.ref 66, .int p0]) (k' := 9) (L' := [some (.ref 66), some (.int p0), none, none]) (S' := []) 3 (fun P9 h9 => c_M_isGoodPrime (d + 0) p0 σ hx4 h9) (fun n h => h) ?_
      refine go_ifz (b := x4) (k1 := 12) (L1 := [some (.ref 66), some (.int p0), none, none]) (S1 := []) (σ1 := σ) (k2 := 10) (L2 := [some (.ref 66), some (.int p0), none, none]) (S2 := []) (σ2 := σ) 1 (fun n h => h) (fun hc5 => ?_) (fun hc5 => ?_)
      · rw [if_neg hc5] at h
        obtain ⟨hc6, h⟩ := ite_of h
        refine go_q (Q := ¬ p0 = 0) (k' := 16) (L' := [some (.ref 66), some (.int p0), none, none]) (S' := [.int (irem (σ.1 66 3) p0)]) (σ' := σ) 4 hc6 (fun n h => h) ?_
        refine go_if (c := (irem (σ.1 66 3) p0) ≠ 0) (k1 := 21) (L1 := [some (.ref 66), some (.int p0), none, none]) (S1 := []) (σ1 := σ) (k2 := 17) (L2 := [some (.ref 66), some (.int p0), none, none]) (S2 := []) (σ2 := σ) 1 (fun n h => h) (fun hc7 => ?_) (fun hc7 => ?_)
        · rw [if_pos hc7] at h
          refine go_st (k' := 26) (L' := [some (.ref 66), some (.int p0), none, none]) (S' := [.long ((-2 : Int64) * (σ.1 66 2).toInt64)]) (σ' := σ) 5 (fun n h => h) ?_
          exact t_M_bad_b26 d _ _ _ p0 ((-2 : Int64) * (σ.1 66 2).toInt64) σ h hp
        · rw [if_neg hc7] at h
          refine go_st (k' := 26) (L' := [some (.ref 66), some (.int p0), none, none]) (S' := [.long (σ.1 66 2).toInt64]) (σ' := σ) 4 (fun n h => h) ?_
          exact t_M_bad_b26 d _ _ _ p0 (σ.1 66 2).toInt64 σ h hp
      · rw [if_pos hc5] at h
        cases h
        exact go_ret 2 (fun _ => hp)
def f_M_isSolved (N : Nat) (p0 : Int32) (p1 : Int32) (p2 : Int32) (p3 : Int32) (p4 : Int32) (σ : aSt) : Option (Bool × aSt) :=
  ((f_M_timesOf N p0 p3 σ).bind fun x1 => ((f_M_timesOf N p1 p4 x1.2).bind fun x2 => (if x1.1 = (-6 : Int32) then some (false, x2.2) else (if x2.1 = (-6 : Int32) then some (false, x2.2) else ((f_M_sumOf N x1.1 x2.1 (1 : Int32) x2.2).bind fun x5 => (if x5.1 ≠ p2 then some (false, x5.2) else some (true, x5.2)))))))
set_option maxRecDepth 20000 in
set_option maxHeartbeats 4000000 in
theorem c_M_isSolved (d : Nat) {N : Nat} (p0 : Int32) (p1 : Int32) (p2 : Int32) (p3 : Int32) (p4 : Int32) (σ : aSt) {P : Option Value → aSt → Prop} {x : (Bool × aSt)} (h : f_M_isSolved N p0 p1 p2 p3 p4 σ = some x) (hp : P (some (.int (b2i x.1))) x.2) : aCall MT (d + 6) 325 [.ref 66, .int p0, .int p1, .int p2, .int p3, .int p4] σ P := by
  unfold f_M_isSolved at h
  refine call_of (code := mc_M_isSolved) (L := [some (.ref 66), some (.int p0), some (.int p1), some (.int p2), some (.int p3), some (.int p4), none, none]) rfl rfl rfl rfl ?_
  obtain ⟨x1, hx1, h⟩ := bind_of h
  refine go_call (r := some (.int x1.1)) (σc := σ) (σ1 := x1.2) (mi := 118) (vs := [.ref 66, .int p0, .int p3]) (k' := 4) (L' := [some (.ref 66), some (.int p0), some (.int p1), some (.int p2), some (.int p3), some (.int p4), none, none]) (S' := []) 4 (fun P9 h9 => c_M_timesOf (d + 0) p0 p3 σ hx1 h9) (fun n h => h) ?_
  obtain ⟨x2, hx2, h⟩ := bind_of h
  refine go_call (r := some (.int x2.1)) (σc := x1.2) (σ1 := x2.2) (mi := 118) (vs := [.ref 66, .int p1, .int p4]) (k' := 9) (L' := [some (.ref 66), some (.int p0), some (.int p1), some (.int p2), some (.int p3), some (.int p4), some (.int x1.1), none]) (S' := []) 5 (fun P9 h9 => c_M_timesOf (d + 0) p1 p4 x1.2 hx2 h9) (fun n h => h) ?_
  refine go_if (c := x1.1 = (-6 : Int32)) (k1 := 25) (L1 := [some (.ref 66), some (.int p0), some (.int p1), some (.int p2), some (.int p3), some (.int p4), some (.int x1.1), some (.int x2.1)]) (S1 := []) (σ1 := x2.2) (k2 := 13) (L2 := [some (.ref 66), some (.int p0), some (.int p1), some (.int p2), some (.int p3), some (.int p4), some (.int x1.1), some (.int x2.1)]) (S2 := []) (σ2 := x2.2) 4 (fun n h => h) (fun hc3 => ?_) (fun hc3 => ?_)
  · rw [if_pos hc3] at h
    cases h
    exact go_ret 2 (fun _ => And.intro (Or.inl rfl) hp)
  · rw [if_neg hc3] at h
    refine go_if (c := x2.1 = (-6 : Int32)) (k1 := 25) (L1 := [some (.ref 66), some (.int p0), some (.int p1), some (.int p2), some (.int p3), some (.int p4), some (.int x1.1), some (.int x2.1)]) (S1 := []) (σ1 := x2.2) (k2 := 16) (L2 := [some (.ref 66), some (.int p0), some (.int p1), some (.int p2), some (.int p3), some (.int p4), some (.int x1.1), some (.int x2.1)]) (S2 := []) (σ2 := x2.2) 3 (fun n h => h) (fun hc4 => ?_) (fun hc4 => ?_)
    · rw [if_pos hc4] at h
      cases h
      exact go_ret 2 (fun _ => And.intro (Or.inl rfl) hp)
    · rw [if_neg hc4] at h
      obtain ⟨x5, hx5, h⟩ := bind_of h
      refine go_call (r := some (.int x5.1)) (σc := x2.2) (σ1 := x5.2) (mi := 105) (vs := [.ref 66, .int x1.1, .int x2.1, .int (1 : Int32)]) (k' := 21) (L' := [some (.ref 66), some (.int p0), some (.int p1), some (.int p2), some (.int p3), some (.int p4), some (.int x1.1), some (.int x2.1)]) (S' := []) 5 (fun P9 h9 => c_M_sumOf (d + 1) x1.1 x2.1 (1 : Int32) x2.2 hx5 h9) (fun n h => h) ?_
      refine go_if (c := x5.1 ≠ p2) (k1 := 25) (L1 := [some (.ref 66), some (.int p0), some (.int p1), some (.int p2), some (.int p3), some (.int p4), some (.int x1.1), some (.int x2.1)]) (S1 := []) (σ1 := x5.2) (k2 := 23) (L2 := [some (.ref 66), some (.int p0), some (.int p1), some (.int p2), some (.int p3), some (.int p4), some (.int x1.1), some (.int x2.1)]) (S2 := []) (σ2 := x5.2) 2 (fun n h => h) (fun hc6 => ?_) (fun hc6 => ?_)
      · rw [if_pos hc6] at h
        cases h
        exact go_ret 2 (fun _ => And.intro (Or.inl rfl) hp)
      · rw [if_neg hc6] at h
        cases h
        exact go_ret 3 (fun _ => And.intro (Or.inr rfl) hp)
def f_M_solves_l32 (N : Nat) (k61 : Int32 → Int32 → Int32 → Int32 → Int32 → Int32 → aSt → Option (Int64 × aSt)) : Nat → Int32 → Int32 → Int32 → Int32 → Int32 → Int32 → Int32 → aSt → Option (Int64 × aSt)
  | 0, _, _, _, _, _, _, _, _ => none
  | n + 1, v1, v2, v3, v4, v5, v6, v7, σ => (if (5 : Int32) < v7 then k61 v1 v2 v3 v4 v5 v6 σ else (if ((iabs v6) + (iabs v7)) ≠ v5 then f_M_solves_l32 N k61 n v1 v2 v3 v4 v5 v6 (v7 + (1 : Int32)) σ else ((f_M_isSolved N v1 v2 v3 v6 v7 σ).bind fun x9 => (if x9.1 = true then (if v4 ≠ 0 then some (v7.toInt64, x9.2) else some (v6.toInt64, x9.2)) else f_M_solves_l32 N k61 n v1 v2 v3 v4 v5 v6 (v7 + (1 : Int32)) x9.2))))
set_option maxRecDepth 20000 in
set_option maxHeartbeats 4000000 in
theorem t_M_solves_l32 (d : Nat) {N : Nat} (k61 : Int32 → Int32 → Int32 → Int32 → Int32 → Int32 → aSt → Option (Int64 × aSt)) {x : (Int64 × aSt)} {P : Option Value → aSt → Prop} (hp : P (some (.long x.1)) x.2) (hk61 : ∀ (d7 : Option Value) (v1 : Int32) (v2 : Int32) (v3 : Int32) (v4 : Int32) (v5 : Int32) (v6 : Int32) (σ : aSt), k61 v1 v2 v3 v4 v5 v6 σ = some x → aGo (aCall MT (d + 6)) P mc_M_solves 61 [some (.ref 66), some (.int v1), some (.int v2), some (.int v3), some (.int v4), some (.int v5), some (.int v6), d7] [] σ) : ∀ (n : Nat) (v1 : Int32) (v2 : Int32) (v3 : Int32) (v4 : Int32) (v5 : Int32) (v6 : Int32) (v7 : Int32) (σ : aSt), f_M_solves_l32 N k61 n v1 v2 v3 v4 v5 v6 v7 σ = some x → aGo (aCall MT (d + 6)) P mc_M_solves 32 [some (.ref 66), some (.int v1), some (.int v2), some (.int v3), some (.int v4), some (.int v5), some (.int v6), some (.int v7)] [] σ := by
  intro n
  induction n with
  | zero => intro v1 v2 v3 v4 v5 v6 v7 σ h; cases h
  | succ n ih =>
    intro v1 v2 v3 v4 v5 v6 v7 σ h
    rw [f_M_solves_l32] at h
    refine go_if (c := (5 : Int32) < v7) (k1 := 61) (L1 := [some (.ref 66), some (.int v1), some (.int v2), some (.int v3), some (.int v4), some (.int v5), some (.int v6), some (.int v7)]) (S1 := []) (σ1 := σ) (k2 := 35) (L2 := [some (.ref 66), some (.int v1), some (.int v2), some (.int v3), some (.int v4), some (.int v5), some (.int v6), some (.int v7)]) (S2 := []) (σ2 := σ) 3 (fun n h => h) (fun hc7 => ?_) (fun hc7 => ?_)
    · rw [if_pos hc7] at h
      exact hk61 _ v1 v2 v3 v4 v5 v6 σ h
    · rw [if_neg hc7] at h
      refine go_if (c := ((iabs v6) + (iabs v7)) ≠ v5) (k1 := 59) (L1 := [some (.ref 66), some (.int v1), some (.int v2), some (.int v3), some (.int v4), some (.int v5), some (.int v6), some (.int v7)]) (S1 := []) (σ1 := σ) (k2 := 42) (L2 := [some (.ref 66), some (.int v1), some (.int v2), some (.int v3), some (.int v4), some (.int v5), some (.int v6), some (.int v7)]) (S2 := []) (σ2 := σ) 7 (fun n h => h) (fun hc8 => ?_) (fun hc8 => ?_)
      · rw [if_pos hc8] at h
        refine go_st (k' := 32) (L' := [some (.ref 66), some (.int v1), some (.int v2), some (.int v3), some (.int v4), some (.int v5), some (.int v6), some (.int (v7 + (1 : Int32)))]) (S' := []) (σ' := σ) 2 (fun n h => h) ?_
        exact ih v1 v2 v3 v4 v5 v6 (v7 + (1 : Int32)) σ h
      · rw [if_neg hc8] at h
        obtain ⟨x9, hx9, h⟩ := bind_of h
        refine go_call (r := some (.int (b2i x9.1))) (σc := σ) (σ1 := x9.2) (mi := 325) (vs := [.ref 66, .int v1, .int v2, .int v3, .int v6, .int v7]) (k' := 49) (L' := [some (.ref 66), some (.int v1), some (.int v2), some (.int v3), some (.int v4), some (.int v5), some (.int v6), some (.int v7)]) (S' := []) 7 (fun P9 h9 => c_M_isSolved (d + 0) v1 v2 v3 v6 v7 σ hx9 h9) (fun n h => h) ?_
        refine go_ifn (b := x9.1) (k1 := 51) (L1 := [some (.ref 66), some (.int v1), some (.int v2), some (.int v3), some (.int v4), some (.int v5), some (.int v6), some (.int v7)]) (S1 := []) (σ1 := x9.2) (k2 := 50) (L2 := [some (.ref 66), some (.int v1), some (.int v2), some (.int v3), some (.int v4), some (.int v5), some (.int v6), some (.int v7)]) (S2 := []) (σ2 := x9.2) 1 (fun n h => h) (fun hc10 => ?_) (fun hc10 => ?_)
        · rw [if_pos hc10] at h
          refine go_if (c := v4 ≠ 0) (k1 := 56) (L1 := [some (.ref 66), some (.int v1), some (.int v2), some (.int v3), some (.int v4), some (.int v5), some (.int v6), some (.int v7)]) (S1 := []) (σ1 := x9.2) (k2 := 53) (L2 := [some (.ref 66), some (.int v1), some (.int v2), some (.int v3), some (.int v4), some (.int v5), some (.int v6), some (.int v7)]) (S2 := []) (σ2 := x9.2) 2 (fun n h => h) (fun hc11 => ?_) (fun hc11 => ?_)
          · rw [if_pos hc11] at h
            cases h
            exact go_ret 3 (fun _ => hp)
          · rw [if_neg hc11] at h
            cases h
            exact go_ret 4 (fun _ => hp)
        · rw [if_neg hc10] at h
          refine go_st (k' := 32) (L' := [some (.ref 66), some (.int v1), some (.int v2), some (.int v3), some (.int v4), some (.int v5), some (.int v6), some (.int (v7 + (1 : Int32)))]) (S' := []) (σ' := x9.2) 3 (fun n h => h) ?_
          exact ih v1 v2 v3 v4 v5 v6 (v7 + (1 : Int32)) x9.2 h
def f_M_solves_l27 (N : Nat) (k63 : Int32 → Int32 → Int32 → Int32 → Int32 → aSt → Option (Int64 × aSt)) : Nat → Int32 → Int32 → Int32 → Int32 → Int32 → Int32 → aSt → Option (Int64 × aSt)
  | 0, _, _, _, _, _, _, _ => none
  | n + 1, v1, v2, v3, v4, v5, v6, σ => (if (5 : Int32) < v6 then k63 v1 v2 v3 v4 v5 σ else f_M_solves_l32 N (fun (y12 : Int32) (y13 : Int32) (y14 : Int32) (y15 : Int32) (y16 : Int32) (y17 : Int32) σ18 => f_M_solves_l27 N k63 n y12 y13 y14 y15 y16 (y17 + (1 : Int32)) σ18) N v1 v2 v3 v4 v5 v6 (-5 : Int32) σ)
set_option maxRecDepth 20000 in
set_option maxHeartbeats 4000000 in
theorem t_M_solves_l27 (d : Nat) {N : Nat} (k63 : Int32 → Int32 → Int32 → Int32 → Int32 → aSt → Option (Int64 × aSt)) {x : (Int64 × aSt)} {P : Option Value → aSt → Prop} (hp : P (some (.long x.1)) x.2) (hk63 : ∀ (d6 d7 : Option Value) (v1 : Int32) (v2 : Int32) (v3 : Int32) (v4 : Int32) (v5 : Int32) (σ : aSt), k63 v1 v2 v3 v4 v5 σ = some x → aGo (aCall MT (d + 6)) P mc_M_solves 63 [some (.ref 66), some (.int v1), some (.int v2), some (.int v3), some (.int v4), some (.int v5), d6, d7] [] σ) : ∀ (n : Nat) (d7 : Option Value) (v1 : Int32) (v2 : Int32) (v3 : Int32) (v4 : Int32) (v5 : Int32) (v6 : Int32) (σ : aSt), f_M_solves_l27 N k63 n v1 v2 v3 v4 v5 v6 σ = some x → aGo (aCall MT (d + 6)) P mc_M_solves 27 [some (.ref 66), some (.int v1), some (.int v2), some (.int v3), some (.int v4), some (.int v5), some (.int v6), d7] [] σ := by
  intro n
  induction n with
  | zero => intro d7 v1 v2 v3 v4 v5 v6 σ h; cases h
  | succ n ih =>
    intro d7 v1 v2 v3 v4 v5 v6 σ h
    rw [f_M_solves_l27] at h
    refine go_if (c := (5 : Int32) < v6) (k1 := 63) (L1 := [some (.ref 66), some (.int v1), some (.int v2), some (.int v3), some (.int v4), some (.int v5), some (.int v6), d7]) (S1 := []) (σ1 := σ) (k2 := 30) (L2 := [some (.ref 66), some (.int v1), some (.int v2), some (.int v3), some (.int v4), some (.int v5), some (.int v6), d7]) (S2 := []) (σ2 := σ) 3 (fun n h => h) (fun hc6 => ?_) (fun hc6 => ?_)
    · rw [if_pos hc6] at h
      exact hk63 _ _ v1 v2 v3 v4 v5 σ h
    · rw [if_neg hc6] at h
      refine go_st (k' := 32) (L' := [some (.ref 66), some (.int v1), some (.int v2), some (.int v3), some (.int v4), some (.int v5), some (.int v6), some (.int (-5 : Int32))]) (S' := []) (σ' := σ) 2 (fun n h => h) ?_
      refine t_M_solves_l32 d _ hp (fun d7 y12 y13 y14 y15 y16 y17 σ18 h => ?_) N v1 v2 v3 v4 v5 v6 (-5 : Int32) σ h
      · refine go_st (k' := 27) (L' := [some (.ref 66), some (.int y12), some (.int y13), some (.int y14), some (.int y15), some (.int y16), some (.int (y17 + (1 : Int32))), d7]) (S' := []) (σ' := σ18) 2 (fun n h => h) ?_
        exact ih _ y12 y13 y14 y15 y16 (y17 + (1 : Int32)) σ18 h
def f_M_solves_l22 (N : Nat) : Nat → Int32 → Int32 → Int32 → Int32 → Int32 → aSt → Option (Int64 × aSt)
  | 0, _, _, _, _, _, _ => none
  | n + 1, v1, v2, v3, v4, v5, σ => (if (10 : Int32) < v5 then some ((-9223372036854775808 : Int64), σ) else f_M_solves_l27 N (fun (y19 : Int32) (y20 : Int32) (y21 : Int32) (y22 : Int32) (y23 : Int32) σ24 => f_M_solves_l22 N n y19 y20 y21 y22 (y23 + (1 : Int32)) σ24) N v1 v2 v3 v4 v5 (-5 : Int32) σ)
set_option maxRecDepth 20000 in
set_option maxHeartbeats 4000000 in
theorem t_M_solves_l22 (d : Nat) {N : Nat} {x : (Int64 × aSt)} {P : Option Value → aSt → Prop} (hp : P (some (.long x.1)) x.2) : ∀ (n : Nat) (d6 d7 : Option Value) (v1 : Int32) (v2 : Int32) (v3 : Int32) (v4 : Int32) (v5 : Int32) (σ : aSt), f_M_solves_l22 N n v1 v2 v3 v4 v5 σ = some x → aGo (aCall MT (d + 6)) P mc_M_solves 22 [some (.ref 66), some (.int v1), some (.int v2), some (.int v3), some (.int v4), some (.int v5), d6, d7] [] σ := by
  intro n
  induction n with
  | zero => intro d6 d7 v1 v2 v3 v4 v5 σ h; cases h
  | succ n ih =>
    intro d6 d7 v1 v2 v3 v4 v5 σ h
    rw [f_M_solves_l22] at h
    refine go_if (c := (10 : Int32) < v5) (k1 := 65) (L1 := [some (.ref 66), some (.int v1), some (.int v2), some (.int v3), some (.int v4), some (.int v5), d6, d7]) (S1 := []) (σ1 := σ) (k2 := 25) (L2 := [some (.ref 66), some (.int v1), some (.int v2), some (.int v3), some (.int v4), some (.int v5), d6, d7]) (S2 := []) (σ2 := σ) 3 (fun n h => h) (fun hc5 => ?_) (fun hc5 => ?_)
    · rw [if_pos hc5] at h
      cases h
      exact go_ret 2 (fun _ => hp)
    · rw [if_neg hc5] at h
      refine go_st (k' := 27) (L' := [some (.ref 66), some (.int v1), some (.int v2), some (.int v3), some (.int v4), some (.int v5), some (.int (-5 : Int32)), d7]) (S' := []) (σ' := σ) 2 (fun n h => h) ?_
      refine t_M_solves_l27 d _ hp (fun d6 d7 y19 y20 y21 y22 y23 σ24 h => ?_) N _ v1 v2 v3 v4 v5 (-5 : Int32) σ h
      · refine go_st (k' := 22) (L' := [some (.ref 66), some (.int y19), some (.int y20), some (.int y21), some (.int y22), some (.int (y23 + (1 : Int32))), d6, d7]) (S' := []) (σ' := σ24) 2 (fun n h => h) ?_
        exact ih _ _ y19 y20 y21 y22 (y23 + (1 : Int32)) σ24 h
def f_M_solves (N : Nat) (p0 : Int32) (p1 : Int32) (p2 : Int32) (p3 : Int32) (σ : aSt) : Option (Int64 × aSt) :=
  (if (f_M_isPoint p0 σ) = true then (if (f_M_isPoint p1 σ) = true then (if (f_M_isPoint p2 σ) = true then (if (f_M_in p3.toInt64 (0 : Int64) (1 : Int64)) = true then f_M_solves_l22 N N p0 p1 p2 p3 (0 : Int32) σ else some ((-9223372036854775808 : Int64), σ)) else some ((-9223372036854775808 : Int64), σ)) else some ((-9223372036854775808 : Int64), σ)) else some ((-9223372036854775808 : Int64), σ))
set_option maxRecDepth 20000 in
set_option maxHeartbeats 4000000 in
theorem c_M_solves (d : Nat) {N : Nat} (p0 : Int32) (p1 : Int32) (p2 : Int32) (p3 : Int32) (σ : aSt) {P : Option Value → aSt → Prop} {x : (Int64 × aSt)} (h : f_M_solves N p0 p1 p2 p3 σ = some x) (hp : P (some (.long x.1)) x.2) : aCall MT (d + 7) 326 [.ref 66, .int p0, .int p1, .int p2, .int p3] σ P := by
  unfold f_M_solves at h
  refine call_of (code := mc_M_solves) (L := [some (.ref 66), some (.int p0), some (.int p1), some (.int p2), some (.int p3), none, none, none]) rfl rfl rfl rfl ?_
  refine go_call (r := some (.int (b2i (f_M_isPoint p0 σ)))) (σc := σ) (σ1 := σ) (mi := 90) (vs := [.ref 66, .int p0]) (k' := 3) (L' := [some (.ref 66), some (.int p0), some (.int p1), some (.int p2), some (.int p3), none, none, none]) (S' := []) 3 (fun P9 h9 => c_M_isPoint (d + 3) p0 σ h9) (fun n h => h) ?_
  refine go_ifz (b := (f_M_isPoint p0 σ)) (k1 := 18) (L1 := [some (.ref 66), some (.int p0), some (.int p1), some (.int p2), some (.int p3), none, none, none]) (S1 := []) (σ1 := σ) (k2 := 4) (L2 := [some (.ref 66), some (.int p0), some (.int p1), some (.int p2), some (.int p3), none, none, none]) (S2 := []) (σ2 := σ) 1 (fun n h => h) (fun hc1 => ?_) (fun hc1 => ?_)
  · rw [if_neg hc1] at h
    cases h
    exact go_ret 2 (fun _ => hp)
  · rw [if_pos hc1] at h
    refine go_call (r := some (.int (b2i (f_M_isPoint p1 σ)))) (σc := σ) (σ1 := σ) (mi := 90) (vs := [.ref 66, .int p1]) (k' := 7) (L' := [some (.ref 66), some (.int p0), some (.int p1), some (.int p2), some (.int p3), none, none, none]) (S' := []) 3 (fun P9 h9 => c_M_isPoint (d + 3) p1 σ h9) (fun n h => h) ?_
    refine go_ifz (b := (f_M_isPoint p1 σ)) (k1 := 18) (L1 := [some (.ref 66), some (.int p0), some (.int p1), some (.int p2), some (.int p3), none, none, none]) (S1 := []) (σ1 := σ) (k2 := 8) (L2 := [some (.ref 66), some (.int p0), some (.int p1), some (.int p2), some (.int p3), none, none, none]) (S2 := []) (σ2 := σ) 1 (fun n h => h) (fun hc2 => ?_) (fun hc2 => ?_)
    · rw [if_neg hc2] at h
      cases h
      exact go_ret 2 (fun _ => hp)
    · rw [if_pos hc2] at h
      refine go_call (r := some (.int (b2i (f_M_isPoint p2 σ)))) (σc := σ) (σ1 := σ) (mi := 90) (vs := [.ref 66, .int p2]) (k' := 11) (L' := [some (.ref 66), some (.int p0), some (.int p1), some (.int p2), some (.int p3), none, none, none]) (S' := []) 3 (fun P9 h9 => c_M_isPoint (d + 3) p2 σ h9) (fun n h => h) ?_
      refine go_ifz (b := (f_M_isPoint p2 σ)) (k1 := 18) (L1 := [some (.ref 66), some (.int p0), some (.int p1), some (.int p2), some (.int p3), none, none, none]) (S1 := []) (σ1 := σ) (k2 := 12) (L2 := [some (.ref 66), some (.int p0), some (.int p1), some (.int p2), some (.int p3), none, none, none]) (S2 := []) (σ2 := σ) 1 (fun n h => h) (fun hc3 => ?_) (fun hc3 => ?_)
      · rw [if_neg hc3] at h
        cases h
        exact go_ret 2 (fun _ => hp)
      · rw [if_pos hc3] at h
        refine go_call (r := some (.int (b2i (f_M_in p3.toInt64 (0 : Int64) (1 : Int64))))) (σc := σ) (σ1 := σ) (mi := 7) (vs := [.long p3.toInt64, .long (0 : Int64), .long (1 : Int64)]) (k' := 17) (L' := [some (.ref 66), some (.int p0), some (.int p1), some (.int p2), some (.int p3), none, none, none]) (S' := []) 5 (fun P9 h9 => c_M_in (d + 5) p3.toInt64 (0 : Int64) (1 : Int64) σ h9) (fun n h => h) ?_
        refine go_ifn (b := (f_M_in p3.toInt64 (0 : Int64) (1 : Int64))) (k1 := 20) (L1 := [some (.ref 66), some (.int p0), some (.int p1), some (.int p2), some (.int p3), none, none, none]) (S1 := []) (σ1 := σ) (k2 := 18) (L2 := [some (.ref 66), some (.int p0), some (.int p1), some (.int p2), some (.int p3), none, none, none]) (S2 := []) (σ2 := σ) 1 (fun n h => h) (fun hc4 => ?_) (fun hc4 => ?_)
        · rw [if_pos hc4] at h
          refine go_st (k' := 22) (L' := [some (.ref 66), some (.int p0), some (.int p1), some (.int p2), some (.int p3), some (.int (0 : Int32)), none, none]) (S' := []) (σ' := σ) 2 (fun n h => h) ?_
          exact t_M_solves_l22 d hp N _ _ p0 p1 p2 p3 (0 : Int32) σ h
        · rw [if_neg hc4] at h
          cases h
          exact go_ret 2 (fun _ => hp)
def f_M_tellsPart_l20 (N : Nat) : Nat → Int32 → Int32 → aSt → Option aSt
  | 0, _, _, _ => none
  | n + 1, v3, v4, σ => (if v3 ≤ v4 then some σ else ((f_M_puts N (120 : Int32) σ).bind fun x5 => f_M_tellsPart_l20 N n v3 (v4 + (1 : Int32)) x5))
set_option maxRecDepth 20000 in
set_option maxHeartbeats 4000000 in
theorem t_M_tellsPart_l20 (d : Nat) {N : Nat} {x : aSt} {P : Option Value → aSt → Prop} (hp : P none x) : ∀ (n : Nat) (d1 d2 : Option Value) (v3 : Int32) (v4 : Int32) (σ : aSt), f_M_tellsPart_l20 N n v3 v4 σ = some x → aGo (aCall MT (d + 2)) P mc_M_tellsPart 20 [some (.ref 66), d1, d2, some (.int v3), some (.int v4)] [] σ := by
  intro n
  induction n with
  | zero => intro d1 d2 v3 v4 σ h; cases h
  | succ n ih =>
    intro d1 d2 v3 v4 σ h
    rw [f_M_tellsPart_l20] at h
    refine go_if (c := v3 ≤ v4) (k1 := 28) (L1 := [some (.ref 66), d1, d2, some (.int v3), some (.int v4)]) (S1 := []) (σ1 := σ) (k2 := 23) (L2 := [some (.ref 66), d1, d2, some (.int v3), some (.int v4)]) (S2 := []) (σ2 := σ) 3 (fun n h => h) (fun hc4 => ?_) (fun hc4 => ?_)
    · rw [if_pos hc4] at h
      cases h
      exact go_ret 1 (fun _ => hp)
    · rw [if_neg hc4] at h
      obtain ⟨x5, hx5, h⟩ := bind_of h
      refine go_call (r := none) (σc := σ) (σ1 := x5) (mi := 262) (vs := [.ref 66, .int (120 : Int32)]) (k' := 26) (L' := [some (.ref 66), d1, d2, some (.int v3), some (.int v4)]) (S' := []) 3 (fun P9 h9 => c_M_puts (d + 1) (120 : Int32) σ hx5 h9) (fun n h => h) ?_
      refine go_st (k' := 20) (L' := [some (.ref 66), d1, d2, some (.int v3), some (.int (v4 + (1 : Int32)))]) (S' := []) (σ' := x5) 2 (fun n h => h) ?_
      exact ih _ _ v3 (v4 + (1 : Int32)) x5 h
def f_M_tellsPart_b18 (N : Nat) (v3 : Int32) (σ : aSt) : Option aSt :=
  f_M_tellsPart_l20 N N v3 (0 : Int32) σ
set_option maxRecDepth 20000 in
set_option maxHeartbeats 4000000 in
theorem t_M_tellsPart_b18 (d : Nat) {N : Nat} (d1 d2 d4 : Option Value) (v3 : Int32) (σ : aSt) {P : Option Value → aSt → Prop} {x : aSt} (h : f_M_tellsPart_b18 N v3 σ = some x) (hp : P none x) : aGo (aCall MT (d + 2)) P mc_M_tellsPart 18 [some (.ref 66), d1, d2, some (.int v3), d4] [] σ := by
  unfold f_M_tellsPart_b18 at h
  refine go_st (k' := 20) (L' := [some (.ref 66), d1, d2, some (.int v3), some (.int (0 : Int32))]) (S' := []) (σ' := σ) 2 (fun n h => h) ?_
  exact t_M_tellsPart_l20 d hp N _ _ v3 (0 : Int32) σ h
def f_M_tellsPart_b8 (N : Nat) (v1 : Int64) (v3 : Int32) (s1 : Int32) (σ : aSt) : Option aSt :=
  ((f_M_puts N s1 σ).bind fun x2 => (if (labs v1) = (1 : Int64) then f_M_tellsPart_b18 N v3 x2 else ((f_M_tellsNumber N (labs v1) x2).bind fun x6 => f_M_tellsPart_b18 N v3 x6)))
set_option maxRecDepth 20000 in
set_option maxHeartbeats 4000000 in
theorem t_M_tellsPart_b8 (d : Nat) {N : Nat} (d4 : Option Value) (v1 : Int64) (v3 : Int32) (s1 : Int32) (σ : aSt) {P : Option Value → aSt → Prop} {x : aSt} (h : f_M_tellsPart_b8 N v1 v3 s1 σ = some x) (hp : P none x) : aGo (aCall MT (d + 2)) P mc_M_tellsPart 8 [some (.ref 66), some (.long v1), none, some (.int v3), d4] [.int s1, .ref 66] σ := by
  unfold f_M_tellsPart_b8 at h
  obtain ⟨x2, hx2, h⟩ := bind_of h
  refine go_call (r := none) (σc := σ) (σ1 := x2) (mi := 262) (vs := [.ref 66, .int s1]) (k' := 9) (L' := [some (.ref 66), some (.long v1), none, some (.int v3), d4]) (S' := []) 1 (fun P9 h9 => c_M_puts (d + 1) s1 σ hx2 h9) (fun n h => h) ?_
  refine go_iff (lcmp_eq (labs v1) (1 : Int64)) (k1 := 18) (L1 := [some (.ref 66), some (.long v1), none, some (.int v3), d4]) (S1 := []) (σ1 := x2) (k2 := 14) (L2 := [some (.ref 66), some (.long v1), none, some (.int v3), d4]) (S2 := []) (σ2 := x2) 5 (fun n h => h) (fun hc3 => ?_) (fun hc3 => ?_)
  · rw [if_pos hc3] at h
    exact t_M_tellsPart_b18 d _ _ _ v3 x2 h hp
  · rw [if_neg hc3] at h
    obtain ⟨x6, hx6, h⟩ := bind_of h
    refine go_call (r := none) (σc := x2) (σ1 := x6) (mi := 263) (vs := [.ref 66, .long (labs v1)]) (k' := 18) (L' := [some (.ref 66), some (.long v1), none, some (.int v3), d4]) (S' := []) 4 (fun P9 h9 => c_M_tellsNumber (d + 0) (labs v1) x2 hx6 h9) (fun n h => h) ?_
    exact t_M_tellsPart_b18 d _ _ _ v3 x6 h hp
def f_M_tellsPart (N : Nat) (p0 : Int64) (p1 : Int32) (σ : aSt) : Option aSt :=
  (if (0 : Int64) ≤ p0 then f_M_tellsPart_b8 N p0 p1 (43 : Int32) σ else f_M_tellsPart_b8 N p0 p1 (45 : Int32) σ)
set_option maxRecDepth 20000 in
set_option maxHeartbeats 4000000 in
theorem c_M_tellsPart (d : Nat) {N : Nat} (p0 : Int64) (p1 : Int32) (σ : aSt) {P : Option Value → aSt → Prop} {x : aSt} (h : f_M_tellsPart N p0 p1 σ = some x) (hp : P none x) : aCall MT (d + 3) 333 [.ref 66, .long p0, .int p1] σ P := by
  unfold f_M_tellsPart at h
  refine call_of (code := mc_M_tellsPart) (L := [some (.ref 66), some (.long p0), none, some (.int p1), none]) rfl rfl rfl rfl ?_
  refine go_iff (lcmp_ge p0 (0 : Int64)) (k1 := 7) (L1 := [some (.ref 66), some (.long p0), none, some (.int p1), none]) (S1 := [.ref 66]) (σ1 := σ) (k2 := 5) (L2 := [some (.ref 66), some (.long p0), none, some (.int p1), none]) (S2 := [.ref 66]) (σ2 := σ) 5 (fun n h => h) (fun hc1 => ?_) (fun hc1 => ?_)
  · rw [if_pos hc1] at h
    refine go_st (k' := 8) (L' := [some (.ref 66), some (.long p0), none, some (.int p1), none]) (S' := [.int (43 : Int32), .ref 66]) (σ' := σ) 1 (fun n h => h) ?_
    exact t_M_tellsPart_b8 d _ p0 p1 (43 : Int32) σ h hp
  · rw [if_neg hc1] at h
    refine go_st (k' := 8) (L' := [some (.ref 66), some (.long p0), none, some (.int p1), none]) (S' := [.int (45 : Int32), .ref 66]) (σ' := σ) 2 (fun n h => h) ?_
    exact t_M_tellsPart_b8 d _ p0 p1 (45 : Int32) σ h hp
def f_M_tellCurve_l19 (N : Nat) : Nat → Int32 → aSt → Option (Int32 × aSt)
  | 0, _, _ => none
  | n + 1, v1, σ => (if (3 : Int32) ≤ v1 then (if (σ.1 66 2) = 0 then ((f_M_tellsPart N (σ.1 66 3).toInt64 (1 : Int32) σ).bind fun x7 => some ((x7.1 66 57), x7)) else ((f_M_tellsPart N (σ.1 66 2).toInt64 (2 : Int32) σ).bind fun x8 => ((f_M_tellsPart N (x8.1 66 3).toInt64 (1 : Int32) x8).bind fun x9 => some ((x9.1 66 57), x9)))) else ((f_M_puts N (120 : Int32) σ).bind fun x10 => f_M_tellCurve_l19 N n (v1 + (1 : Int32)) x10))
set_option maxRecDepth 20000 in
set_option maxHeartbeats 4000000 in
theorem t_M_tellCurve_l19 (d : Nat) {N : Nat} {x : (Int32 × aSt)} {P : Option Value → aSt → Prop} (hp : P (some (.int x.1)) x.2) : ∀ (n : Nat) (v1 : Int32) (σ : aSt), f_M_tellCurve_l19 N n v1 σ = some x → aGo (aCall MT (d + 3)) P mc_M_tellCurve 19 [some (.ref 66), some (.int v1)] [] σ := by
  intro n
  induction n with
  | zero => intro v1 σ h; cases h
  | succ n ih =>
    intro v1 σ h
    rw [f_M_tellCurve_l19] at h
    refine go_if (c := (3 : Int32) ≤ v1) (k1 := 27) (L1 := [some (.ref 66), some (.int v1)]) (S1 := []) (σ1 := σ) (k2 := 22) (L2 := [some (.ref 66), some (.int v1)]) (S2 := []) (σ2 := σ) 3 (fun n h => h) (fun hc5 => ?_) (fun hc5 => ?_)
    · rw [if_pos hc5] at h
      refine go_if (c := (σ.1 66 2) = 0) (k1 := 36) (L1 := [some (.ref 66), some (.int v1)]) (S1 := []) (σ1 := σ) (k2 := 30) (L2 := [some (.ref 66), some (.int v1)]) (S2 := []) (σ2 := σ) 3 (fun n h => h) (fun hc6 => ?_) (fun hc6 => ?_)
      · rw [if_pos hc6] at h
        obtain ⟨x7, hx7, h⟩ := bind_of h
        refine go_call (r := none) (σc := σ) (σ1 := x7) (mi := 333) (vs := [.ref 66, .long (σ.1 66 3).toInt64, .int (1 : Int32)]) (k' := 42) (L' := [some (.ref 66), some (.int v1)]) (S' := []) 6 (fun P9 h9 => c_M_tellsPart (d + 0) (σ.1 66 3).toInt64 (1 : Int32) σ hx7 h9) (fun n h => h) ?_
        cases h
        exact go_ret 3 (fun _ => hp)
      · rw [if_neg hc6] at h
        obtain ⟨x8, hx8, h⟩ := bind_of h
        refine go_call (r := none) (σc := σ) (σ1 := x8) (mi := 333) (vs := [.ref 66, .long (σ.1 66 2).toInt64, .int (2 : Int32)]) (k' := 36) (L' := [some (.ref 66), some (.int v1)]) (S' := []) 6 (fun P9 h9 => c_M_tellsPart (d + 0) (σ.1 66 2).toInt64 (2 : Int32) σ hx8 h9) (fun n h => h) ?_
        obtain ⟨x9, hx9, h⟩ := bind_of h
        refine go_call (r := none) (σc := x8) (σ1 := x9) (mi := 333) (vs := [.ref 66, .long (x8.1 66 3).toInt64, .int (1 : Int32)]) (k' := 42) (L' := [some (.ref 66), some (.int v1)]) (S' := []) 6 (fun P9 h9 => c_M_tellsPart (d + 0) (x8.1 66 3).toInt64 (1 : Int32) x8 hx9 h9) (fun n h => h) ?_
        cases h
        exact go_ret 3 (fun _ => hp)
    · rw [if_neg hc5] at h
      obtain ⟨x10, hx10, h⟩ := bind_of h
      refine go_call (r := none) (σc := σ) (σ1 := x10) (mi := 262) (vs := [.ref 66, .int (120 : Int32)]) (k' := 25) (L' := [some (.ref 66), some (.int v1)]) (S' := []) 3 (fun P9 h9 => c_M_puts (d + 2) (120 : Int32) σ hx10 h9) (fun n h => h) ?_
      refine go_st (k' := 19) (L' := [some (.ref 66), some (.int (v1 + (1 : Int32)))]) (S' := []) (σ' := x10) 2 (fun n h => h) ?_
      exact ih (v1 + (1 : Int32)) x10 h
def f_M_tellCurve (N : Nat) (σ : aSt) : Option (Int32 × aSt) :=
  (if (σ.2.2 66 1) = true then ((f_M_puts N (121 : Int32) (s_i σ 66 57 (0 : Int32))).bind fun x2 => ((f_M_puts N (121 : Int32) x2).bind fun x3 => ((f_M_puts N (61 : Int32) x3).bind fun x4 => f_M_tellCurve_l19 N N (0 : Int32) x4))) else some ((-2 : Int32), σ))
set_option maxRecDepth 20000 in
set_option maxHeartbeats 4000000 in
theorem c_M_tellCurve (d : Nat) {N : Nat} (σ : aSt) {P : Option Value → aSt → Prop} {x : (Int32 × aSt)} (h : f_M_tellCurve N σ = some x) (hp : P (some (.int x.1)) x.2) : aCall MT (d + 4) 334 [.ref 66] σ P := by
  unfold f_M_tellCurve at h
  refine call_of (code := mc_M_tellCurve) (L := [some (.ref 66), none]) rfl rfl rfl rfl ?_
  refine go_ifn (b := (σ.2.2 66 1)) (k1 := 5) (L1 := [some (.ref 66), none]) (S1 := []) (σ1 := σ) (k2 := 3) (L2 := [some (.ref 66), none]) (S2 := []) (σ2 := σ) 3 (fun n h => h) (fun hc1 => ?_) (fun hc1 => ?_)
  · rw [if_pos hc1] at h
    obtain ⟨x2, hx2, h⟩ := bind_of h
    refine go_call (r := none) (σc := (s_i σ 66 57 (0 : Int32))) (σ1 := x2) (mi := 262) (vs := [.ref 66, .int (121 : Int32)]) (k' := 11) (L' := [some (.ref 66), none]) (S' := []) 6 (fun P9 h9 => c_M_puts (d + 2) (121 : Int32) (s_i σ 66 57 (0 : Int32)) hx2 h9) (fun n h => h) ?_
    obtain ⟨x3, hx3, h⟩ := bind_of h
    refine go_call (r := none) (σc := x2) (σ1 := x3) (mi := 262) (vs := [.ref 66, .int (121 : Int32)]) (k' := 14) (L' := [some (.ref 66), none]) (S' := []) 3 (fun P9 h9 => c_M_puts (d + 2) (121 : Int32) x2 hx3 h9) (fun n h => h) ?_
    obtain ⟨x4, hx4, h⟩ := bind_of h
    refine go_call (r := none) (σc := x3) (σ1 := x4) (mi := 262) (vs := [.ref 66, .int (61 : Int32)]) (k' := 17) (L' := [some (.ref 66), none]) (S' := []) 3 (fun P9 h9 => c_M_puts (d + 2) (61 : Int32) x3 hx4 h9) (fun n h => h) ?_
    refine go_st (k' := 19) (L' := [some (.ref 66), some (.int (0 : Int32))]) (S' := []) (σ' := x4) 2 (fun n h => h) ?_
    exact t_M_tellCurve_l19 d hp N (0 : Int32) x4 h
  · rw [if_neg hc1] at h
    cases h
    exact go_ret 2 (fun _ => hp)
def f_M_areAlikeBy (N : Nat) (p0 : Int32) (p1 : Int32) (p2 : Int32) (σ : aSt) : Option (Bool × aSt) :=
  ((f_M_starts N p0 p2 σ).bind fun x1 => ((f_M_starts N p1 p2 x1).bind fun x2 => (if (x1.2.2 66 34) = true then (if (x1.2.2 66 34) = true then (if (x2.2.2 66 34) = true then some (true, x2) else some (false, x2)) else some (false, x2)) else (if (x2.2.2 66 34) = true then (if (x1.2.2 66 34) = true then (if (x2.2.2 66 34) = true then some (true, x2) else some (false, x2)) else some (false, x2)) else (if (x1.1 66 32) ≠ (x2.1 66 32) then some (false, x2) else (if (x1.1 66 33) ≠ (x2.1 66 33) then some (false, x2) else some (true, x2)))))))
set_option maxRecDepth 20000 in
set_option maxHeartbeats 4000000 in
theorem c_M_areAlikeBy (d : Nat) {N : Nat} (p0 : Int32) (p1 : Int32) (p2 : Int32) (σ : aSt) {P : Option Value → aSt → Prop} {x : (Bool × aSt)} (h : f_M_areAlikeBy N p0 p1 p2 σ = some x) (hp : P (some (.int (b2i x.1))) x.2) : aCall MT (d + 3) 338 [.ref 66, .int p0, .int p1, .int p2] σ P := by
  unfold f_M_areAlikeBy at h
  refine call_of (code := mc_M_areAlikeBy) (L := [some (.ref 66), some (.int p0), some (.int p1), some (.int p2), none, none, none]) rfl rfl rfl rfl ?_
  obtain ⟨x1, hx1, h⟩ := bind_of h
  refine go_call (r := none) (σc := σ) (σ1 := x1) (mi := 156) (vs := [.ref 66, .int p0, .int p2]) (k' := 4) (L' := [some (.ref 66), some (.int p0), some (.int p1), some (.int p2), none, none, none]) (S' := []) 4 (fun P9 h9 => c_M_starts (d + 0) p0 p2 σ hx1 h9) (fun n h => h) ?_
  obtain ⟨x2, hx2, h⟩ := bind_of h
  refine go_call (r := none) (σc := x1) (σ1 := x2) (mi := 156) (vs := [.ref 66, .int p1, .int p2]) (k' := 17) (L' := [some (.ref 66), some (.int p0), some (.int p1), some (.int p2), some (.int (b2i (x1.2.2 66 34))), some (.int (x1.1 66 32)), some (.int (x1.1 66 33))]) (S' := []) 13 (fun P9 h9 => c_M_starts (d + 0) p1 p2 x1 hx2 h9) (fun n h => h) ?_
  refine go_ifn (b := (x1.2.2 66 34)) (k1 := 22) (L1 := [some (.ref 66), some (.int p0), some (.int p1), some (.int p2), some (.int (b2i (x1.2.2 66 34))), some (.int (x1.1 66 32)), some (.int (x1.1 66 33))]) (S1 := []) (σ1 := x2) (k2 := 19) (L2 := [some (.ref 66), some (.int p0), some (.int p1), some (.int p2), some (.int (b2i (x1.2.2 66 34))), some (.int (x1.1 66 32)), some (.int (x1.1 66 33))]) (S2 := []) (σ2 := x2) 2 (fun n h => h) (fun hc3 => ?_) (fun hc3 => ?_)
  · rw [if_pos hc3] at h
    refine go_ifz (b := (x1.2.2 66 34)) (k1 := 29) (L1 := [some (.ref 66), some (.int p0), some (.int p1), some (.int p2), some (.int (b2i (x1.2.2 66 34))), some (.int (x1.1 66 32)), some (.int (x1.1 66 33))]) (S1 := []) (σ1 := x2) (k2 := 24) (L2 := [some (.ref 66), some (.int p0), some (.int p1), some (.int p2), some (.int (b2i (x1.2.2 66 34))), some (.int (x1.1 66 32)), some (.int (x1.1 66 33))]) (S2 := []) (σ2 := x2) 2 (fun n h => h) (fun hc4 => ?_) (fun hc4 => ?_)
    · rw [if_neg hc4] at h
      cases h
      exact go_ret 3 (fun _ => And.intro (Or.inl rfl) hp)
    · rw [if_pos hc4] at h
      refine go_ifz (b := (x2.2.2 66 34)) (k1 := 29) (L1 := [some (.ref 66), some (.int p0), some (.int p1), some (.int p2), some (.int (b2i (x1.2.2 66 34))), some (.int (x1.1 66 32)), some (.int (x1.1 66 33))]) (S1 := []) (σ1 := x2) (k2 := 27) (L2 := [some (.ref 66), some (.int p0), some (.int p1), some (.int p2), some (.int (b2i (x1.2.2 66 34))), some (.int (x1.1 66 32)), some (.int (x1.1 66 33))]) (S2 := []) (σ2 := x2) 3 (fun n h => h) (fun hc5 => ?_) (fun hc5 => ?_)
      · rw [if_neg hc5] at h
        cases h
        exact go_ret 3 (fun _ => And.intro (Or.inl rfl) hp)
      · rw [if_pos hc5] at h
        cases h
        exact go_ret 3 (fun _ => And.intro (Or.inr rfl) hp)
  · rw [if_neg hc3] at h
    refine go_ifz (b := (x2.2.2 66 34)) (k1 := 31) (L1 := [some (.ref 66), some (.int p0), some (.int p1), some (.int p2), some (.int (b2i (x1.2.2 66 34))), some (.int (x1.1 66 32)), some (.int (x1.1 66 33))]) (S1 := []) (σ1 := x2) (k2 := 22) (L2 := [some (.ref 66), some (.int p0), some (.int p1), some (.int p2), some (.int (b2i (x1.2.2 66 34))), some (.int (x1.1 66 32)), some (.int (x1.1 66 33))]) (S2 := []) (σ2 := x2) 3 (fun n h => h) (fun hc6 => ?_) (fun hc6 => ?_)
    · rw [if_neg hc6] at h
      refine go_if (c := (x1.1 66 32) ≠ (x2.1 66 32)) (k1 := 41) (L1 := [some (.ref 66), some (.int p0), some (.int p1), some (.int p2), some (.int (b2i (x1.2.2 66 34))), some (.int (x1.1 66 32)), some (.int (x1.1 66 33))]) (S1 := []) (σ1 := x2) (k2 := 35) (L2 := [some (.ref 66), some (.int p0), some (.int p1), some (.int p2), some (.int (b2i (x1.2.2 66 34))), some (.int (x1.1 66 32)), some (.int (x1.1 66 33))]) (S2 := []) (σ2 := x2) 4 (fun n h => h) (fun hc9 => ?_) (fun hc9 => ?_)
      · rw [if_pos hc9] at h
        cases h
        exact go_ret 2 (fun _ => And.intro (Or.inl rfl) hp)
      · rw [if_neg hc9] at h
        refine go_if (c := (x1.1 66 33) ≠ (x2.1 66 33)) (k1 := 41) (L1 := [some (.ref 66), some (.int p0), some (.int p1), some (.int p2), some (.int (b2i (x1.2.2 66 34))), some (.int (x1.1 66 32)), some (.int (x1.1 66 33))]) (S1 := []) (σ1 := x2) (k2 := 39) (L2 := [some (.ref 66), some (.int p0), some (.int p1), some (.int p2), some (.int (b2i (x1.2.2 66 34))), some (.int (x1.1 66 32)), some (.int (x1.1 66 33))]) (S2 := []) (σ2 := x2) 4 (fun n h => h) (fun hc10 => ?_) (fun hc10 => ?_)
        · rw [if_pos hc10] at h
          cases h
          exact go_ret 2 (fun _ => And.intro (Or.inl rfl) hp)
        · rw [if_neg hc10] at h
          cases h
          exact go_ret 3 (fun _ => And.intro (Or.inr rfl) hp)
    · rw [if_pos hc6] at h
      refine go_ifz (b := (x1.2.2 66 34)) (k1 := 29) (L1 := [some (.ref 66), some (.int p0), some (.int p1), some (.int p2), some (.int (b2i (x1.2.2 66 34))), some (.int (x1.1 66 32)), some (.int (x1.1 66 33))]) (S1 := []) (σ1 := x2) (k2 := 24) (L2 := [some (.ref 66), some (.int p0), some (.int p1), some (.int p2), some (.int (b2i (x1.2.2 66 34))), some (.int (x1.1 66 32)), some (.int (x1.1 66 33))]) (S2 := []) (σ2 := x2) 2 (fun n h => h) (fun hc7 => ?_) (fun hc7 => ?_)
      · rw [if_neg hc7] at h
        cases h
        exact go_ret 3 (fun _ => And.intro (Or.inl rfl) hp)
      · rw [if_pos hc7] at h
        refine go_ifz (b := (x2.2.2 66 34)) (k1 := 29) (L1 := [some (.ref 66), some (.int p0), some (.int p1), some (.int p2), some (.int (b2i (x1.2.2 66 34))), some (.int (x1.1 66 32)), some (.int (x1.1 66 33))]) (S1 := []) (σ1 := x2) (k2 := 27) (L2 := [some (.ref 66), some (.int p0), some (.int p1), some (.int p2), some (.int (b2i (x1.2.2 66 34))), some (.int (x1.1 66 32)), some (.int (x1.1 66 33))]) (S2 := []) (σ2 := x2) 3 (fun n h => h) (fun hc8 => ?_) (fun hc8 => ?_)
        · rw [if_neg hc8] at h
          cases h
          exact go_ret 3 (fun _ => And.intro (Or.inl rfl) hp)
        · rw [if_pos hc8] at h
          cases h
          exact go_ret 3 (fun _ => And.intro (Or.inr rfl) hp)
def f_M_seenBy_l18 (N : Nat) (k35 : Int32 → Int32 → Int32 → Int32 → aSt → Option (Int32 × aSt)) : Nat → Int32 → Int32 → Int32 → Int32 → Int32 → aSt → Option (Int32 × aSt)
  | 0, _, _, _, _, _, _ => none
  | n + 1, v1, v2, v3, v4, v5, σ => (if v3 ≤ v5 then k35 v1 v2 v3 v4 σ else (if v4 = 0 then f_M_seenBy_l18 N k35 n v1 v2 v3 (0 : Int32) (v5 + (1 : Int32)) σ else ((f_M_areAlikeBy N v3 v5 v1 σ).bind fun x6 => (if x6.1 = true then f_M_seenBy_l18 N k35 n v1 v2 v3 (0 : Int32) (v5 + (1 : Int32)) x6.2 else f_M_seenBy_l18 N k35 n v1 v2 v3 (1 : Int32) (v5 + (1 : Int32)) x6.2))))
set_option maxRecDepth 20000 in
set_option maxHeartbeats 4000000 in
theorem t_M_seenBy_l18 (d : Nat) {N : Nat} (k35 : Int32 → Int32 → Int32 → Int32 → aSt → Option (Int32 × aSt)) {x : (Int32 × aSt)} {P : Option Value → aSt → Prop} (hp : P (some (.int x.1)) x.2) (hk35 : ∀ (d5 : Option Value) (v1 : Int32) (v2 : Int32) (v3 : Int32) (v4 : Int32) (σ : aSt), k35 v1 v2 v3 v4 σ = some x → aGo (aCall MT (d + 3)) P mc_M_seenBy 35 [some (.ref 66), some (.int v1), some (.int v2), some (.int v3), some (.int v4), d5] [] σ) : ∀ (n : Nat) (v1 : Int32) (v2 : Int32) (v3 : Int32) (v4 : Int32) (v5 : Int32) (σ : aSt), f_M_seenBy_l18 N k35 n v1 v2 v3 v4 v5 σ = some x → aGo (aCall MT (d + 3)) P mc_M_seenBy 18 [some (.ref 66), some (.int v1), some (.int v2), some (.int v3), some (.int v4), some (.int v5)] [] σ := by
  intro n
  induction n with
  | zero => intro v1 v2 v3 v4 v5 σ h; cases h
  | succ n ih =>
    intro v1 v2 v3 v4 v5 σ h
    rw [f_M_seenBy_l18] at h
    refine go_if (c := v3 ≤ v5) (k1 := 35) (L1 := [some (.ref 66), some (.int v1), some (.int v2), some (.int v3), some (.int v4), some (.int v5)]) (S1 := []) (σ1 := σ) (k2 := 21) (L2 := [some (.ref 66), some (.int v1), some (.int v2), some (.int v3), some (.int v4), some (.int v5)]) (S2 := []) (σ2 := σ) 3 (fun n h => h) (fun hc4 => ?_) (fun hc4 => ?_)
    · rw [if_pos hc4] at h
      exact hk35 _ v1 v2 v3 v4 σ h
    · rw [if_neg hc4] at h
      refine go_if (c := v4 = 0) (k1 := 31) (L1 := [some (.ref 66), some (.int v1), some (.int v2), some (.int v3), some (.int v4), some (.int v5)]) (S1 := []) (σ1 := σ) (k2 := 23) (L2 := [some (.ref 66), some (.int v1), some (.int v2), some (.int v3), some (.int v4), some (.int v5)]) (S2 := []) (σ2 := σ) 2 (fun n h => h) (fun hc5 => ?_) (fun hc5 => ?_)
      · rw [if_pos hc5] at h
        refine go_st (k' := 18) (L' := [some (.ref 66), some (.int v1), some (.int v2), some (.int v3), some (.int (0 : Int32)), some (.int (v5 + (1 : Int32)))]) (S' := []) (σ' := σ) 4 (fun n h => h) ?_
        exact ih v1 v2 v3 (0 : Int32) (v5 + (1 : Int32)) σ h
      · rw [if_neg hc5] at h
        obtain ⟨x6, hx6, h⟩ := bind_of h
        refine go_call (r := some (.int (b2i x6.1))) (σc := σ) (σ1 := x6.2) (mi := 338) (vs := [.ref 66, .int v3, .int v5, .int v1]) (k' := 28) (L' := [some (.ref 66), some (.int v1), some (.int v2), some (.int v3), some (.int v4), some (.int v5)]) (S' := []) 5 (fun P9 h9 => c_M_areAlikeBy (d + 0) v3 v5 v1 σ hx6 h9) (fun n h => h) ?_
        refine go_ifn (b := x6.1) (k1 := 31) (L1 := [some (.ref 66), some (.int v1), some (.int v2), some (.int v3), some (.int v4), some (.int v5)]) (S1 := []) (σ1 := x6.2) (k2 := 29) (L2 := [some (.ref 66), some (.int v1), some (.int v2), some (.int v3), some (.int v4), some (.int v5)]) (S2 := []) (σ2 := x6.2) 1 (fun n h => h) (fun hc7 => ?_) (fun hc7 => ?_)
        · rw [if_pos hc7] at h
          refine go_st (k' := 18) (L' := [some (.ref 66), some (.int v1), some (.int v2), some (.int v3), some (.int (0 : Int32)), some (.int (v5 + (1 : Int32)))]) (S' := []) (σ' := x6.2) 4 (fun n h => h) ?_
          exact ih v1 v2 v3 (0 : Int32) (v5 + (1 : Int32)) x6.2 h
        · rw [if_neg hc7] at h
          refine go_st (k' := 18) (L' := [some (.ref 66), some (.int v1), some (.int v2), some (.int v3), some (.int (1 : Int32)), some (.int (v5 + (1 : Int32)))]) (S' := []) (σ' := x6.2) 5 (fun n h => h) ?_
          exact ih v1 v2 v3 (1 : Int32) (v5 + (1 : Int32)) x6.2 h
def f_M_seenBy_l10 (N : Nat) : Nat → Int32 → Int32 → Int32 → aSt → Option (Int32 × aSt)
  | 0, _, _, _, _ => none
  | n + 1, v1, v2, v3, σ => (if (σ.1 66 9) ≤ v3 then some (v2, σ) else f_M_seenBy_l18 N (fun (y8 : Int32) (y9 : Int32) (y10 : Int32) (y11 : Int32) σ12 => (if y11 = 0 then f_M_seenBy_l10 N n y8 (y9 + (0 : Int32)) (y10 + (1 : Int32)) σ12 else f_M_seenBy_l10 N n y8 (y9 + (1 : Int32)) (y10 + (1 : Int32)) σ12)) N v1 v2 v3 (1 : Int32) (0 : Int32) σ)
set_option maxRecDepth 20000 in
set_option maxHeartbeats 4000000 in
theorem t_M_seenBy_l10 (d : Nat) {N : Nat} {x : (Int32 × aSt)} {P : Option Value → aSt → Prop} (hp : P (some (.int x.1)) x.2) : ∀ (n : Nat) (d4 d5 : Option Value) (v1 : Int32) (v2 : Int32) (v3 : Int32) (σ : aSt), f_M_seenBy_l10 N n v1 v2 v3 σ = some x → aGo (aCall MT (d + 3)) P mc_M_seenBy 10 [some (.ref 66), some (.int v1), some (.int v2), some (.int v3), d4, d5] [] σ := by
  intro n
  induction n with
  | zero => intro d4 d5 v1 v2 v3 σ h; cases h
  | succ n ih =>
    intro d4 d5 v1 v2 v3 σ h
    rw [f_M_seenBy_l10] at h
    refine go_if (c := (σ.1 66 9) ≤ v3) (k1 := 45) (L1 := [some (.ref 66), some (.int v1), some (.int v2), some (.int v3), d4, d5]) (S1 := []) (σ1 := σ) (k2 := 14) (L2 := [some (.ref 66), some (.int v1), some (.int v2), some (.int v3), d4, d5]) (S2 := []) (σ2 := σ) 4 (fun n h => h) (fun hc3 => ?_) (fun hc3 => ?_)
    · rw [if_pos hc3] at h
      cases h
      exact go_ret 2 (fun _ => hp)
    · rw [if_neg hc3] at h
      refine go_st (k' := 18) (L' := [some (.ref 66), some (.int v1), some (.int v2), some (.int v3), some (.int (1 : Int32)), some (.int (0 : Int32))]) (S' := []) (σ' := σ) 4 (fun n h => h) ?_
      refine t_M_seenBy_l18 d _ hp (fun d5 y8 y9 y10 y11 σ12 h => ?_) N v1 v2 v3 (1 : Int32) (0 : Int32) σ h
      · refine go_if (c := y11 = 0) (k1 := 40) (L1 := [some (.ref 66), some (.int y8), some (.int y9), some (.int y10), some (.int y11), d5]) (S1 := [.int y9]) (σ1 := σ12) (k2 := 38) (L2 := [some (.ref 66), some (.int y8), some (.int y9), some (.int y10), some (.int y11), d5]) (S2 := [.int y9]) (σ2 := σ12) 3 (fun n h => h) (fun hc13 => ?_) (fun hc13 => ?_)
        · rw [if_pos hc13] at h
          refine go_st (k' := 10) (L' := [some (.ref 66), some (.int y8), some (.int (y9 + (0 : Int32))), some (.int (y10 + (1 : Int32))), some (.int y11), d5]) (S' := []) (σ' := σ12) 5 (fun n h => h) ?_
          exact ih _ _ y8 (y9 + (0 : Int32)) (y10 + (1 : Int32)) σ12 h
        · rw [if_neg hc13] at h
          refine go_st (k' := 10) (L' := [some (.ref 66), some (.int y8), some (.int (y9 + (1 : Int32))), some (.int (y10 + (1 : Int32))), some (.int y11), d5]) (S' := []) (σ' := σ12) 6 (fun n h => h) ?_
          exact ih _ _ y8 (y9 + (1 : Int32)) (y10 + (1 : Int32)) σ12 h
def f_M_seenBy (N : Nat) (p0 : Int32) (σ : aSt) : Option (Int32 × aSt) :=
  ((f_M_isGoodPrime N p0 σ).bind fun x1 => (if x1 = true then f_M_seenBy_l10 N N p0 (0 : Int32) (0 : Int32) σ else some ((-2 : Int32), σ)))
set_option maxRecDepth 20000 in
set_option maxHeartbeats 4000000 in
theorem c_M_seenBy (d : Nat) {N : Nat} (p0 : Int32) (σ : aSt) {P : Option Value → aSt → Prop} {x : (Int32 × aSt)} (h : f_M_seenBy N p0 σ = some x) (hp : P (some (.int x.1)) x.2) : aCall MT (d + 4) 339 [.ref 66, .int p0] σ P := by
  unfold f_M_seenBy at h
  refine call_of (code := mc_M_seenBy) (L := [some (.ref 66), some (.int p0), none, none, none, none]) rfl rfl rfl rfl ?_
  obtain ⟨x1, hx1, h⟩ := bind_of h
  refine go_call (r := some (.int (b2i x1))) (σc := σ) (σ1 := σ) (mi := 146) (vs := [.ref 66, .int p0]) (k' := 3) (L' := [some (.ref 66), some (.int p0), none, none, none, none]) (S' := []) 3 (fun P9 h9 => c_M_isGoodPrime (d + 1) p0 σ hx1 h9) (fun n h => h) ?_
  refine go_ifn (b := x1) (k1 := 6) (L1 := [some (.ref 66), some (.int p0), none, none, none, none]) (S1 := []) (σ1 := σ) (k2 := 4) (L2 := [some (.ref 66), some (.int p0), none, none, none, none]) (S2 := []) (σ2 := σ) 1 (fun n h => h) (fun hc2 => ?_) (fun hc2 => ?_)
  · rw [if_pos hc2] at h
    refine go_st (k' := 10) (L' := [some (.ref 66), some (.int p0), some (.int (0 : Int32)), some (.int (0 : Int32)), none, none]) (S' := []) (σ' := σ) 4 (fun n h => h) ?_
    exact t_M_seenBy_l10 d hp N _ _ p0 (0 : Int32) (0 : Int32) σ h
  · rw [if_neg hc2] at h
    cases h
    exact go_ret 2 (fun _ => hp)
def f_M_firstAlike_l12 (N : Nat) : Nat → Int32 → Int32 → Int32 → aSt → Option (Int32 × aSt)
  | 0, _, _, _, _ => none
  | n + 1, v1, v2, v3, σ => (if (97 : Int32) < v3 then some ((-1 : Int32), σ) else ((f_M_isGoodPrime N v3 σ).bind fun x4 => (if x4 = true then ((f_M_areAlikeBy N v1 v2 v3 σ).bind fun x6 => (if x6.1 = true then some (v3, x6.2) else f_M_firstAlike_l12 N n v1 v2 (v3 + (1 : Int32)) x6.2)) else f_M_firstAlike_l12 N n v1 v2 (v3 + (1 : Int32)) σ)))
set_option maxRecDepth 20000 in
set_option maxHeartbeats 4000000 in
theorem t_M_firstAlike_l12 (d : Nat) {N : Nat} {x : (Int32 × aSt)} {P : Option Value → aSt → Prop} (hp : P (some (.int x.1)) x.2) : ∀ (n : Nat) (v1 : Int32) (v2 : Int32) (v3 : Int32) (σ : aSt), f_M_firstAlike_l12 N n v1 v2 v3 σ = some x → aGo (aCall MT (d + 3)) P mc_M_firstAlike 12 [some (.ref 66), some (.int v1), some (.int v2), some (.int v3)] [] σ := by
  intro n
  induction n with
  | zero => intro v1 v2 v3 σ h; cases h
  | succ n ih =>
    intro v1 v2 v3 σ h
    rw [f_M_firstAlike_l12] at h
    refine go_if (c := (97 : Int32) < v3) (k1 := 29) (L1 := [some (.ref 66), some (.int v1), some (.int v2), some (.int v3)]) (S1 := []) (σ1 := σ) (k2 := 15) (L2 := [some (.ref 66), some (.int v1), some (.int v2), some (.int v3)]) (S2 := []) (σ2 := σ) 3 (fun n h => h) (fun hc3 => ?_) (fun hc3 => ?_)
    · rw [if_pos hc3] at h
      cases h
      exact go_ret 2 (fun _ => hp)
    · rw [if_neg hc3] at h
      obtain ⟨x4, hx4, h⟩ := bind_of h
      refine go_call (r := some (.int (b2i x4))) (σc := σ) (σ1 := σ) (mi := 146) (vs := [.ref 66, .int v3]) (k' := 18) (L' := [some (.ref 66), some (.int v1), some (.int v2), some (.int v3)]) (S' := []) 3 (fun P9 h9 => c_M_isGoodPrime (d + 1) v3 σ hx4 h9) (fun n h => h) ?_
      refine go_ifz (b := x4) (k1 := 27) (L1 := [some (.ref 66), some (.int v1), some (.int v2), some (.int v3)]) (S1 := []) (σ1 := σ) (k2 := 19) (L2 := [some (.ref 66), some (.int v1), some (.int v2), some (.int v3)]) (S2 := []) (σ2 := σ) 1 (fun n h => h) (fun hc5 => ?_) (fun hc5 => ?_)
      · rw [if_neg hc5] at h
        refine go_st (k' := 12) (L' := [some (.ref 66), some (.int v1), some (.int v2), some (.int (v3 + (1 : Int32)))]) (S' := []) (σ' := σ) 2 (fun n h => h) ?_
        exact ih v1 v2 (v3 + (1 : Int32)) σ h
      · rw [if_pos hc5] at h
        obtain ⟨x6, hx6, h⟩ := bind_of h
        refine go_call (r := some (.int (b2i x6.1))) (σc := σ) (σ1 := x6.2) (mi := 338) (vs := [.ref 66, .int v1, .int v2, .int v3]) (k' := 24) (L' := [some (.ref 66), some (.int v1), some (.int v2), some (.int v3)]) (S' := []) 5 (fun P9 h9 => c_M_areAlikeBy (d + 0) v1 v2 v3 σ hx6 h9) (fun n h => h) ?_
        refine go_ifz (b := x6.1) (k1 := 27) (L1 := [some (.ref 66), some (.int v1), some (.int v2), some (.int v3)]) (S1 := []) (σ1 := x6.2) (k2 := 25) (L2 := [some (.ref 66), some (.int v1), some (.int v2), some (.int v3)]) (S2 := []) (σ2 := x6.2) 1 (fun n h => h) (fun hc7 => ?_) (fun hc7 => ?_)
        · rw [if_neg hc7] at h
          refine go_st (k' := 12) (L' := [some (.ref 66), some (.int v1), some (.int v2), some (.int (v3 + (1 : Int32)))]) (S' := []) (σ' := x6.2) 2 (fun n h => h) ?_
          exact ih v1 v2 (v3 + (1 : Int32)) x6.2 h
        · rw [if_pos hc7] at h
          cases h
          exact go_ret 2 (fun _ => hp)
def f_M_firstAlike (N : Nat) (p0 : Int32) (p1 : Int32) (σ : aSt) : Option (Int32 × aSt) :=
  (if (f_M_isPoint p0 σ) = true then (if (f_M_isPoint p1 σ) = true then f_M_firstAlike_l12 N N p0 p1 (3 : Int32) σ else some ((-2 : Int32), σ)) else some ((-2 : Int32), σ))
set_option maxRecDepth 20000 in
set_option maxHeartbeats 4000000 in
theorem c_M_firstAlike (d : Nat) {N : Nat} (p0 : Int32) (p1 : Int32) (σ : aSt) {P : Option Value → aSt → Prop} {x : (Int32 × aSt)} (h : f_M_firstAlike N p0 p1 σ = some x) (hp : P (some (.int x.1)) x.2) : aCall MT (d + 4) 342 [.ref 66, .int p0, .int p1] σ P := by
  unfold f_M_firstAlike at h
  refine call_of (code := mc_M_firstAlike) (L := [some (.ref 66), some (.int p0), some (.int p1), none]) rfl rfl rfl rfl ?_
  refine go_call (r := some (.int (b2i (f_M_isPoint p0 σ)))) (σc := σ) (σ1 := σ) (mi := 90) (vs := [.ref 66, .int p0]) (k' := 3) (L' := [some (.ref 66), some (.int p0), some (.int p1), none]) (S' := []) 3 (fun P9 h9 => c_M_isPoint (d + 0) p0 σ h9) (fun n h => h) ?_
  refine go_ifz (b := (f_M_isPoint p0 σ)) (k1 := 8) (L1 := [some (.ref 66), some (.int p0), some (.int p1), none]) (S1 := []) (σ1 := σ) (k2 := 4) (L2 := [some (.ref 66), some (.int p0), some (.int p1), none]) (S2 := []) (σ2 := σ) 1 (fun n h => h) (fun hc1 => ?_) (fun hc1 => ?_)
  · rw [if_neg hc1] at h
    cases h
    exact go_ret 2 (fun _ => hp)
  · rw [if_pos hc1] at h
    refine go_call (r := some (.int (b2i (f_M_isPoint p1 σ)))) (σc := σ) (σ1 := σ) (mi := 90) (vs := [.ref 66, .int p1]) (k' := 7) (L' := [some (.ref 66), some (.int p0), some (.int p1), none]) (S' := []) 3 (fun P9 h9 => c_M_isPoint (d + 0) p1 σ h9) (fun n h => h) ?_
    refine go_ifn (b := (f_M_isPoint p1 σ)) (k1 := 10) (L1 := [some (.ref 66), some (.int p0), some (.int p1), none]) (S1 := []) (σ1 := σ) (k2 := 8) (L2 := [some (.ref 66), some (.int p0), some (.int p1), none]) (S2 := []) (σ2 := σ) 1 (fun n h => h) (fun hc2 => ?_) (fun hc2 => ?_)
    · rw [if_pos hc2] at h
      refine go_st (k' := 12) (L' := [some (.ref 66), some (.int p0), some (.int p1), some (.int (3 : Int32))]) (S' := []) (σ' := σ) 2 (fun n h => h) ?_
      exact t_M_firstAlike_l12 d hp N p0 p1 (3 : Int32) σ h
    · rw [if_neg hc2] at h
      cases h
      exact go_ret 2 (fun _ => hp)
def f_M_turnsRank_l21 (N : Nat) : Nat → Int32 → Int32 → Int32 → Int32 → Int32 → aSt → Option (Int32 × aSt)
  | 0, _, _, _, _, _, _ => none
  | n + 1, v1, v2, v3, v4, v5, σ => (if (9 : Int32) < v5 then some (v4, (s_i (s_i σ 66 2 v2) 66 3 v3)) else (if v5 = 0 then f_M_turnsRank_l21 N n v1 v2 v3 v4 (v5 + (1 : Int32)) σ else (if (f_M_in (v2.toInt64 * v5.toInt64) (-60 : Int64) (60 : Int64)) = true then (if (f_M_in ((v3.toInt64 * v5.toInt64) * v5.toInt64) (-200 : Int64) (200 : Int64)) = true then ((f_M_rank N (0 : Int32) (s_i (s_i σ 66 2 (v2 * v5)) 66 3 ((v3 * v5) * v5))).bind fun x7 => (if x7.1 < v1 then f_M_turnsRank_l21 N n v1 v2 v3 (v4 ||| (0 : Int32)) (v5 + (1 : Int32)) x7.2 else f_M_turnsRank_l21 N n v1 v2 v3 (v4 ||| ((1 : Int32) <<< (((9 : Int32) + v5) &&& 31))) (v5 + (1 : Int32)) x7.2)) else f_M_turnsRank_l21 N n v1 v2 v3 v4 (v5 + (1 : Int32)) σ) else f_M_turnsRank_l21 N n v1 v2 v3 v4 (v5 + (1 : Int32)) σ)))
set_option maxRecDepth 20000 in
set_option maxHeartbeats 4000000 in
theorem t_M_turnsRank_l21 (d : Nat) {N : Nat} {x : (Int32 × aSt)} {P : Option Value → aSt → Prop} (hp : P (some (.int x.1)) x.2) : ∀ (n : Nat) (v1 : Int32) (v2 : Int32) (v3 : Int32) (v4 : Int32) (v5 : Int32) (σ : aSt), f_M_turnsRank_l21 N n v1 v2 v3 v4 v5 σ = some x → aGo (aCall MT (d + 5)) P mc_M_turnsRank 21 [some (.ref 66), some (.int v1), some (.int v2), some (.int v3), some (.int v4), some (.int v5)] [] σ := by
  intro n
  induction n with
  | zero => intro v1 v2 v3 v4 v5 σ h; cases h
  | succ n ih =>
    intro v1 v2 v3 v4 v5 σ h
    rw [f_M_turnsRank_l21] at h
    refine go_if (c := (9 : Int32) < v5) (k1 := 77) (L1 := [some (.ref 66), some (.int v1), some (.int v2), some (.int v3), some (.int v4), some (.int v5)]) (S1 := []) (σ1 := σ) (k2 := 24) (L2 := [some (.ref 66), some (.int v1), some (.int v2), some (.int v3), some (.int v4), some (.int v5)]) (S2 := []) (σ2 := σ) 3 (fun n h => h) (fun hc3 => ?_) (fun hc3 => ?_)
    · rw [if_pos hc3] at h
      cases h
      exact go_ret 8 (fun _ => hp)
    · rw [if_neg hc3] at h
      refine go_if (c := v5 = 0) (k1 := 75) (L1 := [some (.ref 66), some (.int v1), some (.int v2), some (.int v3), some (.int v4), some (.int v5)]) (S1 := []) (σ1 := σ) (k2 := 26) (L2 := [some (.ref 66), some (.int v1), some (.int v2), some (.int v3), some (.int v4), some (.int v5)]) (S2 := []) (σ2 := σ) 2 (fun n h => h) (fun hc4 => ?_) (fun hc4 => ?_)
      · rw [if_pos hc4] at h
        refine go_st (k' := 21) (L' := [some (.ref 66), some (.int v1), some (.int v2), some (.int v3), some (.int v4), some (.int (v5 + (1 : Int32)))]) (S' := []) (σ' := σ) 2 (fun n h => h) ?_
        exact ih v1 v2 v3 v4 (v5 + (1 : Int32)) σ h
      · rw [if_neg hc4] at h
        refine go_call (r := some (.int (b2i (f_M_in (v2.toInt64 * v5.toInt64) (-60 : Int64) (60 : Int64))))) (σc := σ) (σ1 := σ) (mi := 7) (vs := [.long (v2.toInt64 * v5.toInt64), .long (-60 : Int64), .long (60 : Int64)]) (k' := 34) (L' := [some (.ref 66), some (.int v1), some (.int v2), some (.int v3), some (.int v4), some (.int v5)]) (S' := []) 8 (fun P9 h9 => c_M_in (d + 4) (v2.toInt64 * v5.toInt64) (-60 : Int64) (60 : Int64) σ h9) (fun n h => h) ?_
        refine go_ifz (b := (f_M_in (v2.toInt64 * v5.toInt64) (-60 : Int64) (60 : Int64))) (k1 := 75) (L1 := [some (.ref 66), some (.int v1), some (.int v2), some (.int v3), some (.int v4), some (.int v5)]) (S1 := []) (σ1 := σ) (k2 := 35) (L2 := [some (.ref 66), some (.int v1), some (.int v2), some (.int v3), some (.int v4), some (.int v5)]) (S2 := []) (σ2 := σ) 1 (fun n h => h) (fun hc5 => ?_) (fun hc5 => ?_)
        · rw [if_neg hc5] at h
          refine go_st (k' := 21) (L' := [some (.ref 66), some (.int v1), some (.int v2), some (.int v3), some (.int v4), some (.int (v5 + (1 : Int32)))]) (S' := []) (σ' := σ) 2 (fun n h => h) ?_
          exact ih v1 v2 v3 v4 (v5 + (1 : Int32)) σ h
        · rw [if_pos hc5] at h
          refine go_call (r := some (.int (b2i (f_M_in ((v3.toInt64 * v5.toInt64) * v5.toInt64) (-200 : Int64) (200 : Int64))))) (σc := σ) (σ1 := σ) (mi := 7) (vs := [.long ((v3.toInt64 * v5.toInt64) * v5.toInt64), .long (-200 : Int64), .long (200 : Int64)]) (k' := 46) (L' := [some (.ref 66), some (.int v1), some (.int v2), some (.int v3), some (.int v4), some (.int v5)]) (S' := []) 11 (fun P9 h9 => c_M_in (d + 4) ((v3.toInt64 * v5.toInt64) * v5.toInt64) (-200 : Int64) (200 : Int64) σ h9) (fun n h => h) ?_
          refine go_ifn (b := (f_M_in ((v3.toInt64 * v5.toInt64) * v5.toInt64) (-200 : Int64) (200 : Int64))) (k1 := 48) (L1 := [some (.ref 66), some (.int v1), some (.int v2), some (.int v3), some (.int v4), some (.int v5)]) (S1 := []) (σ1 := σ) (k2 := 47) (L2 := [some (.ref 66), some (.int v1), some (.int v2), some (.int v3), some (.int v4), some (.int v5)]) (S2 := []) (σ2 := σ) 1 (fun n h => h) (fun hc6 => ?_) (fun hc6 => ?_)
          · rw [if_pos hc6] at h
            obtain ⟨x7, hx7, h⟩ := bind_of h
            refine go_call (r := some (.int x7.1)) (σc := (s_i (s_i σ 66 2 (v2 * v5)) 66 3 ((v3 * v5) * v5))) (σ1 := x7.2) (mi := 203) (vs := [.ref 66, .int (0 : Int32)]) (k' := 64) (L' := [some (.ref 66), some (.int v1), some (.int v2), some (.int v3), some (.int v4), some (.int v5)]) (S' := [.int v4]) 16 (fun P9 h9 => c_M_rank (d + 0) (0 : Int32) (s_i (s_i σ 66 2 (v2 * v5)) 66 3 ((v3 * v5) * v5)) hx7 h9) (fun n h => h) ?_
            refine go_if (c := x7.1 < v1) (k1 := 72) (L1 := [some (.ref 66), some (.int v1), some (.int v2), some (.int v3), some (.int v4), some (.int v5)]) (S1 := [.int v4]) (σ1 := x7.2) (k2 := 66) (L2 := [some (.ref 66), some (.int v1), some (.int v2), some (.int v3), some (.int v4), some (.int v5)]) (S2 := [.int v4]) (σ2 := x7.2) 2 (fun n h => h) (fun hc8 => ?_) (fun hc8 => ?_)
            · rw [if_pos hc8] at h
              refine go_st (k' := 21) (L' := [some (.ref 66), some (.int v1), some (.int v2), some (.int v3), some (.int (v4 ||| (0 : Int32))), some (.int (v5 + (1 : Int32)))]) (S' := []) (σ' := x7.2) 5 (fun n h => h) ?_
              exact ih v1 v2 v3 (v4 ||| (0 : Int32)) (v5 + (1 : Int32)) x7.2 h
            · rw [if_neg hc8] at h
              refine go_st (k' := 21) (L' := [some (.ref 66), some (.int v1), some (.int v2), some (.int v3), some (.int (v4 ||| ((1 : Int32) <<< (((9 : Int32) + v5) &&& 31)))), some (.int (v5 + (1 : Int32)))]) (S' := []) (σ' := x7.2) 10 (fun n h => h) ?_
              exact ih v1 v2 v3 (v4 ||| ((1 : Int32) <<< (((9 : Int32) + v5) &&& 31))) (v5 + (1 : Int32)) x7.2 h
          · rw [if_neg hc6] at h
            refine go_st (k' := 21) (L' := [some (.ref 66), some (.int v1), some (.int v2), some (.int v3), some (.int v4), some (.int (v5 + (1 : Int32)))]) (S' := []) (σ' := σ) 3 (fun n h => h) ?_
            exact ih v1 v2 v3 v4 (v5 + (1 : Int32)) σ h
def f_M_turnsRank (N : Nat) (p0 : Int32) (σ : aSt) : Option (Int32 × aSt) :=
  (if (σ.2.2 66 1) = true then (if (f_M_in p0.toInt64 (0 : Int64) (9 : Int64)) = true then f_M_turnsRank_l21 N N p0 (σ.1 66 2) (σ.1 66 3) (0 : Int32) (-9 : Int32) σ else some ((-2 : Int32), σ)) else some ((-2 : Int32), σ))
set_option maxRecDepth 20000 in
set_option maxHeartbeats 4000000 in
theorem c_M_turnsRank (d : Nat) {N : Nat} (p0 : Int32) (σ : aSt) {P : Option Value → aSt → Prop} {x : (Int32 × aSt)} (h : f_M_turnsRank N p0 σ = some x) (hp : P (some (.int x.1)) x.2) : aCall MT (d + 6) 345 [.ref 66, .int p0] σ P := by
  unfold f_M_turnsRank at h
  refine call_of (code := mc_M_turnsRank) (L := [some (.ref 66), some (.int p0), none, none, none, none]) rfl rfl rfl rfl ?_
  refine go_ifz (b := (σ.2.2 66 1)) (k1 := 9) (L1 := [some (.ref 66), some (.int p0), none, none, none, none]) (S1 := []) (σ1 := σ) (k2 := 3) (L2 := [some (.ref 66), some (.int p0), none, none, none, none]) (S2 := []) (σ2 := σ) 3 (fun n h => h) (fun hc1 => ?_) (fun hc1 => ?_)
  · rw [if_neg hc1] at h
    cases h
    exact go_ret 2 (fun _ => hp)
  · rw [if_pos hc1] at h
    refine go_call (r := some (.int (b2i (f_M_in p0.toInt64 (0 : Int64) (9 : Int64))))) (σc := σ) (σ1 := σ) (mi := 7) (vs := [.long p0.toInt64, .long (0 : Int64), .long (9 : Int64)]) (k' := 8) (L' := [some (.ref 66), some (.int p0), none, none, none, none]) (S' := []) 5 (fun P9 h9 => c_M_in (d + 4) p0.toInt64 (0 : Int64) (9 : Int64) σ h9) (fun n h => h) ?_
    refine go_ifn (b := (f_M_in p0.toInt64 (0 : Int64) (9 : Int64))) (k1 := 11) (L1 := [some (.ref 66), some (.int p0), none, none, none, none]) (S1 := []) (σ1 := σ) (k2 := 9) (L2 := [some (.ref 66), some (.int p0), none, none, none, none]) (S2 := []) (σ2 := σ) 1 (fun n h => h) (fun hc2 => ?_) (fun hc2 => ?_)
    · rw [if_pos hc2] at h
      refine go_st (k' := 21) (L' := [some (.ref 66), some (.int p0), some (.int (σ.1 66 2)), some (.int (σ.1 66 3)), some (.int (0 : Int32)), some (.int (-9 : Int32))]) (S' := []) (σ' := σ) 10 (fun n h => h) ?_
      exact t_M_turnsRank_l21 d hp N p0 (σ.1 66 2) (σ.1 66 3) (0 : Int32) (-9 : Int32) σ h
    · rw [if_neg hc2] at h
      cases h
      exact go_ret 2 (fun _ => hp)
def f_M_breaks_l43 (N : Nat) (σ : aSt) : Nat → Int32 → Int64 → Int64 → Option Int64
  | 0, _, _, _ => none
  | n + 1, v1, v2, v4 => (if ¬ v1.toInt64 = 0 then (if (lrem v2 v1.toInt64) ≠ (0 : Int64) then some v4 else f_M_breaks_l43 N σ n v1 (v2 / v1.toInt64) (v4 + (1 : Int64))) else none)
set_option maxRecDepth 20000 in
set_option maxHeartbeats 4000000 in
theorem t_M_breaks_l43 (d : Nat) {N : Nat} (σ : aSt) {x : Int64} {P : Option Value → aSt → Prop} (hp : P (some (.long x)) σ) : ∀ (n : Nat) (d0 : Option Value) (v1 : Int32) (v2 : Int64) (v4 : Int64), f_M_breaks_l43 N σ n v1 v2 v4 = some x → aGo (aCall MT (d + 1)) P mc_M_breaks 43 [d0, some (.int v1), some (.long v2), none, some (.long v4), none] [] σ := by
  intro n
  induction n with
  | zero => intro d0 v1 v2 v4 h; cases h
  | succ n ih =>
    intro d0 v1 v2 v4 h
    rw [f_M_breaks_l43] at h
    obtain ⟨hc4, h⟩ := ite_of h
    refine go_q (Q := ¬ v1.toInt64 = 0) (k' := 47) (L' := [d0, some (.int v1), some (.long v2), none, some (.long v4), none]) (S' := [.long (lrem v2 v1.toInt64)]) (σ' := σ) 4 hc4 (fun n h => h) ?_
    refine go_iff (lcmp_ne (lrem v2 v1.toInt64) (0 : Int64)) (k1 := 60) (L1 := [d0, some (.int v1), some (.long v2), none, some (.long v4), none]) (S1 := []) (σ1 := σ) (k2 := 50) (L2 := [d0, some (.int v1), some (.long v2), none, some (.long v4), none]) (S2 := []) (σ2 := σ) 3 (fun n h => h) (fun hc5 => ?_) (fun hc5 => ?_)
    · rw [if_pos hc5] at h
      cases h
      exact go_ret 2 (fun _ => hp)
    · rw [if_neg hc5] at h
      refine go_q (Q := ¬ v1.toInt64 = 0) (k' := 58) (L' := [d0, some (.int v1), some (.long v2), none, some (.long (v4 + (1 : Int64))), none]) (S' := [.long (v2 / v1.toInt64)]) (σ' := σ) 8 (hc4) (fun n h => h) ?_
      refine go_st (k' := 43) (L' := [d0, some (.int v1), some (.long (v2 / v1.toInt64)), none, some (.long (v4 + (1 : Int64))), none]) (S' := []) (σ' := σ) 2 (fun n h => h) ?_
      exact ih _ v1 (v2 / v1.toInt64) (v4 + (1 : Int64)) h
def f_M_breaks_b13 (N : Nat) (v1 : Int32) (σ : aSt) : Option Int64 :=
  (if v1 ≠ 0 then f_M_breaks_l43 N σ N v1 ((((16 : Int64) * (σ.1 66 3).toInt64) * (σ.1 66 3).toInt64) * (((σ.1 66 2).toInt64 * (σ.1 66 2).toInt64) - ((4 : Int64) * (σ.1 66 3).toInt64))) (0 : Int64) else some ((((16 : Int64) * (σ.1 66 3).toInt64) * (σ.1 66 3).toInt64) * (((σ.1 66 2).toInt64 * (σ.1 66 2).toInt64) - ((4 : Int64) * (σ.1 66 3).toInt64))))
set_option maxRecDepth 20000 in
set_option maxHeartbeats 4000000 in
theorem t_M_breaks_b13 (d : Nat) {N : Nat} (d2 d3 d4 d5 : Option Value) (v1 : Int32) (σ : aSt) {P : Option Value → aSt → Prop} {x : Int64} (h : f_M_breaks_b13 N v1 σ = some x) (hp : P (some (.long x)) σ) : aGo (aCall MT (d + 1)) P mc_M_breaks 13 [some (.ref 66), some (.int v1), d2, d3, d4, d5] [] σ := by
  unfold f_M_breaks_b13 at h
  refine go_if (c := v1 ≠ 0) (k1 := 41) (L1 := [some (.ref 66), some (.int v1), some (.long ((((16 : Int64) * (σ.1 66 3).toInt64) * (σ.1 66 3).toInt64) * (((σ.1 66 2).toInt64 * (σ.1 66 2).toInt64) - ((4 : Int64) * (σ.1 66 3).toInt64)))), none, d4, d5]) (S1 := []) (σ1 := σ) (k2 := 39) (L2 := [some (.ref 66), some (.int v1), some (.long ((((16 : Int64) * (σ.1 66 3).toInt64) * (σ.1 66 3).toInt64) * (((σ.1 66 2).toInt64 * (σ.1 66 2).toInt64) - ((4 : Int64) * (σ.1 66 3).toInt64)))), none, d4, d5]) (S2 := []) (σ2 := σ) 26 (fun n h => h) (fun hc3 => ?_) (fun hc3 => ?_)
  · rw [if_pos hc3] at h
    refine go_st (k' := 43) (L' := [some (.ref 66), some (.int v1), some (.long ((((16 : Int64) * (σ.1 66 3).toInt64) * (σ.1 66 3).toInt64) * (((σ.1 66 2).toInt64 * (σ.1 66 2).toInt64) - ((4 : Int64) * (σ.1 66 3).toInt64)))), none, some (.long (0 : Int64)), none]) (S' := []) (σ' := σ) 2 (fun n h => h) ?_
    exact t_M_breaks_l43 d σ hp N _ v1 ((((16 : Int64) * (σ.1 66 3).toInt64) * (σ.1 66 3).toInt64) * (((σ.1 66 2).toInt64 * (σ.1 66 2).toInt64) - ((4 : Int64) * (σ.1 66 3).toInt64))) (0 : Int64) h
  · rw [if_neg hc3] at h
    cases h
    exact go_ret 2 (fun _ => hp)
def f_M_breaks (N : Nat) (p0 : Int32) (σ : aSt) : Option Int64 :=
  (if (σ.2.2 66 1) = true then (if p0 = 0 then f_M_breaks_b13 N p0 σ else (if p0 = (2 : Int32) then f_M_breaks_b13 N p0 σ else ((f_M_isPrime N p0).bind fun x7 => (if x7 = true then f_M_breaks_b13 N p0 σ else some (-9223372036854775808 : Int64))))) else some (-9223372036854775808 : Int64))
set_option maxRecDepth 20000 in
set_option maxHeartbeats 4000000 in
theorem c_M_breaks (d : Nat) {N : Nat} (p0 : Int32) (σ : aSt) {P : Option Value → aSt → Prop} {x : Int64} (h : f_M_breaks N p0 σ = some x) (hp : P (some (.long x)) σ) : aCall MT (d + 2) 347 [.ref 66, .int p0] σ P := by
  unfold f_M_breaks at h
  refine call_of (code := mc_M_breaks) (L := [some (.ref 66), some (.int p0), none, none, none, none]) rfl rfl rfl rfl ?_
  refine go_ifz (b := (σ.2.2 66 1)) (k1 := 11) (L1 := [some (.ref 66), some (.int p0), none, none, none, none]) (S1 := []) (σ1 := σ) (k2 := 3) (L2 := [some (.ref 66), some (.int p0), none, none, none, none]) (S2 := []) (σ2 := σ) 3 (fun n h => h) (fun hc1 => ?_) (fun hc1 => ?_)
  · rw [if_neg hc1] at h
    cases h
    exact go_ret 2 (fun _ => hp)
  · rw [if_pos hc1] at h
    refine go_if (c := p0 = 0) (k1 := 13) (L1 := [some (.ref 66), some (.int p0), none, none, none, none]) (S1 := []) (σ1 := σ) (k2 := 5) (L2 := [some (.ref 66), some (.int p0), none, none, none, none]) (S2 := []) (σ2 := σ) 2 (fun n h => h) (fun hc2 => ?_) (fun hc2 => ?_)
    · rw [if_pos hc2] at h
      exact t_M_breaks_b13 d _ _ _ _ p0 σ h hp
    · rw [if_neg hc2] at h
      refine go_if (c := p0 = (2 : Int32)) (k1 := 13) (L1 := [some (.ref 66), some (.int p0), none, none, none, none]) (S1 := []) (σ1 := σ) (k2 := 8) (L2 := [some (.ref 66), some (.int p0), none, none, none, none]) (S2 := []) (σ2 := σ) 3 (fun n h => h) (fun hc6 => ?_) (fun hc6 => ?_)
      · rw [if_pos hc6] at h
        exact t_M_breaks_b13 d _ _ _ _ p0 σ h hp
      · rw [if_neg hc6] at h
        obtain ⟨x7, hx7, h⟩ := bind_of h
        refine go_call (r := some (.int (b2i x7))) (σc := σ) (σ1 := σ) (mi := 145) (vs := [.int p0]) (k' := 10) (L' := [some (.ref 66), some (.int p0), none, none, none, none]) (S' := []) 2 (fun P9 h9 => c_M_isPrime (d + 0) p0 σ hx7 h9) (fun n h => h) ?_
        refine go_ifn (b := x7) (k1 := 13) (L1 := [some (.ref 66), some (.int p0), none, none, none, none]) (S1 := []) (σ1 := σ) (k2 := 11) (L2 := [some (.ref 66), some (.int p0), none, none, none, none]) (S2 := []) (σ2 := σ) 1 (fun n h => h) (fun hc8 => ?_) (fun hc8 => ?_)
        · rw [if_pos hc8] at h
          exact t_M_breaks_b13 d _ _ _ _ p0 σ h hp
        · rw [if_neg hc8] at h
          cases h
          exact go_ret 2 (fun _ => hp)
def f_M_traces_l15 (N : Nat) (σ : aSt) : Nat → Int32 → Int64 → Int32 → Option Int64
  | 0, _, _, _ => none
  | n + 1, v1, v2, v4 => (if v1 < v4 then some v2 else ((f_M_isGoodPrime N v4 σ).bind fun x4 => (if x4 = true then ((f_M_manyOf N v4 σ).bind fun x6 => f_M_traces_l15 N σ n v1 (v2 + ((v4 + (1 : Int32)) - x6).toInt64) (v4 + (1 : Int32))) else f_M_traces_l15 N σ n v1 v2 (v4 + (1 : Int32)))))
set_option maxRecDepth 20000 in
set_option maxHeartbeats 4000000 in
theorem t_M_traces_l15 (d : Nat) {N : Nat} (σ : aSt) {x : Int64} {P : Option Value → aSt → Prop} (hp : P (some (.long x)) σ) : ∀ (n : Nat) (v1 : Int32) (v2 : Int64) (v4 : Int32), f_M_traces_l15 N σ n v1 v2 v4 = some x → aGo (aCall MT (d + 2)) P mc_M_traces 15 [some (.ref 66), some (.int v1), some (.long v2), none, some (.int v4)] [] σ := by
  intro n
  induction n with
  | zero => intro v1 v2 v4 h; cases h
  | succ n ih =>
    intro v1 v2 v4 h
    rw [f_M_traces_l15] at h
    refine go_if (c := v1 < v4) (k1 := 35) (L1 := [some (.ref 66), some (.int v1), some (.long v2), none, some (.int v4)]) (S1 := []) (σ1 := σ) (k2 := 18) (L2 := [some (.ref 66), some (.int v1), some (.long v2), none, some (.int v4)]) (S2 := []) (σ2 := σ) 3 (fun n h => h) (fun hc3 => ?_) (fun hc3 => ?_)
    · rw [if_pos hc3] at h
      cases h
      exact go_ret 2 (fun _ => hp)
    · rw [if_neg hc3] at h
      obtain ⟨x4, hx4, h⟩ := bind_of h
      refine go_call (r := some (.int (b2i x4))) (σc := σ) (σ1 := σ) (mi := 146) (vs := [.ref 66, .int v4]) (k' := 21) (L' := [some (.ref 66), some (.int v1), some (.long v2), none, some (.int v4)]) (S' := []) 3 (fun P9 h9 => c_M_isGoodPrime (d + 0) v4 σ hx4 h9) (fun n h => h) ?_
      refine go_ifz (b := x4) (k1 := 33) (L1 := [some (.ref 66), some (.int v1), some (.long v2), none, some (.int v4)]) (S1 := []) (σ1 := σ) (k2 := 22) (L2 := [some (.ref 66), some (.int v1), some (.long v2), none, some (.int v4)]) (S2 := []) (σ2 := σ) 1 (fun n h => h) (fun hc5 => ?_) (fun hc5 => ?_)
      · rw [if_neg hc5] at h
        refine go_st (k' := 15) (L' := [some (.ref 66), some (.int v1), some (.long v2), none, some (.int (v4 + (1 : Int32)))]) (S' := []) (σ' := σ) 2 (fun n h => h) ?_
        exact ih v1 v2 (v4 + (1 : Int32)) h
      · rw [if_pos hc5] at h
        obtain ⟨x6, hx6, h⟩ := bind_of h
        refine go_call (r := some (.int x6)) (σc := σ) (σ1 := σ) (mi := 148) (vs := [.ref 66, .int v4]) (k' := 29) (L' := [some (.ref 66), some (.int v1), some (.long v2), none, some (.int v4)]) (S' := [.int (v4 + (1 : Int32)), .long v2]) 7 (fun P9 h9 => c_M_manyOf (d + 0) v4 σ hx6 h9) (fun n h => h) ?_
        refine go_st (k' := 15) (L' := [some (.ref 66), some (.int v1), some (.long (v2 + ((v4 + (1 : Int32)) - x6).toInt64)), none, some (.int (v4 + (1 : Int32)))]) (S' := []) (σ' := σ) 6 (fun n h => h) ?_
        exact ih v1 (v2 + ((v4 + (1 : Int32)) - x6).toInt64) (v4 + (1 : Int32)) h
def f_M_traces (N : Nat) (p0 : Int32) (σ : aSt) : Option Int64 :=
  (if (σ.2.2 66 1) = true then (if (f_M_in p0.toInt64 (0 : Int64) (97 : Int64)) = true then f_M_traces_l15 N σ N p0 (0 : Int64) (3 : Int32) else some (-9223372036854775808 : Int64)) else some (-9223372036854775808 : Int64))
set_option maxRecDepth 20000 in
set_option maxHeartbeats 4000000 in
theorem c_M_traces (d : Nat) {N : Nat} (p0 : Int32) (σ : aSt) {P : Option Value → aSt → Prop} {x : Int64} (h : f_M_traces N p0 σ = some x) (hp : P (some (.long x)) σ) : aCall MT (d + 3) 349 [.ref 66, .int p0] σ P := by
  unfold f_M_traces at h
  refine call_of (code := mc_M_traces) (L := [some (.ref 66), some (.int p0), none, none, none]) rfl rfl rfl rfl ?_
  refine go_ifz (b := (σ.2.2 66 1)) (k1 := 9) (L1 := [some (.ref 66), some (.int p0), none, none, none]) (S1 := []) (σ1 := σ) (k2 := 3) (L2 := [some (.ref 66), some (.int p0), none, none, none]) (S2 := []) (σ2 := σ) 3 (fun n h => h) (fun hc1 => ?_) (fun hc1 => ?_)
  · rw [if_neg hc1] at h
    cases h
    exact go_ret 2 (fun _ => hp)
  · rw [if_pos hc1] at h
    refine go_call (r := some (.int (b2i (f_M_in p0.toInt64 (0 : Int64) (97 : Int64))))) (σc := σ) (σ1 := σ) (mi := 7) (vs := [.long p0.toInt64, .long (0 : Int64), .long (97 : Int64)]) (k' := 8) (L' := [some (.ref 66), some (.int p0), none, none, none]) (S' := []) 5 (fun P9 h9 => c_M_in (d + 1) p0.toInt64 (0 : Int64) (97 : Int64) σ h9) (fun n h => h) ?_
    refine go_ifn (b := (f_M_in p0.toInt64 (0 : Int64) (97 : Int64))) (k1 := 11) (L1 := [some (.ref 66), some (.int p0), none, none, none]) (S1 := []) (σ1 := σ) (k2 := 9) (L2 := [some (.ref 66), some (.int p0), none, none, none]) (S2 := []) (σ2 := σ) 1 (fun n h => h) (fun hc2 => ?_) (fun hc2 => ?_)
    · rw [if_pos hc2] at h
      refine go_st (k' := 15) (L' := [some (.ref 66), some (.int p0), some (.long (0 : Int64)), none, some (.int (3 : Int32))]) (S' := []) (σ' := σ) 4 (fun n h => h) ?_
      exact t_M_traces_l15 d σ hp N p0 (0 : Int64) (3 : Int32) h
    · rw [if_neg hc2] at h
      cases h
      exact go_ret 2 (fun _ => hp)
def f_M_sorts_l23 (N : Nat) (σ : aSt) : Nat → Int32 → Int32 → Int32 → Int32 → Option Int32
  | 0, _, _, _, _ => none
  | n + 1, v1, v2, v3, v4 => (if (σ.1 66 9) ≤ v4 then some v3 else (if v2 ≠ 0 then (if 0 ≤ v4 ∧ v4 < (120 : Int32) then ((f_M_isSquare N (iabs (σ.1 67 v4.toNatClampNeg)).toInt64).bind fun x7 => (if x7 = true then f_M_sorts_l23 N σ n v1 v2 (v3 + (1 : Int32)) (v4 + (1 : Int32)) else f_M_sorts_l23 N σ n v1 v2 (v3 + (0 : Int32)) (v4 + (1 : Int32)))) else none) else (if 0 ≤ v4 ∧ v4 < (120 : Int32) then (if (σ.1 69 v4.toNatClampNeg) ≠ v1 then f_M_sorts_l23 N σ n v1 v2 (v3 + (0 : Int32)) (v4 + (1 : Int32)) else f_M_sorts_l23 N σ n v1 v2 (v3 + (1 : Int32)) (v4 + (1 : Int32))) else none)))
set_option maxRecDepth 20000 in
set_option maxHeartbeats 4000000 in
theorem t_M_sorts_l23 (d : Nat) {N : Nat} (σ : aSt) {x : Int32} {P : Option Value → aSt → Prop} (hp : P (some (.int x)) σ) : ∀ (n : Nat) (v1 : Int32) (v2 : Int32) (v3 : Int32) (v4 : Int32), f_M_sorts_l23 N σ n v1 v2 v3 v4 = some x → aGo (aCall MT (d + 2)) P mc_M_sorts 23 [some (.ref 66), some (.int v1), some (.int v2), some (.int v3), some (.int v4)] [] σ := by
  intro n
  induction n with
  | zero => intro v1 v2 v3 v4 h; cases h
  | succ n ih =>
    intro v1 v2 v3 v4 h
    rw [f_M_sorts_l23] at h
    refine go_if (c := (σ.1 66 9) ≤ v4) (k1 := 52) (L1 := [some (.ref 66), some (.int v1), some (.int v2), some (.int v3), some (.int v4)]) (S1 := []) (σ1 := σ) (k2 := 27) (L2 := [some (.ref 66), some (.int v1), some (.int v2), some (.int v3), some (.int v4)]) (S2 := []) (σ2 := σ) 4 (fun n h => h) (fun hc4 => ?_) (fun hc4 => ?_)
    · rw [if_pos hc4] at h
      cases h
      exact go_ret 2 (fun _ => hp)
    · rw [if_neg hc4] at h
      refine go_if (c := v2 ≠ 0) (k1 := 37) (L1 := [some (.ref 66), some (.int v1), some (.int v2), some (.int v3), some (.int v4)]) (S1 := [.int v3]) (σ1 := σ) (k2 := 30) (L2 := [some (.ref 66), some (.int v1), some (.int v2), some (.int v3), some (.int v4)]) (S2 := [.int v3]) (σ2 := σ) 3 (fun n h => h) (fun hc5 => ?_) (fun hc5 => ?_)
      · rw [if_pos hc5] at h
        obtain ⟨hc6, h⟩ := ite_of h
        refine go_q (Q := inb 0 σ 67 v4) (k' := 41) (L' := [some (.ref 66), some (.int v1), some (.int v2), some (.int v3), some (.int v4)]) (S' := [.int (σ.1 67 v4.toNatClampNeg), .int v3]) (σ' := σ) 4 (inb_mk rfl hc6.1 hc6.2) (fun n h => h) ?_
        obtain ⟨x7, hx7, h⟩ := bind_of h
        refine go_call (r := some (.int (b2i x7))) (σc := σ) (σ1 := σ) (mi := 59) (vs := [.long (iabs (σ.1 67 v4.toNatClampNeg)).toInt64]) (k' := 44) (L' := [some (.ref 66), some (.int v1), some (.int v2), some (.int v3), some (.int v4)]) (S' := [.int v3]) 3 (fun P9 h9 => c_M_isSquare (d + 0) (iabs (σ.1 67 v4.toNatClampNeg)).toInt64 σ hx7 h9) (fun n h => h) ?_
        refine go_ifz (b := x7) (k1 := 47) (L1 := [some (.ref 66), some (.int v1), some (.int v2), some (.int v3), some (.int v4)]) (S1 := [.int v3]) (σ1 := σ) (k2 := 45) (L2 := [some (.ref 66), some (.int v1), some (.int v2), some (.int v3), some (.int v4)]) (S2 := [.int v3]) (σ2 := σ) 1 (fun n h => h) (fun hc8 => ?_) (fun hc8 => ?_)
        · rw [if_neg hc8] at h
          refine go_st (k' := 23) (L' := [some (.ref 66), some (.int v1), some (.int v2), some (.int (v3 + (0 : Int32))), some (.int (v4 + (1 : Int32)))]) (S' := []) (σ' := σ) 5 (fun n h => h) ?_
          exact ih v1 v2 (v3 + (0 : Int32)) (v4 + (1 : Int32)) h
        · rw [if_pos hc8] at h
          refine go_st (k' := 23) (L' := [some (.ref 66), some (.int v1), some (.int v2), some (.int (v3 + (1 : Int32))), some (.int (v4 + (1 : Int32)))]) (S' := []) (σ' := σ) 6 (fun n h => h) ?_
          exact ih v1 v2 (v3 + (1 : Int32)) (v4 + (1 : Int32)) h
      · rw [if_neg hc5] at h
        obtain ⟨hc9, h⟩ := ite_of h
        refine go_q (Q := inb 0 σ 69 v4) (k' := 34) (L' := [some (.ref 66), some (.int v1), some (.int v2), some (.int v3), some (.int v4)]) (S' := [.int (σ.1 69 v4.toNatClampNeg), .int v3]) (σ' := σ) 4 (inb_mk rfl hc9.1 hc9.2) (fun n h => h) ?_
        refine go_if (c := (σ.1 69 v4.toNatClampNeg) ≠ v1) (k1 := 47) (L1 := [some (.ref 66), some (.int v1), some (.int v2), some (.int v3), some (.int v4)]) (S1 := [.int v3]) (σ1 := σ) (k2 := 36) (L2 := [some (.ref 66), some (.int v1), some (.int v2), some (.int v3), some (.int v4)]) (S2 := [.int v3]) (σ2 := σ) 2 (fun n h => h) (fun hc10 => ?_) (fun hc10 => ?_)
        · rw [if_pos hc10] at h
          refine go_st (k' := 23) (L' := [some (.ref 66), some (.int v1), some (.int v2), some (.int (v3 + (0 : Int32))), some (.int (v4 + (1 : Int32)))]) (S' := []) (σ' := σ) 5 (fun n h => h) ?_
          exact ih v1 v2 (v3 + (0 : Int32)) (v4 + (1 : Int32)) h
        · rw [if_neg hc10] at h
          refine go_st (k' := 23) (L' := [some (.ref 66), some (.int v1), some (.int v2), some (.int (v3 + (1 : Int32))), some (.int (v4 + (1 : Int32)))]) (S' := []) (σ' := σ) 7 (fun n h => h) ?_
          exact ih v1 v2 (v3 + (1 : Int32)) (v4 + (1 : Int32)) h
def f_M_sorts_b19 (N : Nat) (v1 : Int32) (v2 : Int32) (σ : aSt) : Option Int32 :=
  f_M_sorts_l23 N σ N v1 v2 (0 : Int32) (0 : Int32)
set_option maxRecDepth 20000 in
set_option maxHeartbeats 4000000 in
theorem t_M_sorts_b19 (d : Nat) {N : Nat} (d3 d4 : Option Value) (v1 : Int32) (v2 : Int32) (σ : aSt) {P : Option Value → aSt → Prop} {x : Int32} (h : f_M_sorts_b19 N v1 v2 σ = some x) (hp : P (some (.int x)) σ) : aGo (aCall MT (d + 2)) P mc_M_sorts 19 [some (.ref 66), some (.int v1), some (.int v2), d3, d4] [] σ := by
  unfold f_M_sorts_b19 at h
  refine go_st (k' := 23) (L' := [some (.ref 66), some (.int v1), some (.int v2), some (.int (0 : Int32)), some (.int (0 : Int32))]) (S' := []) (σ' := σ) 4 (fun n h => h) ?_
  exact t_M_sorts_l23 d σ hp N v1 v2 (0 : Int32) (0 : Int32) h
def f_M_sorts (N : Nat) (p0 : Int32) (p1 : Int32) (σ : aSt) : Option Int32 :=
  (if (σ.2.2 66 1) = true then (if (f_M_in p1.toInt64 (0 : Int64) (1 : Int64)) = true then (if p1 ≠ 0 then f_M_sorts_b19 N p0 p1 σ else (if (f_M_in p0.toInt64 (1 : Int64) (6 : Int64)) = true then f_M_sorts_b19 N p0 p1 σ else some (-2 : Int32))) else some (-2 : Int32)) else some (-2 : Int32))
set_option maxRecDepth 20000 in
set_option maxHeartbeats 4000000 in
theorem c_M_sorts (d : Nat) {N : Nat} (p0 : Int32) (p1 : Int32) (σ : aSt) {P : Option Value → aSt → Prop} {x : Int32} (h : f_M_sorts N p0 p1 σ = some x) (hp : P (some (.int x)) σ) : aCall MT (d + 3) 351 [.ref 66, .int p0, .int p1] σ P := by
  unfold f_M_sorts at h
  refine call_of (code := mc_M_sorts) (L := [some (.ref 66), some (.int p0), some (.int p1), none, none]) rfl rfl rfl rfl ?_
  refine go_ifz (b := (σ.2.2 66 1)) (k1 := 17) (L1 := [some (.ref 66), some (.int p0), some (.int p1), none, none]) (S1 := []) (σ1 := σ) (k2 := 3) (L2 := [some (.ref 66), some (.int p0), some (.int p1), none, none]) (S2 := []) (σ2 := σ) 3 (fun n h => h) (fun hc1 => ?_) (fun hc1 => ?_)
  · rw [if_neg hc1] at h
    cases h
    exact go_ret 2 (fun _ => hp)
  · rw [if_pos hc1] at h
    refine go_call (r := some (.int (b2i (f_M_in p1.toInt64 (0 : Int64) (1 : Int64))))) (σc := σ) (σ1 := σ) (mi := 7) (vs := [.long p1.toInt64, .long (0 : Int64), .long (1 : Int64)]) (k' := 8) (L' := [some (.ref 66), some (.int p0), some (.int p1), none, none]) (S' := []) 5 (fun P9 h9 => c_M_in (d + 1) p1.toInt64 (0 : Int64) (1 : Int64) σ h9) (fun n h => h) ?_
    refine go_ifz (b := (f_M_in p1.toInt64 (0 : Int64) (1 : Int64))) (k1 := 17) (L1 := [some (.ref 66), some (.int p0), some (.int p1), none, none]) (S1 := []) (σ1 := σ) (k2 := 9) (L2 := [some (.ref 66), some (.int p0), some (.int p1), none, none]) (S2 := []) (σ2 := σ) 1 (fun n h => h) (fun hc2 => ?_) (fun hc2 => ?_)
    · rw [if_neg hc2] at h
      cases h
      exact go_ret 2 (fun _ => hp)
    · rw [if_pos hc2] at h
      refine go_if (c := p1 ≠ 0) (k1 := 19) (L1 := [some (.ref 66), some (.int p0), some (.int p1), none, none]) (S1 := []) (σ1 := σ) (k2 := 11) (L2 := [some (.ref 66), some (.int p0), some (.int p1), none, none]) (S2 := []) (σ2 := σ) 2 (fun n h => h) (fun hc3 => ?_) (fun hc3 => ?_)
      · rw [if_pos hc3] at h
        exact t_M_sorts_b19 d _ _ p0 p1 σ h hp
      · rw [if_neg hc3] at h
        refine go_call (r := some (.int (b2i (f_M_in p0.toInt64 (1 : Int64) (6 : Int64))))) (σc := σ) (σ1 := σ) (mi := 7) (vs := [.long p0.toInt64, .long (1 : Int64), .long (6 : Int64)]) (k' := 16) (L' := [some (.ref 66), some (.int p0), some (.int p1), none, none]) (S' := []) 5 (fun P9 h9 => c_M_in (d + 1) p0.toInt64 (1 : Int64) (6 : Int64) σ h9) (fun n h => h) ?_
        refine go_ifn (b := (f_M_in p0.toInt64 (1 : Int64) (6 : Int64))) (k1 := 19) (L1 := [some (.ref 66), some (.int p0), some (.int p1), none, none]) (S1 := []) (σ1 := σ) (k2 := 17) (L2 := [some (.ref 66), some (.int p0), some (.int p1), none, none]) (S2 := []) (σ2 := σ) 1 (fun n h => h) (fun hc11 => ?_) (fun hc11 => ?_)
        · rw [if_pos hc11] at h
          exact t_M_sorts_b19 d _ _ p0 p1 σ h hp
        · rw [if_neg hc11] at h
          cases h
          exact go_ret 2 (fun _ => hp)
def f_M_deepOf_l9 (N : Nat) (rec : Int32 → aSt → Option (Int32 × aSt)) : Nat → Int32 → Int32 → Int32 → aSt → Option (Int32 × aSt)
  | 0, _, _, _, _ => none
  | n + 1, v1, v2, v3, σ => (if (σ.1 66 9) ≤ v3 then (if 0 ≤ v1 ∧ v1 < (120 : Int32) then some ((v2 + (1 : Int32)), (s_b σ 83 v1.toNatClampNeg false)) else none) else (if 0 ≤ v3 ∧ v3 < (120 : Int32) then (if (σ.2.2 83 v3.toNatClampNeg) = true then f_M_deepOf_l9 N rec n v1 v2 (v3 + (1 : Int32)) σ else ((f_M_sumOf N v3 v3 (1 : Int32) σ).bind fun x6 => (if x6.1 ≠ v1 then f_M_deepOf_l9 N rec n v1 v2 (v3 + (1 : Int32)) x6.2 else ((rec v3 x6.2).bind fun x8 => f_M_deepOf_l9 N rec n v1 (imax v2 x8.1) (v3 + (1 : Int32)) x8.2)))) else none))
set_option maxRecDepth 20000 in
set_option maxHeartbeats 4000000 in
theorem t_M_deepOf_l9 (d : Nat) {N : Nat} {rec : Int32 → aSt → Option (Int32 × aSt)} (hrec : ∀ (q : Int32) (σ : aSt) {x : Int32 × aSt} {P : Option Value → aSt → Prop}, rec q σ = some x → P (some (.int x.1)) x.2 → aCall MT (d + 4) 329 [.ref 66, .int q] σ P) {x : (Int32 × aSt)} {P : Option Value → aSt → Prop} (hp : P (some (.int x.1)) x.2) : ∀ (n : Nat) (v1 : Int32) (v2 : Int32) (v3 : Int32) (σ : aSt), f_M_deepOf_l9 N rec n v1 v2 v3 σ = some x → aGo (aCall MT (d + 4)) P mc_M_deepOf 9 [some (.ref 66), some (.int v1), some (.int v2), some (.int v3)] [] σ := by
  intro n
  induction n with
  | zero => intro v1 v2 v3 σ h; cases h
  | succ n ih =>
    intro v1 v2 v3 σ h
    rw [f_M_deepOf_l9] at h
    refine go_if (c := (σ.1 66 9) ≤ v3) (k1 := 33) (L1 := [some (.ref 66), some (.int v1), some (.int v2), some (.int v3)]) (S1 := []) (σ1 := σ) (k2 := 13) (L2 := [some (.ref 66), some (.int v1), some (.int v2), some (.int v3)]) (S2 := []) (σ2 := σ) 4 (fun n h => h) (fun hc2 => ?_) (fun hc2 => ?_)
    · rw [if_pos hc2] at h
      obtain ⟨hc3, h⟩ := ite_of h
      refine go_q2 (Q := inb 3 σ 83 v1) (Q2 := (0 : Int32) = 0 ∨ (0 : Int32) = 1) (k' := 38) (L' := [some (.ref 66), some (.int v1), some (.int v2), some (.int v3)]) (S' := []) (σ' := (s_b σ 83 v1.toNatClampNeg false)) 5 (inb_mk rfl hc3.1 hc3.2) (Or.inl rfl) (fun n h => h) ?_
      cases h
      exact go_ret 4 (fun _ => hp)
    · rw [if_neg hc2] at h
      obtain ⟨hc4, h⟩ := ite_of h
      refine go_q (Q := inb 3 σ 83 v3) (k' := 17) (L' := [some (.ref 66), some (.int v1), some (.int v2), some (.int v3)]) (S' := [.int (b2i (σ.2.2 83 v3.toNatClampNeg))]) (σ' := σ) 4 (inb_mk rfl hc4.1 hc4.2) (fun n h => h) ?_
      refine go_ifn (b := (σ.2.2 83 v3.toNatClampNeg)) (k1 := 31) (L1 := [some (.ref 66), some (.int v1), some (.int v2), some (.int v3)]) (S1 := []) (σ1 := σ) (k2 := 18) (L2 := [some (.ref 66), some (.int v1), some (.int v2), some (.int v3)]) (S2 := []) (σ2 := σ) 1 (fun n h => h) (fun hc5 => ?_) (fun hc5 => ?_)
      · rw [if_pos hc5] at h
        refine go_st (k' := 9) (L' := [some (.ref 66), some (.int v1), some (.int v2), some (.int (v3 + (1 : Int32)))]) (S' := []) (σ' := σ) 2 (fun n h => h) ?_
        exact ih v1 v2 (v3 + (1 : Int32)) σ h
      · rw [if_neg hc5] at h
        obtain ⟨x6, hx6, h⟩ := bind_of h
        refine go_call (r := some (.int x6.1)) (σc := σ) (σ1 := x6.2) (mi := 105) (vs := [.ref 66, .int v3, .int v3, .int (1 : Int32)]) (k' := 23) (L' := [some (.ref 66), some (.int v1), some (.int v2), some (.int v3)]) (S' := []) 5 (fun P9 h9 => c_M_sumOf (d + 0) v3 v3 (1 : Int32) σ hx6 h9) (fun n h => h) ?_
        refine go_if (c := x6.1 ≠ v1) (k1 := 31) (L1 := [some (.ref 66), some (.int v1), some (.int v2), some (.int v3)]) (S1 := []) (σ1 := x6.2) (k2 := 25) (L2 := [some (.ref 66), some (.int v1), some (.int v2), some (.int v3)]) (S2 := []) (σ2 := x6.2) 2 (fun n h => h) (fun hc7 => ?_) (fun hc7 => ?_)
        · rw [if_pos hc7] at h
          refine go_st (k' := 9) (L' := [some (.ref 66), some (.int v1), some (.int v2), some (.int (v3 + (1 : Int32)))]) (S' := []) (σ' := x6.2) 2 (fun n h => h) ?_
          exact ih v1 v2 (v3 + (1 : Int32)) x6.2 h
        · rw [if_neg hc7] at h
          obtain ⟨x8, hx8, h⟩ := bind_of h
          refine go_call (r := some (.int x8.1)) (σc := x6.2) (σ1 := x8.2) (mi := 329) (vs := [.ref 66, .int v3]) (k' := 29) (L' := [some (.ref 66), some (.int v1), some (.int v2), some (.int v3)]) (S' := [.int v2]) 4 (fun P9 h9 => hrec v3 x6.2 hx8 h9) (fun n h => h) ?_
          refine go_st (k' := 9) (L' := [some (.ref 66), some (.int v1), some (.int (imax v2 x8.1)), some (.int (v3 + (1 : Int32)))]) (S' := []) (σ' := x8.2) 4 (fun n h => h) ?_
          exact ih v1 (imax v2 x8.1) (v3 + (1 : Int32)) x8.2 h
def f_M_deepOf_body (N : Nat) (rec : Int32 → aSt → Option (Int32 × aSt)) (p0 : Int32) (σ : aSt) : Option (Int32 × aSt) :=
  (if 0 ≤ p0 ∧ p0 < (120 : Int32) then f_M_deepOf_l9 N rec N p0 (0 : Int32) (0 : Int32) (s_b σ 83 p0.toNatClampNeg true) else none)
set_option maxRecDepth 20000 in
set_option maxHeartbeats 4000000 in
theorem c_M_deepOf_body (d : Nat) {N : Nat} {rec : Int32 → aSt → Option (Int32 × aSt)} (hrec : ∀ (q : Int32) (σ : aSt) {x : Int32 × aSt} {P : Option Value → aSt → Prop}, rec q σ = some x → P (some (.int x.1)) x.2 → aCall MT (d + 4) 329 [.ref 66, .int q] σ P) (p0 : Int32) (σ : aSt) {P : Option Value → aSt → Prop} {x : (Int32 × aSt)} (h : f_M_deepOf_body N rec p0 σ = some x) (hp : P (some (.int x.1)) x.2) : aCall MT (d + 5) 329 [.ref 66, .int p0] σ P := by
  unfold f_M_deepOf_body at h
  refine call_of (code := mc_M_deepOf) (L := [some (.ref 66), some (.int p0), none, none]) rfl rfl rfl rfl ?_
  obtain ⟨hc1, h⟩ := ite_of h
  refine go_q2 (Q := inb 3 σ 83 p0) (Q2 := (1 : Int32) = 0 ∨ (1 : Int32) = 1) (k' := 5) (L' := [some (.ref 66), some (.int p0), none, none]) (S' := []) (σ' := (s_b σ 83 p0.toNatClampNeg true)) 5 (inb_mk rfl hc1.1 hc1.2) (Or.inr rfl) (fun n h => h) ?_
  refine go_st (k' := 9) (L' := [some (.ref 66), some (.int p0), some (.int (0 : Int32)), some (.int (0 : Int32))]) (S' := []) (σ' := (s_b σ 83 p0.toNatClampNeg true)) 4 (fun n h => h) ?_
  exact t_M_deepOf_l9 d hrec hp N p0 (0 : Int32) (0 : Int32) (s_b σ 83 p0.toNatClampNeg true) h
def f_M_deepOf (N : Nat) : Nat → Int32 → aSt → Option (Int32 × aSt)
  | 0, _, _ => none
  | D + 1, i, σ => f_M_deepOf_body N (f_M_deepOf N D) i σ
set_option maxRecDepth 20000 in
set_option maxHeartbeats 4000000 in
theorem c_M_deepOf {N : Nat} : ∀ (D d : Nat) (i : Int32) (σ : aSt) {P : Option Value → aSt → Prop} {x : Int32 × aSt}, f_M_deepOf N D i σ = some x → P (some (.int x.1)) x.2 → aCall MT (d + 4 + D) 329 [.ref 66, .int i] σ P
  | 0, d, i, σ, P, x, h, hp => by cases h
  | D + 1, d, i, σ, P, x, h, hp => by
    rw [f_M_deepOf] at h
    have := c_M_deepOf_body (d + D) (N := N) (rec := f_M_deepOf N D) (fun q σ' x' P' h' hp' => by
      have := c_M_deepOf D d q σ' h' hp'
      rwa [Nat.add_right_comm] at this) i σ h hp
    rwa [show d + 4 + (D + 1) = d + D + 5 by omega]
def f_M_deep_l8 (N : Nat) : Nat → Int32 → Int32 → aSt → Option (Int32 × aSt)
  | 0, _, _, _ => none
  | n + 1, v1, v2, σ => (if (120 : Int32) ≤ v2 then ((f_M_deepOf N 121 v1 σ).bind fun x3 => some (x3.1, x3.2)) else (if 0 ≤ v2 ∧ v2 < (120 : Int32) then f_M_deep_l8 N n v1 (v2 + (1 : Int32)) (s_b σ 83 v2.toNatClampNeg false) else none))
set_option maxRecDepth 20000 in
set_option maxHeartbeats 4000000 in
theorem t_M_deep_l8 (d : Nat) {N : Nat} {x : (Int32 × aSt)} {P : Option Value → aSt → Prop} (hp : P (some (.int x.1)) x.2) : ∀ (n : Nat) (v1 : Int32) (v2 : Int32) (σ : aSt), f_M_deep_l8 N n v1 v2 σ = some x → aGo (aCall MT (d + 125)) P mc_M_deep 8 [some (.ref 66), some (.int v1), some (.int v2)] [] σ := by
  intro n
  induction n with
  | zero => intro v1 v2 σ h; cases h
  | succ n ih =>
    intro v1 v2 σ h
    rw [f_M_deep_l8] at h
    refine go_if (c := (120 : Int32) ≤ v2) (k1 := 18) (L1 := [some (.ref 66), some (.int v1), some (.int v2)]) (S1 := []) (σ1 := σ) (k2 := 11) (L2 := [some (.ref 66), some (.int v1), some (.int v2)]) (S2 := []) (σ2 := σ) 3 (fun n h => h) (fun hc2 => ?_) (fun hc2 => ?_)
    · rw [if_pos hc2] at h
      obtain ⟨x3, hx3, h⟩ := bind_of h
      refine go_call (r := some (.int x3.1)) (σc := σ) (σ1 := x3.2) (mi := 329) (vs := [.ref 66, .int v1]) (k' := 21) (L' := [some (.ref 66), some (.int v1), some (.int v2)]) (S' := []) 3 (fun P9 h9 => c_M_deepOf 121 (d + 0) v1 σ hx3 h9) (fun n h => h) ?_
      cases h
      exact go_ret 1 (fun _ => hp)
    · rw [if_neg hc2] at h
      obtain ⟨hc4, h⟩ := ite_of h
      refine go_q2 (Q := inb 3 σ 83 v2) (Q2 := (0 : Int32) = 0 ∨ (0 : Int32) = 1) (k' := 16) (L' := [some (.ref 66), some (.int v1), some (.int v2)]) (S' := []) (σ' := (s_b σ 83 v2.toNatClampNeg false)) 5 (inb_mk rfl hc4.1 hc4.2) (Or.inl rfl) (fun n h => h) ?_
      refine go_st (k' := 8) (L' := [some (.ref 66), some (.int v1), some (.int (v2 + (1 : Int32)))]) (S' := []) (σ' := (s_b σ 83 v2.toNatClampNeg false)) 2 (fun n h => h) ?_
      exact ih v1 (v2 + (1 : Int32)) (s_b σ 83 v2.toNatClampNeg false) h
def f_M_deep (N : Nat) (p0 : Int32) (σ : aSt) : Option (Int32 × aSt) :=
  (if (f_M_isListed p0 σ) = true then f_M_deep_l8 N N p0 (0 : Int32) σ else some ((-2 : Int32), σ))
set_option maxRecDepth 20000 in
set_option maxHeartbeats 4000000 in
theorem c_M_deep (d : Nat) {N : Nat} (p0 : Int32) (σ : aSt) {P : Option Value → aSt → Prop} {x : (Int32 × aSt)} (h : f_M_deep N p0 σ = some x) (hp : P (some (.int x.1)) x.2) : aCall MT (d + 126) 330 [.ref 66, .int p0] σ P := by
  unfold f_M_deep at h
  refine call_of (code := mc_M_deep) (L := [some (.ref 66), some (.int p0), none]) rfl rfl rfl rfl ?_
  refine go_call (r := some (.int (b2i (f_M_isListed p0 σ)))) (σc := σ) (σ1 := σ) (mi := 79) (vs := [.ref 66, .int p0]) (k' := 3) (L' := [some (.ref 66), some (.int p0), none]) (S' := []) 3 (fun P9 h9 => c_M_isListed (d + 123) p0 σ h9) (fun n h => h) ?_
  refine go_ifn (b := (f_M_isListed p0 σ)) (k1 := 6) (L1 := [some (.ref 66), some (.int p0), none]) (S1 := []) (σ1 := σ) (k2 := 4) (L2 := [some (.ref 66), some (.int p0), none]) (S2 := []) (σ2 := σ) 1 (fun n h => h) (fun hc1 => ?_) (fun hc1 => ?_)
  · rw [if_pos hc1] at h
    refine go_st (k' := 8) (L' := [some (.ref 66), some (.int p0), some (.int (0 : Int32))]) (S' := []) (σ' := σ) 2 (fun n h => h) ?_
    exact t_M_deep_l8 d hp N p0 (0 : Int32) σ h
  · rw [if_neg hc1] at h
    cases h
    exact go_ret 2 (fun _ => hp)
