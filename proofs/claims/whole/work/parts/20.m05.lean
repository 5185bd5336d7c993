def f_X_part (p0 : Int32) (σ : aSt) : Int32 :=
  (if (f_X_isPoint p0 σ) = true then (if p0 = (1000 : Int32) then (0 : Int32) else (if 0 ≤ (f_X_besideB σ) then (if 0 ≤ (f_PointList_b_11 σ) then (if (f_PointList_a_11 σ) ≤ 0 then (if (((-(f_PointList_a_11 σ)) * (f_PointList_e_11 p0 σ)) * (f_PointList_e_11 p0 σ)) ≤ ((2 : Int32) * (f_PointList_m_11 p0 σ)) then (0 : Int32) else (1 : Int32)) else (if 0 ≤ (f_PointList_m_11 p0 σ) then (0 : Int32) else (1 : Int32))) else (if 0 < (f_PointList_m_11 p0 σ) then (0 : Int32) else (1 : Int32))) else (0 : Int32))) else (-2 : Int32))
set_option maxRecDepth 20000 in
set_option maxHeartbeats 4000000 in
theorem c_X_part (d : Nat) (p0 : Int32) (σ : aSt) {P : Option Value → aSt → Prop} (h : P (some (.int ((f_X_part p0 σ)))) σ) : aCall MT (d + 4) 277 [.ref 0, .int p0] σ P := by
  unfold f_X_part at h
  refine call_of (code := mc_X_part) (L := [some (.ref 0), some (.int p0), none]) rfl rfl rfl rfl ?_
  refine go_call (r := some (.int (b2i (f_X_isPoint p0 σ)))) (σc := σ) (σ1 := σ) (mi := 85) (vs := [.ref 0, .int p0]) (k' := 3) (L' := [some (.ref 0), some (.int p0), none]) (S' := []) 3 (fun P9 h9 => c_X_isPoint (d + 0) p0 σ h9) (fun n h => h) ?_
  refine go_ifn (b := (f_X_isPoint p0 σ)) (k1 := 6) (L1 := [some (.ref 0), some (.int p0), none]) (S1 := []) (σ1 := σ) (k2 := 4) (L2 := [some (.ref 0), some (.int p0), none]) (S2 := []) (σ2 := σ) 1 (fun n h => h) (fun hc1 => ?_) (fun hc1 => ?_)
  · rw [if_pos hc1] at h
    refine go_if (c := p0 = (1000 : Int32)) (k1 := 12) (L1 := [some (.ref 0), some (.int p0), none]) (S1 := []) (σ1 := σ) (k2 := 9) (L2 := [some (.ref 0), some (.int p0), none]) (S2 := []) (σ2 := σ) 3 (fun n h => h) (fun hc2 => ?_) (fun hc2 => ?_)
    · rw [if_pos hc2] at h
      exact go_ret 2 (fun _ => h)
    · rw [if_neg hc2] at h
      refine go_call (r := some (.int (f_X_besideB σ))) (σc := σ) (σ1 := σ) (mi := 138) (vs := [.ref 0]) (k' := 11) (L' := [some (.ref 0), some (.int p0), none]) (S' := []) 2 (fun P9 h9 => c_X_besideB (d + 1) σ h9) (fun n h => h) ?_
      refine go_if (c := 0 ≤ (f_X_besideB σ)) (k1 := 14) (L1 := [some (.ref 0), some (.int p0), none]) (S1 := []) (σ1 := σ) (k2 := 12) (L2 := [some (.ref 0), some (.int p0), none]) (S2 := []) (σ2 := σ) 1 (fun n h => h) (fun hc3 => ?_) (fun hc3 => ?_)
      · rw [if_pos hc3] at h
        refine go_call (r := some (.int (f_PointList_m_11 p0 σ))) (σc := σ) (σ1 := σ) (mi := 74) (vs := [.ref 11, .int p0]) (k' := 18) (L' := [some (.ref 0), some (.int p0), none]) (S' := []) 4 (fun P9 h9 => c_PointList_m_11 (d + 2) p0 σ h9) (fun n h => h) ?_
        refine go_call (r := some (.int (f_PointList_b_11 σ))) (σc := σ) (σ1 := σ) (mi := 27) (vs := [.ref 11]) (k' := 22) (L' := [some (.ref 0), some (.int p0), some (.int (f_PointList_m_11 p0 σ))]) (S' := []) 4 (fun P9 h9 => c_PointList_b_11 (d + 2) σ h9) (fun n h => h) ?_
        refine go_if (c := 0 ≤ (f_PointList_b_11 σ)) (k1 := 29) (L1 := [some (.ref 0), some (.int p0), some (.int (f_PointList_m_11 p0 σ))]) (S1 := []) (σ1 := σ) (k2 := 23) (L2 := [some (.ref 0), some (.int p0), some (.int (f_PointList_m_11 p0 σ))]) (S2 := []) (σ2 := σ) 1 (fun n h => h) (fun hc4 => ?_) (fun hc4 => ?_)
        · rw [if_pos hc4] at h
          refine go_call (r := some (.int (f_PointList_a_11 σ))) (σc := σ) (σ1 := σ) (mi := 26) (vs := [.ref 11]) (k' := 32) (L' := [some (.ref 0), some (.int p0), some (.int (f_PointList_m_11 p0 σ))]) (S' := []) 3 (fun P9 h9 => c_PointList_a_11 (d + 2) σ h9) (fun n h => h) ?_
          refine go_if (c := (f_PointList_a_11 σ) ≤ 0) (k1 := 39) (L1 := [some (.ref 0), some (.int p0), some (.int (f_PointList_m_11 p0 σ))]) (S1 := []) (σ1 := σ) (k2 := 33) (L2 := [some (.ref 0), some (.int p0), some (.int (f_PointList_m_11 p0 σ))]) (S2 := []) (σ2 := σ) 1 (fun n h => h) (fun hc5 => ?_) (fun hc5 => ?_)
          · rw [if_pos hc5] at h
            refine go_call (r := some (.int (f_PointList_a_11 σ))) (σc := σ) (σ1 := σ) (mi := 26) (vs := [.ref 11]) (k' := 45) (L' := [some (.ref 0), some (.int p0), some (.int (f_PointList_m_11 p0 σ))]) (S' := [.int ((2 : Int32) * (f_PointList_m_11 p0 σ))]) 6 (fun P9 h9 => c_PointList_a_11 (d + 2) σ h9) (fun n h => h) ?_
            refine go_call (r := some (.int (f_PointList_e_11 p0 σ))) (σc := σ) (σ1 := σ) (mi := 76) (vs := [.ref 11, .int p0]) (k' := 50) (L' := [some (.ref 0), some (.int p0), some (.int (f_PointList_m_11 p0 σ))]) (S' := [.int (-(f_PointList_a_11 σ)), .int ((2 : Int32) * (f_PointList_m_11 p0 σ))]) 5 (fun P9 h9 => c_PointList_e_11 (d + 2) p0 σ h9) (fun n h => h) ?_
            refine go_call (r := some (.int (f_PointList_e_11 p0 σ))) (σc := σ) (σ1 := σ) (mi := 76) (vs := [.ref 11, .int p0]) (k' := 55) (L' := [some (.ref 0), some (.int p0), some (.int (f_PointList_m_11 p0 σ))]) (S' := [.int ((-(f_PointList_a_11 σ)) * (f_PointList_e_11 p0 σ)), .int ((2 : Int32) * (f_PointList_m_11 p0 σ))]) 5 (fun P9 h9 => c_PointList_e_11 (d + 2) p0 σ h9) (fun n h => h) ?_
            refine go_if (c := (((-(f_PointList_a_11 σ)) * (f_PointList_e_11 p0 σ)) * (f_PointList_e_11 p0 σ)) ≤ ((2 : Int32) * (f_PointList_m_11 p0 σ))) (k1 := 59) (L1 := [some (.ref 0), some (.int p0), some (.int (f_PointList_m_11 p0 σ))]) (S1 := []) (σ1 := σ) (k2 := 57) (L2 := [some (.ref 0), some (.int p0), some (.int (f_PointList_m_11 p0 σ))]) (S2 := []) (σ2 := σ) 2 (fun n h => h) (fun hc6 => ?_) (fun hc6 => ?_)
            · rw [if_pos hc6] at h
              exact go_ret 2 (fun _ => h)
            · rw [if_neg hc6] at h
              exact go_ret 3 (fun _ => h)
          · rw [if_neg hc5] at h
            refine go_if (c := 0 ≤ (f_PointList_m_11 p0 σ)) (k1 := 37) (L1 := [some (.ref 0), some (.int p0), some (.int (f_PointList_m_11 p0 σ))]) (S1 := []) (σ1 := σ) (k2 := 35) (L2 := [some (.ref 0), some (.int p0), some (.int (f_PointList_m_11 p0 σ))]) (S2 := []) (σ2 := σ) 2 (fun n h => h) (fun hc7 => ?_) (fun hc7 => ?_)
            · rw [if_pos hc7] at h
              exact go_ret 2 (fun _ => h)
            · rw [if_neg hc7] at h
              exact go_ret 3 (fun _ => h)
        · rw [if_neg hc4] at h
          refine go_if (c := 0 < (f_PointList_m_11 p0 σ)) (k1 := 27) (L1 := [some (.ref 0), some (.int p0), some (.int (f_PointList_m_11 p0 σ))]) (S1 := []) (σ1 := σ) (k2 := 25) (L2 := [some (.ref 0), some (.int p0), some (.int (f_PointList_m_11 p0 σ))]) (S2 := []) (σ2 := σ) 2 (fun n h => h) (fun hc8 => ?_) (fun hc8 => ?_)
          · rw [if_pos hc8] at h
            exact go_ret 2 (fun _ => h)
          · rw [if_neg hc8] at h
            exact go_ret 3 (fun _ => h)
      · rw [if_neg hc3] at h
        exact go_ret 2 (fun _ => h)
  · rw [if_neg hc1] at h
    exact go_ret 2 (fun _ => h)
def f_ClassTable_firstRoot_41 (N : Nat) (p0 : Int32) (σ : aSt) : Option Int64 :=
  ((f_Whole_rootOf N (f_ClassTable_valueAt_41 (f_ClassTable_divisor_41 p0 σ).toInt64 (f_Whole_quotient (σ.1 41 9).toInt64 (f_ClassTable_divisor_41 p0 σ).toInt64) ((f_ClassTable_firstM_41 p0 σ).toInt64 * (f_ClassTable_firstM_41 p0 σ).toInt64) ((f_ClassTable_firstE_41 p0 σ).toInt64 * (f_ClassTable_firstE_41 p0 σ).toInt64) σ)).bind fun x1 => some x1)
set_option maxRecDepth 20000 in
set_option maxHeartbeats 4000000 in
theorem c_ClassTable_firstRoot_41 (d : Nat) {N : Nat} (p0 : Int32) (σ : aSt) {P : Option Value → aSt → Prop} {x : Int64} (h : f_ClassTable_firstRoot_41 N p0 σ = some x) (hp : P (some (.long x)) σ) : aCall MT (d + 4) 279 [.ref 41, .int p0] σ P := by
  unfold f_ClassTable_firstRoot_41 at h
  refine call_of (code := mc_ClassTable_firstRoot) (L := [some (.ref 41), some (.int p0), none, none, none, none, none, none, none]) rfl rfl rfl rfl ?_
  refine go_call (r := some (.int (f_ClassTable_divisor_41 p0 σ))) (σc := σ) (σ1 := σ) (mi := 168) (vs := [.ref 41, .int p0]) (k' := 3) (L' := [some (.ref 41), some (.int p0), none, none, none, none, none, none, none]) (S' := []) 3 (fun P9 h9 => c_ClassTable_divisor_41 (d + 1) p0 σ h9) (fun n h => h) ?_
  refine go_call (r := some (.long (f_Whole_quotient (σ.1 41 9).toInt64 (f_ClassTable_divisor_41 p0 σ).toInt64))) (σc := σ) (σ1 := σ) (mi := 97) (vs := [.long (σ.1 41 9).toInt64, .long (f_ClassTable_divisor_41 p0 σ).toInt64]) (k' := 10) (L' := [some (.ref 41), some (.int p0), some (.int (f_ClassTable_divisor_41 p0 σ)), none, none, none, none, none, none]) (S' := []) 7 (fun P9 h9 => c_Whole_quotient (d + 2) (σ.1 41 9).toInt64 (f_ClassTable_divisor_41 p0 σ).toInt64 σ h9) (fun n h => h) ?_
  refine go_call (r := some (.int (f_ClassTable_firstM_41 p0 σ))) (σc := σ) (σ1 := σ) (mi := 195) (vs := [.ref 41, .int p0]) (k' := 14) (L' := [some (.ref 41), some (.int p0), some (.int (f_ClassTable_divisor_41 p0 σ)), some (.long (f_Whole_quotient (σ.1 41 9).toInt64 (f_ClassTable_divisor_41 p0 σ).toInt64)), none, none, none, none, none]) (S' := []) 4 (fun P9 h9 => c_ClassTable_firstM_41 (d + 1) p0 σ h9) (fun n h => h) ?_
  refine go_call (r := some (.int (f_ClassTable_firstE_41 p0 σ))) (σc := σ) (σ1 := σ) (mi := 196) (vs := [.ref 41, .int p0]) (k' := 19) (L' := [some (.ref 41), some (.int p0), some (.int (f_ClassTable_divisor_41 p0 σ)), some (.long (f_Whole_quotient (σ.1 41 9).toInt64 (f_ClassTable_divisor_41 p0 σ).toInt64)), none, some (.long (f_ClassTable_firstM_41 p0 σ).toInt64), none, none, none]) (S' := []) 5 (fun P9 h9 => c_ClassTable_firstE_41 (d + 1) p0 σ h9) (fun n h => h) ?_
  refine go_call (r := some (.long (f_ClassTable_valueAt_41 (f_ClassTable_divisor_41 p0 σ).toInt64 (f_Whole_quotient (σ.1 41 9).toInt64 (f_ClassTable_divisor_41 p0 σ).toInt64) ((f_ClassTable_firstM_41 p0 σ).toInt64 * (f_ClassTable_firstM_41 p0 σ).toInt64) ((f_ClassTable_firstE_41 p0 σ).toInt64 * (f_ClassTable_firstE_41 p0 σ).toInt64) σ))) (σc := σ) (σ1 := σ) (mi := 169) (vs := [.ref 41, .long (f_ClassTable_divisor_41 p0 σ).toInt64, .long (f_Whole_quotient (σ.1 41 9).toInt64 (f_ClassTable_divisor_41 p0 σ).toInt64), .long ((f_ClassTable_firstM_41 p0 σ).toInt64 * (f_ClassTable_firstM_41 p0 σ).toInt64), .long ((f_ClassTable_firstE_41 p0 σ).toInt64 * (f_ClassTable_firstE_41 p0 σ).toInt64)]) (k' := 32) (L' := [some (.ref 41), some (.int p0), some (.int (f_ClassTable_divisor_41 p0 σ)), some (.long (f_Whole_quotient (σ.1 41 9).toInt64 (f_ClassTable_divisor_41 p0 σ).toInt64)), none, some (.long (f_ClassTable_firstM_41 p0 σ).toInt64), none, some (.long (f_ClassTable_firstE_41 p0 σ).toInt64), none]) (S' := []) 13 (fun P9 h9 => c_ClassTable_valueAt_41 (d + 2) (f_ClassTable_divisor_41 p0 σ).toInt64 (f_Whole_quotient (σ.1 41 9).toInt64 (f_ClassTable_divisor_41 p0 σ).toInt64) ((f_ClassTable_firstM_41 p0 σ).toInt64 * (f_ClassTable_firstM_41 p0 σ).toInt64) ((f_ClassTable_firstE_41 p0 σ).toInt64 * (f_ClassTable_firstE_41 p0 σ).toInt64) σ h9) (fun n h => h) ?_
  obtain ⟨x1, hx1, h⟩ := bind_of h
  refine go_call (r := some (.long x1)) (σc := σ) (σ1 := σ) (mi := 37) (vs := [.long (f_ClassTable_valueAt_41 (f_ClassTable_divisor_41 p0 σ).toInt64 (f_Whole_quotient (σ.1 41 9).toInt64 (f_ClassTable_divisor_41 p0 σ).toInt64) ((f_ClassTable_firstM_41 p0 σ).toInt64 * (f_ClassTable_firstM_41 p0 σ).toInt64) ((f_ClassTable_firstE_41 p0 σ).toInt64 * (f_ClassTable_firstE_41 p0 σ).toInt64) σ)]) (k' := 33) (L' := [some (.ref 41), some (.int p0), some (.int (f_ClassTable_divisor_41 p0 σ)), some (.long (f_Whole_quotient (σ.1 41 9).toInt64 (f_ClassTable_divisor_41 p0 σ).toInt64)), none, some (.long (f_ClassTable_firstM_41 p0 σ).toInt64), none, some (.long (f_ClassTable_firstE_41 p0 σ).toInt64), none]) (S' := []) 1 (fun P9 h9 => c_Whole_rootOf (d + 0) (f_ClassTable_valueAt_41 (f_ClassTable_divisor_41 p0 σ).toInt64 (f_Whole_quotient (σ.1 41 9).toInt64 (f_ClassTable_divisor_41 p0 σ).toInt64) ((f_ClassTable_firstM_41 p0 σ).toInt64 * (f_ClassTable_firstM_41 p0 σ).toInt64) ((f_ClassTable_firstE_41 p0 σ).toInt64 * (f_ClassTable_firstE_41 p0 σ).toInt64) σ) σ hx1 h9) (fun n h => h) ?_
  cases h
  exact go_ret 1 (fun _ => hp)
def f_X_shows (N : Nat) (p0 : Int32) (σ : aSt) : Option (Int32 × aSt) :=
  (if (σ.2.2 0 13) = true then (if p0 < 0 then some ((-2 : Int32), σ) else ((f_X_side_c0 N σ).bind fun x3 => (if p0 < (f_ClassTable_size_41 x3) then ((f_X_side_c0 N x3).bind fun x5 => (if (f_ClassTable_isFound_41 p0 x5) = true then (if (f_ClassTable_firstE_41 p0 x5).toInt64 ≠ (0 : Int64) then ((f_Whole_gcd N (((f_ClassTable_divisor_41 p0 x5).toInt64 * (f_ClassTable_firstM_41 p0 x5).toInt64) * (f_ClassTable_firstM_41 p0 x5).toInt64) ((f_ClassTable_firstE_41 p0 x5).toInt64 * (f_ClassTable_firstE_41 p0 x5).toInt64)).bind fun x8 => ((f_Whole_rootOf N (f_Whole_quotient ((f_ClassTable_firstE_41 p0 x5).toInt64 * (f_ClassTable_firstE_41 p0 x5).toInt64) x8)).bind fun x9 => (if (1 : Int64) ≤ x9 then ((f_ClassTable_firstRoot_41 N p0 x5).bind fun x11 => ((f_PointList_find_11 N (f_Whole_quotient (((f_ClassTable_divisor_41 p0 x5).toInt64 * (f_ClassTable_firstM_41 p0 x5).toInt64) * (f_ClassTable_firstM_41 p0 x5).toInt64) x8) (f_Whole_quotient ((((((f_ClassTable_divisor_41 p0 x5).toInt64 * (f_ClassTable_firstM_41 p0 x5).toInt64) * x11) * x9) * x9) * x9) (((f_ClassTable_firstE_41 p0 x5).toInt64 * (f_ClassTable_firstE_41 p0 x5).toInt64) * (f_ClassTable_firstE_41 p0 x5).toInt64)) x9 x5).bind fun x12 => some ((f_Sums_shownOnly x12 x5), x5))) else some ((-6 : Int32), x5)))) else some ((1000 : Int32), x5)) else some ((-1 : Int32), x5))) else some ((-2 : Int32), x3)))) else some ((-2 : Int32), σ))
set_option maxRecDepth 20000 in
set_option maxHeartbeats 4000000 in
theorem c_X_shows (d : Nat) {N : Nat} (p0 : Int32) (σ : aSt) {P : Option Value → aSt → Prop} {x : (Int32 × aSt)} (h : f_X_shows N p0 σ = some x) (hp : P (some (.int x.1)) x.2) : aCall MT (d + 8) 280 [.ref 0, .int p0] σ P := by
  unfold f_X_shows at h
  refine call_of (code := mc_X_shows) (L := [some (.ref 0), some (.int p0), none, none, none, none, none, none, none, none, none, none, none, none, none, none, none]) rfl rfl rfl rfl ?_
  refine go_ifz (b := (σ.2.2 0 13)) (k1 := 11) (L1 := [some (.ref 0), some (.int p0), none, none, none, none, none, none, none, none, none, none, none, none, none, none, none]) (S1 := []) (σ1 := σ) (k2 := 3) (L2 := [some (.ref 0), some (.int p0), none, none, none, none, none, none, none, none, none, none, none, none, none, none, none]) (S2 := []) (σ2 := σ) 3 (fun n h => h) (fun hc1 => ?_) (fun hc1 => ?_)
  · rw [if_neg hc1] at h
    cases h
    exact go_ret 2 (fun _ => hp)
  · rw [if_pos hc1] at h
    refine go_if (c := p0 < 0) (k1 := 11) (L1 := [some (.ref 0), some (.int p0), none, none, none, none, none, none, none, none, none, none, none, none, none, none, none]) (S1 := []) (σ1 := σ) (k2 := 5) (L2 := [some (.ref 0), some (.int p0), none, none, none, none, none, none, none, none, none, none, none, none, none, none, none]) (S2 := []) (σ2 := σ) 2 (fun n h => h) (fun hc2 => ?_) (fun hc2 => ?_)
    · rw [if_pos hc2] at h
      cases h
      exact go_ret 2 (fun _ => hp)
    · rw [if_neg hc2] at h
      obtain ⟨x3, hx3, h⟩ := bind_of h
      refine go_call (r := some (.ref 41)) (σc := σ) (σ1 := x3) (mi := 179) (vs := [.ref 0, .int (0 : Int32)]) (k' := 9) (L' := [some (.ref 0), some (.int p0), none, none, none, none, none, none, none, none, none, none, none, none, none, none, none]) (S' := [.int p0]) 4 (fun P9 h9 => c_X_side_c0 (d + 0) σ hx3 h9) (fun n h => h) ?_
      refine go_call (r := some (.int (f_ClassTable_size_41 x3))) (σc := x3) (σ1 := x3) (mi := 167) (vs := [.ref 41]) (k' := 10) (L' := [some (.ref 0), some (.int p0), none, none, none, none, none, none, none, none, none, none, none, none, none, none, none]) (S' := [.int p0]) 1 (fun P9 h9 => c_ClassTable_size_41 (d + 6) x3 h9) (fun n h => h) ?_
      refine go_if (c := p0 < (f_ClassTable_size_41 x3)) (k1 := 13) (L1 := [some (.ref 0), some (.int p0), none, none, none, none, none, none, none, none, none, none, none, none, none, none, none]) (S1 := []) (σ1 := x3) (k2 := 11) (L2 := [some (.ref 0), some (.int p0), none, none, none, none, none, none, none, none, none, none, none, none, none, none, none]) (S2 := []) (σ2 := x3) 1 (fun n h => h) (fun hc4 => ?_) (fun hc4 => ?_)
      · rw [if_pos hc4] at h
        obtain ⟨x5, hx5, h⟩ := bind_of h
        refine go_call (r := some (.ref 41)) (σc := x3) (σ1 := x5) (mi := 179) (vs := [.ref 0, .int (0 : Int32)]) (k' := 16) (L' := [some (.ref 0), some (.int p0), none, none, none, none, none, none, none, none, none, none, none, none, none, none, none]) (S' := []) 3 (fun P9 h9 => c_X_side_c0 (d + 0) x3 hx5 h9) (fun n h => h) ?_
        refine go_call (r := some (.int (b2i (f_ClassTable_isFound_41 p0 x5)))) (σc := x5) (σ1 := x5) (mi := 174) (vs := [.ref 41, .int p0]) (k' := 20) (L' := [some (.ref 0), some (.int p0), some (.ref 41), none, none, none, none, none, none, none, none, none, none, none, none, none, none]) (S' := []) 4 (fun P9 h9 => c_ClassTable_isFound_41 (d + 5) p0 x5 h9) (fun n h => h) ?_
        refine go_ifn (b := (f_ClassTable_isFound_41 p0 x5)) (k1 := 23) (L1 := [some (.ref 0), some (.int p0), some (.ref 41), none, none, none, none, none, none, none, none, none, none, none, none, none, none]) (S1 := []) (σ1 := x5) (k2 := 21) (L2 := [some (.ref 0), some (.int p0), some (.ref 41), none, none, none, none, none, none, none, none, none, none, none, none, none, none]) (S2 := []) (σ2 := x5) 1 (fun n h => h) (fun hc6 => ?_) (fun hc6 => ?_)
        · rw [if_pos hc6] at h
          refine go_call (r := some (.int (f_ClassTable_firstE_41 p0 x5))) (σc := x5) (σ1 := x5) (mi := 196) (vs := [.ref 41, .int p0]) (k' := 26) (L' := [some (.ref 0), some (.int p0), some (.ref 41), none, none, none, none, none, none, none, none, none, none, none, none, none, none]) (S' := []) 3 (fun P9 h9 => c_ClassTable_firstE_41 (d + 5) p0 x5 h9) (fun n h => h) ?_
          refine go_iff (lcmp_ne (f_ClassTable_firstE_41 p0 x5).toInt64 (0 : Int64)) (k1 := 34) (L1 := [some (.ref 0), some (.int p0), some (.ref 41), some (.long (f_ClassTable_firstE_41 p0 x5).toInt64), none, none, none, none, none, none, none, none, none, none, none, none, none]) (S1 := []) (σ1 := x5) (k2 := 32) (L2 := [some (.ref 0), some (.int p0), some (.ref 41), some (.long (f_ClassTable_firstE_41 p0 x5).toInt64), none, none, none, none, none, none, none, none, none, none, none, none, none]) (S2 := []) (σ2 := x5) 6 (fun n h => h) (fun hc7 => ?_) (fun hc7 => ?_)
          · rw [if_pos hc7] at h
            refine go_call (r := some (.int (f_ClassTable_divisor_41 p0 x5))) (σc := x5) (σ1 := x5) (mi := 168) (vs := [.ref 41, .int p0]) (k' := 37) (L' := [some (.ref 0), some (.int p0), some (.ref 41), some (.long (f_ClassTable_firstE_41 p0 x5).toInt64), none, none, none, none, none, none, none, none, none, none, none, none, none]) (S' := []) 3 (fun P9 h9 => c_ClassTable_divisor_41 (d + 5) p0 x5 h9) (fun n h => h) ?_
            refine go_call (r := some (.int (f_ClassTable_firstM_41 p0 x5))) (σc := x5) (σ1 := x5) (mi := 195) (vs := [.ref 41, .int p0]) (k' := 42) (L' := [some (.ref 0), some (.int p0), some (.ref 41), some (.long (f_ClassTable_firstE_41 p0 x5).toInt64), none, some (.long (f_ClassTable_divisor_41 p0 x5).toInt64), none, none, none, none, none, none, none, none, none, none, none]) (S' := []) 5 (fun P9 h9 => c_ClassTable_firstM_41 (d + 5) p0 x5 h9) (fun n h => h) ?_
            obtain ⟨x8, hx8, h⟩ := bind_of h
            refine go_call (r := some (.long x8)) (σc := x5) (σ1 := x5) (mi := 38) (vs := [.long (((f_ClassTable_divisor_41 p0 x5).toInt64 * (f_ClassTable_firstM_41 p0 x5).toInt64) * (f_ClassTable_firstM_41 p0 x5).toInt64), .long ((f_ClassTable_firstE_41 p0 x5).toInt64 * (f_ClassTable_firstE_41 p0 x5).toInt64)]) (k' := 53) (L' := [some (.ref 0), some (.int p0), some (.ref 41), some (.long (f_ClassTable_firstE_41 p0 x5).toInt64), none, some (.long (f_ClassTable_divisor_41 p0 x5).toInt64), none, some (.long (f_ClassTable_firstM_41 p0 x5).toInt64), none, none, none, none, none, none, none, none, none]) (S' := []) 11 (fun P9 h9 => c_Whole_gcd (d + 6) (((f_ClassTable_divisor_41 p0 x5).toInt64 * (f_ClassTable_firstM_41 p0 x5).toInt64) * (f_ClassTable_firstM_41 p0 x5).toInt64) ((f_ClassTable_firstE_41 p0 x5).toInt64 * (f_ClassTable_firstE_41 p0 x5).toInt64) x5 hx8 h9) (fun n h => h) ?_
            refine go_call (r := some (.long (f_Whole_quotient ((f_ClassTable_firstE_41 p0 x5).toInt64 * (f_ClassTable_firstE_41 p0 x5).toInt64) x8))) (σc := x5) (σ1 := x5) (mi := 97) (vs := [.long ((f_ClassTable_firstE_41 p0 x5).toInt64 * (f_ClassTable_firstE_41 p0 x5).toInt64), .long x8]) (k' := 59) (L' := [some (.ref 0), some (.int p0), some (.ref 41), some (.long (f_ClassTable_firstE_41 p0 x5).toInt64), none, some (.long (f_ClassTable_divisor_41 p0 x5).toInt64), none, some (.long (f_ClassTable_firstM_41 p0 x5).toInt64), none, some (.long x8), none, none, none, none, none, none, none]) (S' := []) 6 (fun P9 h9 => c_Whole_quotient (d + 6) ((f_ClassTable_firstE_41 p0 x5).toInt64 * (f_ClassTable_firstE_41 p0 x5).toInt64) x8 x5 h9) (fun n h => h) ?_
            obtain ⟨x9, hx9, h⟩ := bind_of h
            refine go_call (r := some (.long x9)) (σc := x5) (σ1 := x5) (mi := 37) (vs := [.long (f_Whole_quotient ((f_ClassTable_firstE_41 p0 x5).toInt64 * (f_ClassTable_firstE_41 p0 x5).toInt64) x8)]) (k' := 60) (L' := [some (.ref 0), some (.int p0), some (.ref 41), some (.long (f_ClassTable_firstE_41 p0 x5).toInt64), none, some (.long (f_ClassTable_divisor_41 p0 x5).toInt64), none, some (.long (f_ClassTable_firstM_41 p0 x5).toInt64), none, some (.long x8), none, none, none, none, none, none, none]) (S' := []) 1 (fun P9 h9 => c_Whole_rootOf (d + 4) (f_Whole_quotient ((f_ClassTable_firstE_41 p0 x5).toInt64 * (f_ClassTable_firstE_41 p0 x5).toInt64) x8) x5 hx9 h9) (fun n h => h) ?_
            refine go_iff (lcmp_ge x9 (1 : Int64)) (k1 := 67) (L1 := [some (.ref 0), some (.int p0), some (.ref 41), some (.long (f_ClassTable_firstE_41 p0 x5).toInt64), none, some (.long (f_ClassTable_divisor_41 p0 x5).toInt64), none, some (.long (f_ClassTable_firstM_41 p0 x5).toInt64), none, some (.long x8), none, some (.long x9), none, none, none, none, none]) (S1 := []) (σ1 := x5) (k2 := 65) (L2 := [some (.ref 0), some (.int p0), some (.ref 41), some (.long (f_ClassTable_firstE_41 p0 x5).toInt64), none, some (.long (f_ClassTable_divisor_41 p0 x5).toInt64), none, some (.long (f_ClassTable_firstM_41 p0 x5).toInt64), none, some (.long x8), none, some (.long x9), none, none, none, none, none]) (S2 := []) (σ2 := x5) 5 (fun n h => h) (fun hc10 => ?_) (fun hc10 => ?_)
            · rw [if_pos hc10] at h
              refine go_call (r := some (.long (f_Whole_quotient (((f_ClassTable_divisor_41 p0 x5).toInt64 * (f_ClassTable_firstM_41 p0 x5).toInt64) * (f_ClassTable_firstM_41 p0 x5).toInt64) x8))) (σc := x5) (σ1 := x5) (mi := 97) (vs := [.long (((f_ClassTable_divisor_41 p0 x5).toInt64 * (f_ClassTable_firstM_41 p0 x5).toInt64) * (f_ClassTable_firstM_41 p0 x5).toInt64), .long x8]) (k' := 74) (L' := [some (.ref 0), some (.int p0), some (.ref 41), some (.long (f_ClassTable_firstE_41 p0 x5).toInt64), none, some (.long (f_ClassTable_divisor_41 p0 x5).toInt64), none, some (.long (f_ClassTable_firstM_41 p0 x5).toInt64), none, some (.long x8), none, some (.long x9), none, none, none, none, none]) (S' := []) 7 (fun P9 h9 => c_Whole_quotient (d + 6) (((f_ClassTable_divisor_41 p0 x5).toInt64 * (f_ClassTable_firstM_41 p0 x5).toInt64) * (f_ClassTable_firstM_41 p0 x5).toInt64) x8 x5 h9) (fun n h => h) ?_
              obtain ⟨x11, hx11, h⟩ := bind_of h
              refine go_call (r := some (.long x11)) (σc := x5) (σ1 := x5) (mi := 279) (vs := [.ref 41, .int p0]) (k' := 81) (L' := [some (.ref 0), some (.int p0), some (.ref 41), some (.long (f_ClassTable_firstE_41 p0 x5).toInt64), none, some (.long (f_ClassTable_divisor_41 p0 x5).toInt64), none, some (.long (f_ClassTable_firstM_41 p0 x5).toInt64), none, some (.long x8), none, some (.long x9), none, some (.long (f_Whole_quotient (((f_ClassTable_divisor_41 p0 x5).toInt64 * (f_ClassTable_firstM_41 p0 x5).toInt64) * (f_ClassTable_firstM_41 p0 x5).toInt64) x8)), none, none, none]) (S' := [.long ((f_ClassTable_divisor_41 p0 x5).toInt64 * (f_ClassTable_firstM_41 p0 x5).toInt64)]) 7 (fun P9 h9 => c_ClassTable_firstRoot_41 (d + 3) p0 x5 hx11 h9) (fun n h => h) ?_
              refine go_call (r := some (.long (f_Whole_quotient ((((((f_ClassTable_divisor_41 p0 x5).toInt64 * (f_ClassTable_firstM_41 p0 x5).toInt64) * x11) * x9) * x9) * x9) (((f_ClassTable_firstE_41 p0 x5).toInt64 * (f_ClassTable_firstE_41 p0 x5).toInt64) * (f_ClassTable_firstE_41 p0 x5).toInt64)))) (σc := x5) (σ1 := x5) (mi := 97) (vs := [.long ((((((f_ClassTable_divisor_41 p0 x5).toInt64 * (f_ClassTable_firstM_41 p0 x5).toInt64) * x11) * x9) * x9) * x9), .long (((f_ClassTable_firstE_41 p0 x5).toInt64 * (f_ClassTable_firstE_41 p0 x5).toInt64) * (f_ClassTable_firstE_41 p0 x5).toInt64)]) (k' := 94) (L' := [some (.ref 0), some (.int p0), some (.ref 41), some (.long (f_ClassTable_firstE_41 p0 x5).toInt64), none, some (.long (f_ClassTable_divisor_41 p0 x5).toInt64), none, some (.long (f_ClassTable_firstM_41 p0 x5).toInt64), none, some (.long x8), none, some (.long x9), none, some (.long (f_Whole_quotient (((f_ClassTable_divisor_41 p0 x5).toInt64 * (f_ClassTable_firstM_41 p0 x5).toInt64) * (f_ClassTable_firstM_41 p0 x5).toInt64) x8)), none, none, none]) (S' := []) 13 (fun P9 h9 => c_Whole_quotient (d + 6) ((((((f_ClassTable_divisor_41 p0 x5).toInt64 * (f_ClassTable_firstM_41 p0 x5).toInt64) * x11) * x9) * x9) * x9) (((f_ClassTable_firstE_41 p0 x5).toInt64 * (f_ClassTable_firstE_41 p0 x5).toInt64) * (f_ClassTable_firstE_41 p0 x5).toInt64) x5 h9) (fun n h => h) ?_
              obtain ⟨x12, hx12, h⟩ := bind_of h
              refine go_call (r := some (.int x12)) (σc := x5) (σ1 := x5) (mi := 98) (vs := [.ref 11, .long (f_Whole_quotient (((f_ClassTable_divisor_41 p0 x5).toInt64 * (f_ClassTable_firstM_41 p0 x5).toInt64) * (f_ClassTable_firstM_41 p0 x5).toInt64) x8), .long (f_Whole_quotient ((((((f_ClassTable_divisor_41 p0 x5).toInt64 * (f_ClassTable_firstM_41 p0 x5).toInt64) * x11) * x9) * x9) * x9) (((f_ClassTable_firstE_41 p0 x5).toInt64 * (f_ClassTable_firstE_41 p0 x5).toInt64) * (f_ClassTable_firstE_41 p0 x5).toInt64)), .long x9]) (k' := 103) (L' := [some (.ref 0), some (.int p0), some (.ref 41), some (.long (f_ClassTable_firstE_41 p0 x5).toInt64), none, some (.long (f_ClassTable_divisor_41 p0 x5).toInt64), none, some (.long (f_ClassTable_firstM_41 p0 x5).toInt64), none, some (.long x8), none, some (.long x9), none, some (.long (f_Whole_quotient (((f_ClassTable_divisor_41 p0 x5).toInt64 * (f_ClassTable_firstM_41 p0 x5).toInt64) * (f_ClassTable_firstM_41 p0 x5).toInt64) x8)), none, some (.long (f_Whole_quotient ((((((f_ClassTable_divisor_41 p0 x5).toInt64 * (f_ClassTable_firstM_41 p0 x5).toInt64) * x11) * x9) * x9) * x9) (((f_ClassTable_firstE_41 p0 x5).toInt64 * (f_ClassTable_firstE_41 p0 x5).toInt64) * (f_ClassTable_firstE_41 p0 x5).toInt64))), none]) (S' := [.ref 21]) 9 (fun P9 h9 => c_PointList_find_11 (d + 6) (f_Whole_quotient (((f_ClassTable_divisor_41 p0 x5).toInt64 * (f_ClassTable_firstM_41 p0 x5).toInt64) * (f_ClassTable_firstM_41 p0 x5).toInt64) x8) (f_Whole_quotient ((((((f_ClassTable_divisor_41 p0 x5).toInt64 * (f_ClassTable_firstM_41 p0 x5).toInt64) * x11) * x9) * x9) * x9) (((f_ClassTable_firstE_41 p0 x5).toInt64 * (f_ClassTable_firstE_41 p0 x5).toInt64) * (f_ClassTable_firstE_41 p0 x5).toInt64)) x9 x5 hx12 h9) (fun n h => h) ?_
              refine go_call (r := some (.int (f_Sums_shownOnly x12 x5))) (σc := x5) (σ1 := x5) (mi := 88) (vs := [.ref 21, .int x12]) (k' := 104) (L' := [some (.ref 0), some (.int p0), some (.ref 41), some (.long (f_ClassTable_firstE_41 p0 x5).toInt64), none, some (.long (f_ClassTable_divisor_41 p0 x5).toInt64), none, some (.long (f_ClassTable_firstM_41 p0 x5).toInt64), none, some (.long x8), none, some (.long x9), none, some (.long (f_Whole_quotient (((f_ClassTable_divisor_41 p0 x5).toInt64 * (f_ClassTable_firstM_41 p0 x5).toInt64) * (f_ClassTable_firstM_41 p0 x5).toInt64) x8)), none, some (.long (f_Whole_quotient ((((((f_ClassTable_divisor_41 p0 x5).toInt64 * (f_ClassTable_firstM_41 p0 x5).toInt64) * x11) * x9) * x9) * x9) (((f_ClassTable_firstE_41 p0 x5).toInt64 * (f_ClassTable_firstE_41 p0 x5).toInt64) * (f_ClassTable_firstE_41 p0 x5).toInt64))), none]) (S' := []) 1 (fun P9 h9 => c_Sums_shownOnly (d + 5) x12 x5 h9) (fun n h => h) ?_
              cases h
              exact go_ret 1 (fun _ => hp)
            · rw [if_neg hc10] at h
              cases h
              exact go_ret 2 (fun _ => hp)
          · rw [if_neg hc7] at h
            cases h
            exact go_ret 2 (fun _ => hp)
        · rw [if_neg hc6] at h
          cases h
          exact go_ret 2 (fun _ => hp)
      · rw [if_neg hc4] at h
        cases h
        exact go_ret 2 (fun _ => hp)
def f_PrimeGroup_slotOf (p0 : Int32) (σ : aSt) : Int32 :=
  (if ((2 : Int32) * (irem p0 (128 : Int32))) ≤ (σ.1 34 10) then (((2 : Int32) * (p0 / (128 : Int32))) + (0 : Int32)) else (((2 : Int32) * (p0 / (128 : Int32))) + (1 : Int32)))
set_option maxRecDepth 20000 in
set_option maxHeartbeats 4000000 in
theorem c_PrimeGroup_slotOf (d : Nat) (p0 : Int32) (σ : aSt) {P : Option Value → aSt → Prop} (h : P (some (.int ((f_PrimeGroup_slotOf p0 σ)))) σ) : aCall MT (d + 1) 282 [.ref 34, .int p0] σ P := by
  unfold f_PrimeGroup_slotOf at h
  refine call_of (code := mc_PrimeGroup_slotOf) (L := [some (.ref 34), some (.int p0), none, none]) rfl rfl rfl rfl ?_
  refine go_q (Q := ¬ (128 : Int32) = 0) (k' := 3) (L' := [some (.ref 34), some (.int p0), none, none]) (S' := [.int (p0 / (128 : Int32))]) (σ' := σ) 3 (by decide) (fun n h => h) ?_
  refine go_q (Q := ¬ (128 : Int32) = 0) (k' := 7) (L' := [some (.ref 34), some (.int p0), some (.int (p0 / (128 : Int32))), none]) (S' := [.int (irem p0 (128 : Int32))]) (σ' := σ) 4 (by decide) (fun n h => h) ?_
  refine go_if (c := ((2 : Int32) * (irem p0 (128 : Int32))) ≤ (σ.1 34 10)) (k1 := 19) (L1 := [some (.ref 34), some (.int p0), some (.int (p0 / (128 : Int32))), some (.int (irem p0 (128 : Int32)))]) (S1 := [.int ((2 : Int32) * (p0 / (128 : Int32)))]) (σ1 := σ) (k2 := 17) (L2 := [some (.ref 34), some (.int p0), some (.int (p0 / (128 : Int32))), some (.int (irem p0 (128 : Int32)))]) (S2 := [.int ((2 : Int32) * (p0 / (128 : Int32)))]) (σ2 := σ) 10 (fun n h => h) (fun hc1 => ?_) (fun hc1 => ?_)
  · rw [if_pos hc1] at h
    exact go_ret 3 (fun _ => h)
  · rw [if_neg hc1] at h
    exact go_ret 4 (fun _ => h)
def f_PrimeGroup_fillOrders_l30 (N : Nat) : Nat → Int32 → Int32 → Int32 → aSt → Option aSt
  | 0, _, _, _, _ => none
  | n + 1, v2, v4, v5, σ => (if v2 ≤ v5 then some σ else ((f_Whole_gcd N v4.toInt64 (v5 + (1 : Int32)).toInt64).bind fun x3 => (lt (f_store σ 37 (f_PrimeGroup_slotOf (f_pick σ 39 v5) σ) (f_Whole_quotient v4.toInt64 x3).toInt32) fun x4 => f_PrimeGroup_fillOrders_l30 N n v2 v4 (v5 + (1 : Int32)) x4)))
set_option maxRecDepth 20000 in
set_option maxHeartbeats 4000000 in
theorem t_PrimeGroup_fillOrders_l30 (d : Nat) {N : Nat} {x : aSt} {P : Option Value → aSt → Prop} (hp : P none x) : ∀ (n : Nat) (d1 d3 d6 : Option Value) (v2 : Int32) (v4 : Int32) (v5 : Int32) (σ : aSt), f_PrimeGroup_fillOrders_l30 N n v2 v4 v5 σ = some x → aGo (aCall MT (d + 3)) P mc_PrimeGroup_fillOrders 30 [some (.ref 34), d1, some (.int v2), d3, some (.int v4), some (.int v5), d6] [] σ := by
  intro n
  induction n with
  | zero => intro d1 d3 d6 v2 v4 v5 σ h; cases h
  | succ n ih =>
    intro d1 d3 d6 v2 v4 v5 σ h
    rw [f_PrimeGroup_fillOrders_l30] at h
    refine go_if (c := v2 ≤ v5) (k1 := 57) (L1 := [some (.ref 34), d1, some (.int v2), d3, some (.int v4), some (.int v5), d6]) (S1 := []) (σ1 := σ) (k2 := 33) (L2 := [some (.ref 34), d1, some (.int v2), d3, some (.int v4), some (.int v5), d6]) (S2 := []) (σ2 := σ) 3 (fun n h => h) (fun hc2 => ?_) (fun hc2 => ?_)
    · rw [if_pos hc2] at h
      cases h
      exact go_ret 1 (fun _ => hp)
    · rw [if_neg hc2] at h
      obtain ⟨x3, hx3, h⟩ := bind_of h
      refine go_call (r := some (.long x3)) (σc := σ) (σ1 := σ) (mi := 38) (vs := [.long v4.toInt64, .long (v5 + (1 : Int32)).toInt64]) (k' := 42) (L' := [some (.ref 34), d1, some (.int v2), d3, some (.int v4), some (.int v5), d6]) (S' := [.long v4.toInt64]) 9 (fun P9 h9 => c_Whole_gcd (d + 2) v4.toInt64 (v5 + (1 : Int32)).toInt64 σ hx3 h9) (fun n h => h) ?_
      refine go_call (r := some (.long (f_Whole_quotient v4.toInt64 x3))) (σc := σ) (σ1 := σ) (mi := 97) (vs := [.long v4.toInt64, .long x3]) (k' := 43) (L' := [some (.ref 34), d1, some (.int v2), d3, some (.int v4), some (.int v5), d6]) (S' := []) 1 (fun P9 h9 => c_Whole_quotient (d + 2) v4.toInt64 x3 σ h9) (fun n h => h) ?_
      refine go_call (r := some (.int (f_pick σ 39 v5))) (σc := σ) (σ1 := σ) (mi := 9) (vs := [.ref 39, .int v5]) (k' := 52) (L' := [some (.ref 34), d1, some (.int v2), d3, some (.int v4), some (.int v5), some (.int (f_Whole_quotient v4.toInt64 x3).toInt32)]) (S' := [.ref 34, .ref 37]) 9 (fun P9 h9 => c_pick (d + 2) σ 39 rfl v5 h9) (fun n h => h) ?_
      refine go_call (r := some (.int (f_PrimeGroup_slotOf (f_pick σ 39 v5) σ))) (σc := σ) (σ1 := σ) (mi := 282) (vs := [.ref 34, .int (f_pick σ 39 v5)]) (k' := 53) (L' := [some (.ref 34), d1, some (.int v2), d3, some (.int v4), some (.int v5), some (.int (f_Whole_quotient v4.toInt64 x3).toInt32)]) (S' := [.ref 37]) 1 (fun P9 h9 => c_PrimeGroup_slotOf (d + 2) (f_pick σ 39 v5) σ h9) (fun n h => h) ?_
      obtain ⟨x4, hx4, h⟩ := lt_of h
      refine go_call (r := none) (σc := σ) (σ1 := x4) (mi := 1) (vs := [.ref 37, .int (f_PrimeGroup_slotOf (f_pick σ 39 v5) σ), .int (f_Whole_quotient v4.toInt64 x3).toInt32]) (k' := 55) (L' := [some (.ref 34), d1, some (.int v2), d3, some (.int v4), some (.int v5), some (.int (f_Whole_quotient v4.toInt64 x3).toInt32)]) (S' := []) 2 (fun P9 h9 => c_store (d + 2) σ 37 rfl rfl (f_PrimeGroup_slotOf (f_pick σ 39 v5) σ) (f_Whole_quotient v4.toInt64 x3).toInt32 (by rw [← hx4]; exact h9)) (fun n h => h) ?_
      refine go_st (k' := 30) (L' := [some (.ref 34), d1, some (.int v2), d3, some (.int v4), some (.int (v5 + (1 : Int32))), some (.int (f_Whole_quotient v4.toInt64 x3).toInt32)]) (S' := []) (σ' := x4) 2 (fun n h => h) ?_
      exact ih _ _ _ v2 v4 (v5 + (1 : Int32)) x4 h
def f_PrimeGroup_fillOrders_b24 (N : Nat) (v2 : Int32) (σ : aSt) : Option aSt :=
  f_PrimeGroup_fillOrders_l30 N N v2 (v2 + (1 : Int32)) (0 : Int32) σ
set_option maxRecDepth 20000 in
set_option maxHeartbeats 4000000 in
theorem t_PrimeGroup_fillOrders_b24 (d : Nat) {N : Nat} (d1 d3 d4 d5 d6 : Option Value) (v2 : Int32) (σ : aSt) {P : Option Value → aSt → Prop} {x : aSt} (h : f_PrimeGroup_fillOrders_b24 N v2 σ = some x) (hp : P none x) : aGo (aCall MT (d + 3)) P mc_PrimeGroup_fillOrders 24 [some (.ref 34), d1, some (.int v2), d3, d4, d5, d6] [] σ := by
  unfold f_PrimeGroup_fillOrders_b24 at h
  refine go_st (k' := 30) (L' := [some (.ref 34), d1, some (.int v2), none, some (.int (v2 + (1 : Int32))), some (.int (0 : Int32)), d6]) (S' := []) (σ' := σ) 6 (fun n h => h) ?_
  exact t_PrimeGroup_fillOrders_l30 d hp N _ _ _ v2 (v2 + (1 : Int32)) (0 : Int32) σ h
def f_PrimeGroup_fillOrders_l6 (N : Nat) : Nat → Int32 → Int32 → Int32 → Int32 → aSt → Option aSt
  | 0, _, _, _, _, _ => none
  | n + 1, v1, v2, v3, v4, σ => (if (200 : Int32) ≤ v4 then f_PrimeGroup_fillOrders_b24 N v2 σ else (if v3 < 0 then f_PrimeGroup_fillOrders_b24 N v2 σ else (lt (f_store σ 39 v2 v3) fun x6 => ((f_PrimeGroup_add N v3 v1 x6).bind fun x7 => f_PrimeGroup_fillOrders_l6 N n v1 (v2 + (1 : Int32)) x7 (v4 + (1 : Int32)) x6))))
set_option maxRecDepth 20000 in
set_option maxHeartbeats 4000000 in
theorem t_PrimeGroup_fillOrders_l6 (d : Nat) {N : Nat} {x : aSt} {P : Option Value → aSt → Prop} (hp : P none x) : ∀ (n : Nat) (d5 d6 : Option Value) (v1 : Int32) (v2 : Int32) (v3 : Int32) (v4 : Int32) (σ : aSt), f_PrimeGroup_fillOrders_l6 N n v1 v2 v3 v4 σ = some x → aGo (aCall MT (d + 3)) P mc_PrimeGroup_fillOrders 6 [some (.ref 34), some (.int v1), some (.int v2), some (.int v3), some (.int v4), d5, d6] [] σ := by
  intro n
  induction n with
  | zero => intro d5 d6 v1 v2 v3 v4 σ h; cases h
  | succ n ih =>
    intro d5 d6 v1 v2 v3 v4 σ h
    rw [f_PrimeGroup_fillOrders_l6] at h
    refine go_if (c := (200 : Int32) ≤ v4) (k1 := 24) (L1 := [some (.ref 34), some (.int v1), some (.int v2), some (.int v3), some (.int v4), d5, d6]) (S1 := []) (σ1 := σ) (k2 := 9) (L2 := [some (.ref 34), some (.int v1), some (.int v2), some (.int v3), some (.int v4), d5, d6]) (S2 := []) (σ2 := σ) 3 (fun n h => h) (fun hc1 => ?_) (fun hc1 => ?_)
    · rw [if_pos hc1] at h
      exact t_PrimeGroup_fillOrders_b24 d _ _ _ _ _ v2 σ h hp
    · rw [if_neg hc1] at h
      refine go_if (c := v3 < 0) (k1 := 24) (L1 := [some (.ref 34), some (.int v1), some (.int v2), some (.int v3), some (.int v4), d5, d6]) (S1 := []) (σ1 := σ) (k2 := 11) (L2 := [some (.ref 34), some (.int v1), some (.int v2), some (.int v3), some (.int v4), d5, d6]) (S2 := []) (σ2 := σ) 2 (fun n h => h) (fun hc5 => ?_) (fun hc5 => ?_)
      · rw [if_pos hc5] at h
        exact t_PrimeGroup_fillOrders_b24 d _ _ _ _ _ v2 σ h hp
      · rw [if_neg hc5] at h
        obtain ⟨x6, hx6, h⟩ := lt_of h
        refine go_call (r := none) (σc := σ) (σ1 := x6) (mi := 1) (vs := [.ref 39, .int v2, .int v3]) (k' := 16) (L' := [some (.ref 34), some (.int v1), some (.int v2), some (.int v3), some (.int v4), d5, d6]) (S' := []) 5 (fun P9 h9 => c_store (d + 2) σ 39 rfl rfl v2 v3 (by rw [← hx6]; exact h9)) (fun n h => h) ?_
        obtain ⟨x7, hx7, h⟩ := bind_of h
        refine go_call (r := some (.int x7)) (σc := x6) (σ1 := x6) (mi := 152) (vs := [.ref 34, .int v3, .int v1]) (k' := 21) (L' := [some (.ref 34), some (.int v1), some (.int (v2 + (1 : Int32))), some (.int v3), some (.int v4), d5, d6]) (S' := []) 5 (fun P9 h9 => c_PrimeGroup_add (d + 0) v3 v1 x6 hx7 h9) (fun n h => h) ?_
        refine go_st (k' := 6) (L' := [some (.ref 34), some (.int v1), some (.int (v2 + (1 : Int32))), some (.int x7), some (.int (v4 + (1 : Int32))), d5, d6]) (S' := []) (σ' := x6) 3 (fun n h => h) ?_
        exact ih _ _ v1 (v2 + (1 : Int32)) x7 (v4 + (1 : Int32)) x6 h
def f_PrimeGroup_fillOrders (N : Nat) (p0 : Int32) (σ : aSt) : Option aSt :=
  f_PrimeGroup_fillOrders_l6 N N p0 (0 : Int32) p0 (0 : Int32) σ
set_option maxRecDepth 20000 in
set_option maxHeartbeats 4000000 in
theorem c_PrimeGroup_fillOrders (d : Nat) {N : Nat} (p0 : Int32) (σ : aSt) {P : Option Value → aSt → Prop} {x : aSt} (h : f_PrimeGroup_fillOrders N p0 σ = some x) (hp : P none x) : aCall MT (d + 4) 283 [.ref 34, .int p0] σ P := by
  unfold f_PrimeGroup_fillOrders at h
  refine call_of (code := mc_PrimeGroup_fillOrders) (L := [some (.ref 34), some (.int p0), none, none, none, none, none]) rfl rfl rfl rfl ?_
  refine go_st (k' := 6) (L' := [some (.ref 34), some (.int p0), some (.int (0 : Int32)), some (.int p0), some (.int (0 : Int32)), none, none]) (S' := []) (σ' := σ) 6 (fun n h => h) ?_
  exact t_PrimeGroup_fillOrders_l6 d hp N _ _ p0 (0 : Int32) p0 (0 : Int32) σ h
def f_PrimeGroup_weigh_b10 (N : Nat) (v1 : Int32) (σ : aSt) : Option aSt :=
  (if (f_pick σ 37 (f_PrimeGroup_slotOf v1 σ)) ≤ (σ.1 34 11) then some σ else some (s_i (s_i σ 34 11 (f_pick σ 37 (f_PrimeGroup_slotOf v1 σ))) 34 12 v1))
set_option maxRecDepth 20000 in
set_option maxHeartbeats 4000000 in
theorem t_PrimeGroup_weigh_b10 (d : Nat) {N : Nat} (d2 : Option Value) (v1 : Int32) (σ : aSt) {P : Option Value → aSt → Prop} {x : aSt} (h : f_PrimeGroup_weigh_b10 N v1 σ = some x) (hp : P none x) : aGo (aCall MT (d + 4)) P mc_PrimeGroup_weigh 10 [some (.ref 34), some (.int v1), d2] [] σ := by
  unfold f_PrimeGroup_weigh_b10 at h
  refine go_call (r := some (.int (f_PrimeGroup_slotOf v1 σ))) (σc := σ) (σ1 := σ) (mi := 282) (vs := [.ref 34, .int v1]) (k' := 15) (L' := [some (.ref 34), some (.int v1), d2]) (S' := [.ref 37]) 5 (fun P9 h9 => c_PrimeGroup_slotOf (d + 3) v1 σ h9) (fun n h => h) ?_
  refine go_call (r := some (.int (f_pick σ 37 (f_PrimeGroup_slotOf v1 σ)))) (σc := σ) (σ1 := σ) (mi := 9) (vs := [.ref 37, .int (f_PrimeGroup_slotOf v1 σ)]) (k' := 16) (L' := [some (.ref 34), some (.int v1), d2]) (S' := []) 1 (fun P9 h9 => c_pick (d + 3) σ 37 rfl (f_PrimeGroup_slotOf v1 σ) h9) (fun n h => h) ?_
  refine go_if (c := (f_pick σ 37 (f_PrimeGroup_slotOf v1 σ)) ≤ (σ.1 34 11)) (k1 := 27) (L1 := [some (.ref 34), some (.int v1), some (.int (f_pick σ 37 (f_PrimeGroup_slotOf v1 σ)))]) (S1 := []) (σ1 := σ) (k2 := 21) (L2 := [some (.ref 34), some (.int v1), some (.int (f_pick σ 37 (f_PrimeGroup_slotOf v1 σ)))]) (S2 := []) (σ2 := σ) 5 (fun n h => h) (fun hc2 => ?_) (fun hc2 => ?_)
  · rw [if_pos hc2] at h
    cases h
    exact go_ret 1 (fun _ => hp)
  · rw [if_neg hc2] at h
    cases h
    exact go_ret 7 (fun _ => hp)
def f_PrimeGroup_weigh (N : Nat) (p0 : Int32) (σ : aSt) : Option aSt :=
  (if (f_pick σ 37 (f_PrimeGroup_slotOf p0 σ)) ≠ 0 then f_PrimeGroup_weigh_b10 N p0 σ else ((f_PrimeGroup_fillOrders N p0 σ).bind fun x3 => f_PrimeGroup_weigh_b10 N p0 x3))
set_option maxRecDepth 20000 in
set_option maxHeartbeats 4000000 in
theorem c_PrimeGroup_weigh (d : Nat) {N : Nat} (p0 : Int32) (σ : aSt) {P : Option Value → aSt → Prop} {x : aSt} (h : f_PrimeGroup_weigh N p0 σ = some x) (hp : P none x) : aCall MT (d + 5) 284 [.ref 34, .int p0] σ P := by
  unfold f_PrimeGroup_weigh at h
  refine call_of (code := mc_PrimeGroup_weigh) (L := [some (.ref 34), some (.int p0), none]) rfl rfl rfl rfl ?_
  refine go_call (r := some (.int (f_PrimeGroup_slotOf p0 σ))) (σc := σ) (σ1 := σ) (mi := 282) (vs := [.ref 34, .int p0]) (k' := 5) (L' := [some (.ref 34), some (.int p0), none]) (S' := [.ref 37]) 5 (fun P9 h9 => c_PrimeGroup_slotOf (d + 3) p0 σ h9) (fun n h => h) ?_
  refine go_call (r := some (.int (f_pick σ 37 (f_PrimeGroup_slotOf p0 σ)))) (σc := σ) (σ1 := σ) (mi := 9) (vs := [.ref 37, .int (f_PrimeGroup_slotOf p0 σ)]) (k' := 6) (L' := [some (.ref 34), some (.int p0), none]) (S' := []) 1 (fun P9 h9 => c_pick (d + 3) σ 37 rfl (f_PrimeGroup_slotOf p0 σ) h9) (fun n h => h) ?_
  refine go_if (c := (f_pick σ 37 (f_PrimeGroup_slotOf p0 σ)) ≠ 0) (k1 := 10) (L1 := [some (.ref 34), some (.int p0), none]) (S1 := []) (σ1 := σ) (k2 := 7) (L2 := [some (.ref 34), some (.int p0), none]) (S2 := []) (σ2 := σ) 1 (fun n h => h) (fun hc1 => ?_) (fun hc1 => ?_)
  · rw [if_pos hc1] at h
    exact t_PrimeGroup_weigh_b10 d _ p0 σ h hp
  · rw [if_neg hc1] at h
    obtain ⟨x3, hx3, h⟩ := bind_of h
    refine go_call (r := none) (σc := σ) (σ1 := x3) (mi := 283) (vs := [.ref 34, .int p0]) (k' := 10) (L' := [some (.ref 34), some (.int p0), none]) (S' := []) 3 (fun P9 h9 => c_PrimeGroup_fillOrders (d + 0) p0 σ hx3 h9) (fun n h => h) ?_
    exact t_PrimeGroup_weigh_b10 d _ p0 x3 h hp
def f_PrimeGroup_findBest_l12 (N : Nat) : Nat → Int32 → aSt → Option aSt
  | 0, _, _ => none
  | n + 1, v1, σ => (if (σ.1 34 10) ≤ v1 then some σ else ((f_PrimeGroup_rootAt N v1 σ).bind fun x3 => (if 0 ≤ x3 then ((f_PrimeGroup_weigh N ((v1 * (128 : Int32)) + x3) σ).bind fun x5 => (if x3 ≤ 0 then f_PrimeGroup_findBest_l12 N n (v1 + (1 : Int32)) x5 else ((f_PrimeGroup_weigh N (((v1 * (128 : Int32)) + (x5.1 34 10)) - x3) x5).bind fun x7 => f_PrimeGroup_findBest_l12 N n (v1 + (1 : Int32)) x7))) else f_PrimeGroup_findBest_l12 N n (v1 + (1 : Int32)) σ)))
set_option maxRecDepth 20000 in
set_option maxHeartbeats 4000000 in
theorem t_PrimeGroup_findBest_l12 (d : Nat) {N : Nat} {x : aSt} {P : Option Value → aSt → Prop} (hp : P none x) : ∀ (n : Nat) (d2 : Option Value) (v1 : Int32) (σ : aSt), f_PrimeGroup_findBest_l12 N n v1 σ = some x → aGo (aCall MT (d + 5)) P mc_PrimeGroup_findBest 12 [some (.ref 34), some (.int v1), d2] [] σ := by
  intro n
  induction n with
  | zero => intro d2 v1 σ h; cases h
  | succ n ih =>
    intro d2 v1 σ h
    rw [f_PrimeGroup_findBest_l12] at h
    refine go_if (c := (σ.1 34 10) ≤ v1) (k1 := 44) (L1 := [some (.ref 34), some (.int v1), d2]) (S1 := []) (σ1 := σ) (k2 := 16) (L2 := [some (.ref 34), some (.int v1), d2]) (S2 := []) (σ2 := σ) 4 (fun n h => h) (fun hc2 => ?_) (fun hc2 => ?_)
    · rw [if_pos hc2] at h
      cases h
      exact go_ret 1 (fun _ => hp)
    · rw [if_neg hc2] at h
      obtain ⟨x3, hx3, h⟩ := bind_of h
      refine go_call (r := some (.int x3)) (σc := σ) (σ1 := σ) (mi := 142) (vs := [.ref 34, .int v1]) (k' := 19) (L' := [some (.ref 34), some (.int v1), d2]) (S' := []) 3 (fun P9 h9 => c_PrimeGroup_rootAt (d + 2) v1 σ hx3 h9) (fun n h => h) ?_
      refine go_if (c := 0 ≤ x3) (k1 := 23) (L1 := [some (.ref 34), some (.int v1), some (.int x3)]) (S1 := []) (σ1 := σ) (k2 := 22) (L2 := [some (.ref 34), some (.int v1), some (.int x3)]) (S2 := []) (σ2 := σ) 3 (fun n h => h) (fun hc4 => ?_) (fun hc4 => ?_)
      · rw [if_pos hc4] at h
        obtain ⟨x5, hx5, h⟩ := bind_of h
        refine go_call (r := none) (σc := σ) (σ1 := x5) (mi := 284) (vs := [.ref 34, .int ((v1 * (128 : Int32)) + x3)]) (k' := 30) (L' := [some (.ref 34), some (.int v1), some (.int x3)]) (S' := []) 7 (fun P9 h9 => c_PrimeGroup_weigh (d + 0) ((v1 * (128 : Int32)) + x3) σ hx5 h9) (fun n h => h) ?_
        refine go_if (c := x3 ≤ 0) (k1 := 42) (L1 := [some (.ref 34), some (.int v1), some (.int x3)]) (S1 := []) (σ1 := x5) (k2 := 32) (L2 := [some (.ref 34), some (.int v1), some (.int x3)]) (S2 := []) (σ2 := x5) 2 (fun n h => h) (fun hc6 => ?_) (fun hc6 => ?_)
        · rw [if_pos hc6] at h
          refine go_st (k' := 12) (L' := [some (.ref 34), some (.int (v1 + (1 : Int32))), some (.int x3)]) (S' := []) (σ' := x5) 2 (fun n h => h) ?_
          exact ih _ (v1 + (1 : Int32)) x5 h
        · rw [if_neg hc6] at h
          obtain ⟨x7, hx7, h⟩ := bind_of h
          refine go_call (r := none) (σc := x5) (σ1 := x7) (mi := 284) (vs := [.ref 34, .int (((v1 * (128 : Int32)) + (x5.1 34 10)) - x3)]) (k' := 42) (L' := [some (.ref 34), some (.int v1), some (.int x3)]) (S' := []) 10 (fun P9 h9 => c_PrimeGroup_weigh (d + 0) (((v1 * (128 : Int32)) + (x5.1 34 10)) - x3) x5 hx7 h9) (fun n h => h) ?_
          refine go_st (k' := 12) (L' := [some (.ref 34), some (.int (v1 + (1 : Int32))), some (.int x3)]) (S' := []) (σ' := x7) 2 (fun n h => h) ?_
          exact ih _ (v1 + (1 : Int32)) x7 h
      · rw [if_neg hc4] at h
        refine go_st (k' := 12) (L' := [some (.ref 34), some (.int (v1 + (1 : Int32))), some (.int x3)]) (S' := []) (σ' := σ) 3 (fun n h => h) ?_
        exact ih _ (v1 + (1 : Int32)) σ h
def f_PrimeGroup_findBest (N : Nat) (σ : aSt) : Option aSt :=
  (lt (f_fill σ 37 (0 : Int32)) fun x1 => f_PrimeGroup_findBest_l12 N N (0 : Int32) (s_i (s_i x1 34 11 (1 : Int32)) 34 12 (-1 : Int32)))
set_option maxRecDepth 20000 in
set_option maxHeartbeats 4000000 in
theorem c_PrimeGroup_findBest (d : Nat) {N : Nat} (σ : aSt) {P : Option Value → aSt → Prop} {x : aSt} (h : f_PrimeGroup_findBest N σ = some x) (hp : P none x) : aCall MT (d + 6) 285 [.ref 34] σ P := by
  unfold f_PrimeGroup_findBest at h
  refine call_of (code := mc_PrimeGroup_findBest) (L := [some (.ref 34), none, none]) rfl rfl rfl rfl ?_
  obtain ⟨x1, hx1, h⟩ := lt_of h
  refine go_call (r := none) (σc := σ) (σ1 := x1) (mi := 28) (vs := [.ref 37, .int (0 : Int32)]) (k' := 4) (L' := [some (.ref 34), none, none]) (S' := []) 4 (fun P9 h9 => c_fill (d + 4) σ 37 rfl rfl (0 : Int32) (by rw [← hx1]; exact h9)) (fun n h => h) ?_
  refine go_st (k' := 12) (L' := [some (.ref 34), some (.int (0 : Int32)), none]) (S' := []) (σ' := (s_i (s_i x1 34 11 (1 : Int32)) 34 12 (-1 : Int32))) 8 (fun n h => h) ?_
  exact t_PrimeGroup_findBest_l12 d hp N _ (0 : Int32) (s_i (s_i x1 34 11 (1 : Int32)) 34 12 (-1 : Int32)) h
def f_PrimeGroup_greatestOrder (N : Nat) (σ : aSt) : Option (Int32 × aSt) :=
  (if (σ.1 34 11) ≠ 0 then some ((σ.1 34 11), σ) else ((f_PrimeGroup_findBest N σ).bind fun x2 => some ((x2.1 34 11), x2)))
set_option maxRecDepth 20000 in
set_option maxHeartbeats 4000000 in
theorem c_PrimeGroup_greatestOrder (d : Nat) {N : Nat} (σ : aSt) {P : Option Value → aSt → Prop} {x : (Int32 × aSt)} (h : f_PrimeGroup_greatestOrder N σ = some x) (hp : P (some (.int x.1)) x.2) : aCall MT (d + 7) 286 [.ref 34] σ P := by
  unfold f_PrimeGroup_greatestOrder at h
  refine call_of (code := mc_PrimeGroup_greatestOrder) (L := [some (.ref 34)]) rfl rfl rfl rfl ?_
  refine go_if (c := (σ.1 34 11) ≠ 0) (k1 := 5) (L1 := [some (.ref 34)]) (S1 := []) (σ1 := σ) (k2 := 3) (L2 := [some (.ref 34)]) (S2 := []) (σ2 := σ) 3 (fun n h => h) (fun hc1 => ?_) (fun hc1 => ?_)
  · rw [if_pos hc1] at h
    cases h
    exact go_ret 3 (fun _ => hp)
  · rw [if_neg hc1] at h
    obtain ⟨x2, hx2, h⟩ := bind_of h
    refine go_call (r := none) (σc := σ) (σ1 := x2) (mi := 285) (vs := [.ref 34]) (k' := 5) (L' := [some (.ref 34)]) (S' := []) 2 (fun P9 h9 => c_PrimeGroup_findBest (d + 0) σ hx2 h9) (fun n h => h) ?_
    cases h
    exact go_ret 3 (fun _ => hp)
def f_X_groupBy (N : Nat) (p0 : Int32) (p1 : Int32) (σ : aSt) : Option (Int32 × aSt) :=
  ((f_X_isByPrime N p0 σ).bind fun x1 => (if x1 = true then (if p1 < 0 then some ((-2 : Int32), σ) else (if p1 ≤ (1 : Int32) then ((f_PrimeGroup_take N p0 σ).bind fun x5 => ((f_PrimeGroup_greatestOrder N x5).bind fun x6 => (if p1 ≠ 0 then ((f_PrimeGroup_manyBy N p0 x6.2).bind fun x8 => some ((f_Whole_quotient x8.1.toInt64 x6.1.toInt64).toInt32, x8.2)) else some (x6.1, x6.2)))) else some ((-2 : Int32), σ))) else some ((-2 : Int32), σ)))
set_option maxRecDepth 20000 in
set_option maxHeartbeats 4000000 in
theorem c_X_groupBy (d : Nat) {N : Nat} (p0 : Int32) (p1 : Int32) (σ : aSt) {P : Option Value → aSt → Prop} {x : (Int32 × aSt)} (h : f_X_groupBy N p0 p1 σ = some x) (hp : P (some (.int x.1)) x.2) : aCall MT (d + 8) 287 [.ref 0, .int p0, .int p1] σ P := by
  unfold f_X_groupBy at h
  refine call_of (code := mc_X_groupBy) (L := [some (.ref 0), some (.int p0), some (.int p1), none]) rfl rfl rfl rfl ?_
  obtain ⟨x1, hx1, h⟩ := bind_of h
  refine go_call (r := some (.int (b2i x1))) (σc := σ) (σ1 := σ) (mi := 139) (vs := [.ref 0, .int p0]) (k' := 3) (L' := [some (.ref 0), some (.int p0), some (.int p1), none]) (S' := []) 3 (fun P9 h9 => c_X_isByPrime (d + 4) p0 σ hx1 h9) (fun n h => h) ?_
  refine go_ifz (b := x1) (k1 := 9) (L1 := [some (.ref 0), some (.int p0), some (.int p1), none]) (S1 := []) (σ1 := σ) (k2 := 4) (L2 := [some (.ref 0), some (.int p0), some (.int p1), none]) (S2 := []) (σ2 := σ) 1 (fun n h => h) (fun hc2 => ?_) (fun hc2 => ?_)
  · rw [if_neg hc2] at h
    cases h
    exact go_ret 2 (fun _ => hp)
  · rw [if_pos hc2] at h
    refine go_if (c := p1 < 0) (k1 := 9) (L1 := [some (.ref 0), some (.int p0), some (.int p1), none]) (S1 := []) (σ1 := σ) (k2 := 6) (L2 := [some (.ref 0), some (.int p0), some (.int p1), none]) (S2 := []) (σ2 := σ) 2 (fun n h => h) (fun hc3 => ?_) (fun hc3 => ?_)
    · rw [if_pos hc3] at h
      cases h
      exact go_ret 2 (fun _ => hp)
    · rw [if_neg hc3] at h
      refine go_if (c := p1 ≤ (1 : Int32)) (k1 := 11) (L1 := [some (.ref 0), some (.int p0), some (.int p1), none]) (S1 := []) (σ1 := σ) (k2 := 9) (L2 := [some (.ref 0), some (.int p0), some (.int p1), none]) (S2 := []) (σ2 := σ) 3 (fun n h => h) (fun hc4 => ?_) (fun hc4 => ?_)
      · rw [if_pos hc4] at h
        obtain ⟨x5, hx5, h⟩ := bind_of h
        refine go_call (r := none) (σc := σ) (σ1 := x5) (mi := 141) (vs := [.ref 34, .int p0]) (k' := 15) (L' := [some (.ref 0), some (.int p0), some (.int p1), none]) (S' := []) 4 (fun P9 h9 => c_PrimeGroup_take (d + 4) p0 σ hx5 h9) (fun n h => h) ?_
        obtain ⟨x6, hx6, h⟩ := bind_of h
        refine go_call (r := some (.int x6.1)) (σc := x5) (σ1 := x6.2) (mi := 286) (vs := [.ref 34]) (k' := 18) (L' := [some (.ref 0), some (.int p0), some (.int p1), none]) (S' := []) 3 (fun P9 h9 => c_PrimeGroup_greatestOrder (d + 0) x5 hx6 h9) (fun n h => h) ?_
        refine go_if (c := p1 ≠ 0) (k1 := 23) (L1 := [some (.ref 0), some (.int p0), some (.int p1), some (.int x6.1)]) (S1 := []) (σ1 := x6.2) (k2 := 21) (L2 := [some (.ref 0), some (.int p0), some (.int p1), some (.int x6.1)]) (S2 := []) (σ2 := x6.2) 3 (fun n h => h) (fun hc7 => ?_) (fun hc7 => ?_)
        · rw [if_pos hc7] at h
          obtain ⟨x8, hx8, h⟩ := bind_of h
          refine go_call (r := some (.int x8.1)) (σc := x6.2) (σ1 := x8.2) (mi := 143) (vs := [.ref 34, .int p0]) (k' := 27) (L' := [some (.ref 0), some (.int p0), some (.int p1), some (.int x6.1)]) (S' := []) 4 (fun P9 h9 => c_PrimeGroup_manyBy (d + 3) p0 x6.2 hx8 h9) (fun n h => h) ?_
          refine go_call (r := some (.long (f_Whole_quotient x8.1.toInt64 x6.1.toInt64))) (σc := x8.2) (σ1 := x8.2) (mi := 97) (vs := [.long x8.1.toInt64, .long x6.1.toInt64]) (k' := 31) (L' := [some (.ref 0), some (.int p0), some (.int p1), some (.int x6.1)]) (S' := []) 4 (fun P9 h9 => c_Whole_quotient (d + 6) x8.1.toInt64 x6.1.toInt64 x8.2 h9) (fun n h => h) ?_
          cases h
          exact go_ret 2 (fun _ => hp)
        · rw [if_neg hc7] at h
          cases h
          exact go_ret 3 (fun _ => hp)
      · rw [if_neg hc4] at h
        cases h
        exact go_ret 2 (fun _ => hp)
def f_PrimeGroup_logOf_l4 (N : Nat) (σ : aSt) : Nat → Int32 → Int32 → Int32 → Int32 → Option Int32
  | 0, _, _, _, _ => none
  | n + 1, v1, v2, v3, v4 => (if (200 : Int32) ≤ v4 then some (-1 : Int32) else (if v3 ≠ v2 then ((f_PrimeGroup_add N v3 v1 σ).bind fun x3 => (if 0 ≤ x3 then f_PrimeGroup_logOf_l4 N σ n v1 v2 x3 (v4 + (1 : Int32)) else some (-1 : Int32))) else some v4))
set_option maxRecDepth 20000 in
set_option maxHeartbeats 4000000 in
theorem t_PrimeGroup_logOf_l4 (d : Nat) {N : Nat} (σ : aSt) {x : Int32} {P : Option Value → aSt → Prop} (hp : P (some (.int x)) σ) : ∀ (n : Nat) (v1 : Int32) (v2 : Int32) (v3 : Int32) (v4 : Int32), f_PrimeGroup_logOf_l4 N σ n v1 v2 v3 v4 = some x → aGo (aCall MT (d + 3)) P mc_PrimeGroup_logOf 4 [some (.ref 34), some (.int v1), some (.int v2), some (.int v3), some (.int v4)] [] σ := by
  intro n
  induction n with
  | zero => intro v1 v2 v3 v4 h; cases h
  | succ n ih =>
    intro v1 v2 v3 v4 h
    rw [f_PrimeGroup_logOf_l4] at h
    refine go_if (c := (200 : Int32) ≤ v4) (k1 := 23) (L1 := [some (.ref 34), some (.int v1), some (.int v2), some (.int v3), some (.int v4)]) (S1 := []) (σ1 := σ) (k2 := 7) (L2 := [some (.ref 34), some (.int v1), some (.int v2), some (.int v3), some (.int v4)]) (S2 := []) (σ2 := σ) 3 (fun n h => h) (fun hc1 => ?_) (fun hc1 => ?_)
    · rw [if_pos hc1] at h
      cases h
      exact go_ret 2 (fun _ => hp)
    · rw [if_neg hc1] at h
      refine go_if (c := v3 ≠ v2) (k1 := 12) (L1 := [some (.ref 34), some (.int v1), some (.int v2), some (.int v3), some (.int v4)]) (S1 := []) (σ1 := σ) (k2 := 10) (L2 := [some (.ref 34), some (.int v1), some (.int v2), some (.int v3), some (.int v4)]) (S2 := []) (σ2 := σ) 3 (fun n h => h) (fun hc2 => ?_) (fun hc2 => ?_)
      · rw [if_pos hc2] at h
        obtain ⟨x3, hx3, h⟩ := bind_of h
        refine go_call (r := some (.int x3)) (σc := σ) (σ1 := σ) (mi := 152) (vs := [.ref 34, .int v3, .int v1]) (k' := 16) (L' := [some (.ref 34), some (.int v1), some (.int v2), some (.int v3), some (.int v4)]) (S' := []) 4 (fun P9 h9 => c_PrimeGroup_add (d + 0) v3 v1 σ hx3 h9) (fun n h => h) ?_
        refine go_if (c := 0 ≤ x3) (k1 := 21) (L1 := [some (.ref 34), some (.int v1), some (.int v2), some (.int x3), some (.int v4)]) (S1 := []) (σ1 := σ) (k2 := 19) (L2 := [some (.ref 34), some (.int v1), some (.int v2), some (.int x3), some (.int v4)]) (S2 := []) (σ2 := σ) 3 (fun n h => h) (fun hc4 => ?_) (fun hc4 => ?_)
        · rw [if_pos hc4] at h
          refine go_st (k' := 4) (L' := [some (.ref 34), some (.int v1), some (.int v2), some (.int x3), some (.int (v4 + (1 : Int32)))]) (S' := []) (σ' := σ) 2 (fun n h => h) ?_
          exact ih v1 v2 x3 (v4 + (1 : Int32)) h
        · rw [if_neg hc4] at h
          cases h
          exact go_ret 2 (fun _ => hp)
      · rw [if_neg hc2] at h
        cases h
        exact go_ret 2 (fun _ => hp)
def f_PrimeGroup_logOf (N : Nat) (p0 : Int32) (p1 : Int32) (σ : aSt) : Option Int32 :=
  f_PrimeGroup_logOf_l4 N σ N p0 p1 (-1 : Int32) (0 : Int32)
set_option maxRecDepth 20000 in
set_option maxHeartbeats 4000000 in
theorem c_PrimeGroup_logOf (d : Nat) {N : Nat} (p0 : Int32) (p1 : Int32) (σ : aSt) {P : Option Value → aSt → Prop} {x : Int32} (h : f_PrimeGroup_logOf N p0 p1 σ = some x) (hp : P (some (.int x)) σ) : aCall MT (d + 4) 290 [.ref 34, .int p0, .int p1] σ P := by
  unfold f_PrimeGroup_logOf at h
  refine call_of (code := mc_PrimeGroup_logOf) (L := [some (.ref 34), some (.int p0), some (.int p1), none, none]) rfl rfl rfl rfl ?_
  refine go_st (k' := 4) (L' := [some (.ref 34), some (.int p0), some (.int p1), some (.int (-1 : Int32)), some (.int (0 : Int32))]) (S' := []) (σ' := σ) 4 (fun n h => h) ?_
  exact t_PrimeGroup_logOf_l4 d σ hp N p0 p1 (-1 : Int32) (0 : Int32) h
def f_X_logBy (N : Nat) (p0 : Int32) (p1 : Int32) (p2 : Int32) (σ : aSt) : Option (Int32 × aSt) :=
  (if (f_X_isPoint p0 σ) = true then (if (f_X_isPoint p1 σ) = true then ((f_X_isByPrime N p2 σ).bind fun x3 => (if x3 = true then ((f_PrimeGroup_take N p2 σ).bind fun x5 => ((f_X_codeBy N p0 x5).bind fun x6 => ((f_X_codeBy N p1 x5).bind fun x7 => ((f_PrimeGroup_logOf N x6 x7 x5).bind fun x8 => some (x8, x5))))) else some ((-2 : Int32), σ))) else some ((-2 : Int32), σ)) else some ((-2 : Int32), σ))
set_option maxRecDepth 20000 in
set_option maxHeartbeats 4000000 in
theorem c_X_logBy (d : Nat) {N : Nat} (p0 : Int32) (p1 : Int32) (p2 : Int32) (σ : aSt) {P : Option Value → aSt → Prop} {x : (Int32 × aSt)} (h : f_X_logBy N p0 p1 p2 σ = some x) (hp : P (some (.int x.1)) x.2) : aCall MT (d + 5) 291 [.ref 0, .int p0, .int p1, .int p2] σ P := by
  unfold f_X_logBy at h
  refine call_of (code := mc_X_logBy) (L := [some (.ref 0), some (.int p0), some (.int p1), some (.int p2)]) rfl rfl rfl rfl ?_
  refine go_call (r := some (.int (b2i (f_X_isPoint p0 σ)))) (σc := σ) (σ1 := σ) (mi := 85) (vs := [.ref 0, .int p0]) (k' := 3) (L' := [some (.ref 0), some (.int p0), some (.int p1), some (.int p2)]) (S' := []) 3 (fun P9 h9 => c_X_isPoint (d + 1) p0 σ h9) (fun n h => h) ?_
  refine go_ifz (b := (f_X_isPoint p0 σ)) (k1 := 12) (L1 := [some (.ref 0), some (.int p0), some (.int p1), some (.int p2)]) (S1 := []) (σ1 := σ) (k2 := 4) (L2 := [some (.ref 0), some (.int p0), some (.int p1), some (.int p2)]) (S2 := []) (σ2 := σ) 1 (fun n h => h) (fun hc1 => ?_) (fun hc1 => ?_)
  · rw [if_neg hc1] at h
    cases h
    exact go_ret 2 (fun _ => hp)
  · rw [if_pos hc1] at h
    refine go_call (r := some (.int (b2i (f_X_isPoint p1 σ)))) (σc := σ) (σ1 := σ) (mi := 85) (vs := [.ref 0, .int p1]) (k' := 7) (L' := [some (.ref 0), some (.int p0), some (.int p1), some (.int p2)]) (S' := []) 3 (fun P9 h9 => c_X_isPoint (d + 1) p1 σ h9) (fun n h => h) ?_
    refine go_ifz (b := (f_X_isPoint p1 σ)) (k1 := 12) (L1 := [some (.ref 0), some (.int p0), some (.int p1), some (.int p2)]) (S1 := []) (σ1 := σ) (k2 := 8) (L2 := [some (.ref 0), some (.int p0), some (.int p1), some (.int p2)]) (S2 := []) (σ2 := σ) 1 (fun n h => h) (fun hc2 => ?_) (fun hc2 => ?_)
    · rw [if_neg hc2] at h
      cases h
      exact go_ret 2 (fun _ => hp)
    · rw [if_pos hc2] at h
      obtain ⟨x3, hx3, h⟩ := bind_of h
      refine go_call (r := some (.int (b2i x3))) (σc := σ) (σ1 := σ) (mi := 139) (vs := [.ref 0, .int p2]) (k' := 11) (L' := [some (.ref 0), some (.int p0), some (.int p1), some (.int p2)]) (S' := []) 3 (fun P9 h9 => c_X_isByPrime (d + 1) p2 σ hx3 h9) (fun n h => h) ?_
      refine go_ifn (b := x3) (k1 := 14) (L1 := [some (.ref 0), some (.int p0), some (.int p1), some (.int p2)]) (S1 := []) (σ1 := σ) (k2 := 12) (L2 := [some (.ref 0), some (.int p0), some (.int p1), some (.int p2)]) (S2 := []) (σ2 := σ) 1 (fun n h => h) (fun hc4 => ?_) (fun hc4 => ?_)
      · rw [if_pos hc4] at h
        obtain ⟨x5, hx5, h⟩ := bind_of h
        refine go_call (r := none) (σc := σ) (σ1 := x5) (mi := 141) (vs := [.ref 34, .int p2]) (k' := 18) (L' := [some (.ref 0), some (.int p0), some (.int p1), some (.int p2)]) (S' := []) 4 (fun P9 h9 => c_PrimeGroup_take (d + 1) p2 σ hx5 h9) (fun n h => h) ?_
        obtain ⟨x6, hx6, h⟩ := bind_of h
        refine go_call (r := some (.int x6)) (σc := x5) (σ1 := x5) (mi := 151) (vs := [.ref 0, .int p0]) (k' := 23) (L' := [some (.ref 0), some (.int p0), some (.int p1), some (.int p2)]) (S' := [.ref 34]) 5 (fun P9 h9 => c_X_codeBy (d + 0) p0 x5 hx6 h9) (fun n h => h) ?_
        obtain ⟨x7, hx7, h⟩ := bind_of h
        refine go_call (r := some (.int x7)) (σc := x5) (σ1 := x5) (mi := 151) (vs := [.ref 0, .int p1]) (k' := 26) (L' := [some (.ref 0), some (.int p0), some (.int p1), some (.int p2)]) (S' := [.int x6, .ref 34]) 3 (fun P9 h9 => c_X_codeBy (d + 0) p1 x5 hx7 h9) (fun n h => h) ?_
        obtain ⟨x8, hx8, h⟩ := bind_of h
        refine go_call (r := some (.int x8)) (σc := x5) (σ1 := x5) (mi := 290) (vs := [.ref 34, .int x6, .int x7]) (k' := 27) (L' := [some (.ref 0), some (.int p0), some (.int p1), some (.int p2)]) (S' := []) 1 (fun P9 h9 => c_PrimeGroup_logOf (d + 0) x6 x7 x5 hx8 h9) (fun n h => h) ?_
        cases h
        exact go_ret 1 (fun _ => hp)
      · rw [if_neg hc4] at h
        cases h
        exact go_ret 2 (fun _ => hp)
def f_PrimeGroup_bestPart_b5 (N : Nat) (v1 : Int32) (σ : aSt) : Option (Int32 × aSt) :=
  (if 0 ≤ (σ.1 34 12) then (if v1 ≠ 0 then some ((irem (σ.1 34 12) (128 : Int32)), σ) else some (((σ.1 34 12) / (128 : Int32)), σ)) else some ((-1 : Int32), σ))
set_option maxRecDepth 20000 in
set_option maxHeartbeats 4000000 in
theorem t_PrimeGroup_bestPart_b5 (d : Nat) {N : Nat} (v1 : Int32) (σ : aSt) {P : Option Value → aSt → Prop} {x : (Int32 × aSt)} (h : f_PrimeGroup_bestPart_b5 N v1 σ = some x) (hp : P (some (.int x.1)) x.2) : aGo (aCall MT (d + 6)) P mc_PrimeGroup_bestPart 5 [some (.ref 34), some (.int v1)] [] σ := by
  unfold f_PrimeGroup_bestPart_b5 at h
  refine go_if (c := 0 ≤ (σ.1 34 12)) (k1 := 10) (L1 := [some (.ref 34), some (.int v1)]) (S1 := []) (σ1 := σ) (k2 := 8) (L2 := [some (.ref 34), some (.int v1)]) (S2 := []) (σ2 := σ) 3 (fun n h => h) (fun hc2 => ?_) (fun hc2 => ?_)
  · rw [if_pos hc2] at h
    refine go_if (c := v1 ≠ 0) (k1 := 17) (L1 := [some (.ref 34), some (.int v1)]) (S1 := []) (σ1 := σ) (k2 := 12) (L2 := [some (.ref 34), some (.int v1)]) (S2 := []) (σ2 := σ) 2 (fun n h => h) (fun hc3 => ?_) (fun hc3 => ?_)
    · rw [if_pos hc3] at h
      refine go_q (Q := ¬ (128 : Int32) = 0) (k' := 21) (L' := [some (.ref 34), some (.int v1)]) (S' := [.int (irem (σ.1 34 12) (128 : Int32))]) (σ' := σ) 4 (by decide) (fun n h => h) ?_
      cases h
      exact go_ret 1 (fun _ => hp)
    · rw [if_neg hc3] at h
      refine go_q (Q := ¬ (128 : Int32) = 0) (k' := 16) (L' := [some (.ref 34), some (.int v1)]) (S' := [.int ((σ.1 34 12) / (128 : Int32))]) (σ' := σ) 4 (by decide) (fun n h => h) ?_
      cases h
      exact go_ret 2 (fun _ => hp)
  · rw [if_neg hc2] at h
    cases h
    exact go_ret 2 (fun _ => hp)
def f_PrimeGroup_bestPart (N : Nat) (p0 : Int32) (σ : aSt) : Option (Int32 × aSt) :=
  (if (σ.1 34 11) ≠ 0 then f_PrimeGroup_bestPart_b5 N p0 σ else ((f_PrimeGroup_findBest N σ).bind fun x4 => f_PrimeGroup_bestPart_b5 N p0 x4))
set_option maxRecDepth 20000 in
set_option maxHeartbeats 4000000 in
theorem c_PrimeGroup_bestPart (d : Nat) {N : Nat} (p0 : Int32) (σ : aSt) {P : Option Value → aSt → Prop} {x : (Int32 × aSt)} (h : f_PrimeGroup_bestPart N p0 σ = some x) (hp : P (some (.int x.1)) x.2) : aCall MT (d + 7) 293 [.ref 34, .int p0] σ P := by
  unfold f_PrimeGroup_bestPart at h
  refine call_of (code := mc_PrimeGroup_bestPart) (L := [some (.ref 34), some (.int p0)]) rfl rfl rfl rfl ?_
  refine go_if (c := (σ.1 34 11) ≠ 0) (k1 := 5) (L1 := [some (.ref 34), some (.int p0)]) (S1 := []) (σ1 := σ) (k2 := 3) (L2 := [some (.ref 34), some (.int p0)]) (S2 := []) (σ2 := σ) 3 (fun n h => h) (fun hc1 => ?_) (fun hc1 => ?_)
  · rw [if_pos hc1] at h
    exact t_PrimeGroup_bestPart_b5 d p0 σ h hp
  · rw [if_neg hc1] at h
    obtain ⟨x4, hx4, h⟩ := bind_of h
    refine go_call (r := none) (σc := σ) (σ1 := x4) (mi := 285) (vs := [.ref 34]) (k' := 5) (L' := [some (.ref 34), some (.int p0)]) (S' := []) 2 (fun P9 h9 => c_PrimeGroup_findBest (d + 0) σ hx4 h9) (fun n h => h) ?_
    exact t_PrimeGroup_bestPart_b5 d p0 x4 h hp
def f_X_bestBy (N : Nat) (p0 : Int32) (p1 : Int32) (σ : aSt) : Option (Int32 × aSt) :=
  ((f_X_isByPrime N p0 σ).bind fun x1 => (if x1 = true then (if p1 < 0 then some ((-2 : Int32), σ) else (if p1 ≤ (1 : Int32) then ((f_PrimeGroup_take N p0 σ).bind fun x5 => ((f_PrimeGroup_bestPart N p1 x5).bind fun x6 => some (x6.1, x6.2))) else some ((-2 : Int32), σ))) else some ((-2 : Int32), σ)))
set_option maxRecDepth 20000 in
set_option maxHeartbeats 4000000 in
theorem c_X_bestBy (d : Nat) {N : Nat} (p0 : Int32) (p1 : Int32) (σ : aSt) {P : Option Value → aSt → Prop} {x : (Int32 × aSt)} (h : f_X_bestBy N p0 p1 σ = some x) (hp : P (some (.int x.1)) x.2) : aCall MT (d + 8) 294 [.ref 0, .int p0, .int p1] σ P := by
  unfold f_X_bestBy at h
  refine call_of (code := mc_X_bestBy) (L := [some (.ref 0), some (.int p0), some (.int p1)]) rfl rfl rfl rfl ?_
  obtain ⟨x1, hx1, h⟩ := bind_of h
  refine go_call (r := some (.int (b2i x1))) (σc := σ) (σ1 := σ) (mi := 139) (vs := [.ref 0, .int p0]) (k' := 3) (L' := [some (.ref 0), some (.int p0), some (.int p1)]) (S' := []) 3 (fun P9 h9 => c_X_isByPrime (d + 4) p0 σ hx1 h9) (fun n h => h) ?_
  refine go_ifz (b := x1) (k1 := 9) (L1 := [some (.ref 0), some (.int p0), some (.int p1)]) (S1 := []) (σ1 := σ) (k2 := 4) (L2 := [some (.ref 0), some (.int p0), some (.int p1)]) (S2 := []) (σ2 := σ) 1 (fun n h => h) (fun hc2 => ?_) (fun hc2 => ?_)
  · rw [if_neg hc2] at h
    cases h
    exact go_ret 2 (fun _ => hp)
  · rw [if_pos hc2] at h
    refine go_if (c := p1 < 0) (k1 := 9) (L1 := [some (.ref 0), some (.int p0), some (.int p1)]) (S1 := []) (σ1 := σ) (k2 := 6) (L2 := [some (.ref 0), some (.int p0), some (.int p1)]) (S2 := []) (σ2 := σ) 2 (fun n h => h) (fun hc3 => ?_) (fun hc3 => ?_)
    · rw [if_pos hc3] at h
      cases h
      exact go_ret 2 (fun _ => hp)
    · rw [if_neg hc3] at h
      refine go_if (c := p1 ≤ (1 : Int32)) (k1 := 11) (L1 := [some (.ref 0), some (.int p0), some (.int p1)]) (S1 := []) (σ1 := σ) (k2 := 9) (L2 := [some (.ref 0), some (.int p0), some (.int p1)]) (S2 := []) (σ2 := σ) 3 (fun n h => h) (fun hc4 => ?_) (fun hc4 => ?_)
      · rw [if_pos hc4] at h
        obtain ⟨x5, hx5, h⟩ := bind_of h
        refine go_call (r := none) (σc := σ) (σ1 := x5) (mi := 141) (vs := [.ref 34, .int p0]) (k' := 15) (L' := [some (.ref 0), some (.int p0), some (.int p1)]) (S' := []) 4 (fun P9 h9 => c_PrimeGroup_take (d + 4) p0 σ hx5 h9) (fun n h => h) ?_
        obtain ⟨x6, hx6, h⟩ := bind_of h
        refine go_call (r := some (.int x6.1)) (σc := x5) (σ1 := x6.2) (mi := 293) (vs := [.ref 34, .int p1]) (k' := 19) (L' := [some (.ref 0), some (.int p0), some (.int p1)]) (S' := []) 4 (fun P9 h9 => c_PrimeGroup_bestPart (d + 0) p1 x5 hx6 h9) (fun n h => h) ?_
        cases h
        exact go_ret 1 (fun _ => hp)
      · rw [if_neg hc4] at h
        cases h
        exact go_ret 2 (fun _ => hp)
def f_X_walk_l10 (N : Nat) : Nat → Int32 → Int32 → Int32 → aSt → Option (Int32 × aSt)
  | 0, _, _, _, _ => none
  | n + 1, v1, v2, v3, σ => (if (20 : Int32) ≤ v3 then some ((20 : Int32), σ) else ((f_Sums_total N v2 v1 σ).bind fun x3 => (if x3.1 = (-6 : Int32) then some (v3, x3.2) else (if x3.1 ≠ (1000 : Int32) then f_X_walk_l10 N n v1 x3.1 (v3 + (1 : Int32)) x3.2 else some (v3, x3.2)))))
set_option maxRecDepth 20000 in
set_option maxHeartbeats 4000000 in
theorem t_X_walk_l10 (d : Nat) {N : Nat} {x : (Int32 × aSt)} {P : Option Value → aSt → Prop} (hp : P (some (.int x.1)) x.2) : ∀ (n : Nat) (v1 : Int32) (v2 : Int32) (v3 : Int32) (σ : aSt), f_X_walk_l10 N n v1 v2 v3 σ = some x → aGo (aCall MT (d + 4)) P mc_X_walk 10 [some (.ref 0), some (.int v1), some (.int v2), some (.int v3)] [] σ := by
  intro n
  induction n with
  | zero => intro v1 v2 v3 σ h; cases h
  | succ n ih =>
    intro v1 v2 v3 σ h
    rw [f_X_walk_l10] at h
    refine go_if (c := (20 : Int32) ≤ v3) (k1 := 29) (L1 := [some (.ref 0), some (.int v1), some (.int v2), some (.int v3)]) (S1 := []) (σ1 := σ) (k2 := 13) (L2 := [some (.ref 0), some (.int v1), some (.int v2), some (.int v3)]) (S2 := []) (σ2 := σ) 3 (fun n h => h) (fun hc2 => ?_) (fun hc2 => ?_)
    · rw [if_pos hc2] at h
      cases h
      exact go_ret 2 (fun _ => hp)
    · rw [if_neg hc2] at h
      obtain ⟨x3, hx3, h⟩ := bind_of h
      refine go_call (r := some (.int x3.1)) (σc := σ) (σ1 := x3.2) (mi := 101) (vs := [.ref 21, .int v2, .int v1]) (k' := 18) (L' := [some (.ref 0), some (.int v1), some (.int v2), some (.int v3)]) (S' := []) 5 (fun P9 h9 => c_Sums_total (d + 0) v2 v1 σ hx3 h9) (fun n h => h) ?_
      refine go_if (c := x3.1 = (-6 : Int32)) (k1 := 25) (L1 := [some (.ref 0), some (.int v1), some (.int x3.1), some (.int v3)]) (S1 := []) (σ1 := x3.2) (k2 := 22) (L2 := [some (.ref 0), some (.int v1), some (.int x3.1), some (.int v3)]) (S2 := []) (σ2 := x3.2) 4 (fun n h => h) (fun hc4 => ?_) (fun hc4 => ?_)
      · rw [if_pos hc4] at h
        cases h
        exact go_ret 2 (fun _ => hp)
      · rw [if_neg hc4] at h
        refine go_if (c := x3.1 ≠ (1000 : Int32)) (k1 := 27) (L1 := [some (.ref 0), some (.int v1), some (.int x3.1), some (.int v3)]) (S1 := []) (σ1 := x3.2) (k2 := 25) (L2 := [some (.ref 0), some (.int v1), some (.int x3.1), some (.int v3)]) (S2 := []) (σ2 := x3.2) 3 (fun n h => h) (fun hc5 => ?_) (fun hc5 => ?_)
        · rw [if_pos hc5] at h
          refine go_st (k' := 10) (L' := [some (.ref 0), some (.int v1), some (.int x3.1), some (.int (v3 + (1 : Int32)))]) (S' := []) (σ' := x3.2) 2 (fun n h => h) ?_
          exact ih v1 x3.1 (v3 + (1 : Int32)) x3.2 h
        · rw [if_neg hc5] at h
          cases h
          exact go_ret 2 (fun _ => hp)
def f_X_walk (N : Nat) (p0 : Int32) (σ : aSt) : Option (Int32 × aSt) :=
  (if (f_X_isPoint p0 σ) = true then f_X_walk_l10 N N p0 (1000 : Int32) (0 : Int32) σ else some ((-2 : Int32), σ))
set_option maxRecDepth 20000 in
set_option maxHeartbeats 4000000 in
theorem c_X_walk (d : Nat) {N : Nat} (p0 : Int32) (σ : aSt) {P : Option Value → aSt → Prop} {x : (Int32 × aSt)} (h : f_X_walk N p0 σ = some x) (hp : P (some (.int x.1)) x.2) : aCall MT (d + 5) 296 [.ref 0, .int p0] σ P := by
  unfold f_X_walk at h
  refine call_of (code := mc_X_walk) (L := [some (.ref 0), some (.int p0), none, none]) rfl rfl rfl rfl ?_
  refine go_call (r := some (.int (b2i (f_X_isPoint p0 σ)))) (σc := σ) (σ1 := σ) (mi := 85) (vs := [.ref 0, .int p0]) (k' := 3) (L' := [some (.ref 0), some (.int p0), none, none]) (S' := []) 3 (fun P9 h9 => c_X_isPoint (d + 1) p0 σ h9) (fun n h => h) ?_
  refine go_ifn (b := (f_X_isPoint p0 σ)) (k1 := 6) (L1 := [some (.ref 0), some (.int p0), none, none]) (S1 := []) (σ1 := σ) (k2 := 4) (L2 := [some (.ref 0), some (.int p0), none, none]) (S2 := []) (σ2 := σ) 1 (fun n h => h) (fun hc1 => ?_) (fun hc1 => ?_)
  · rw [if_pos hc1] at h
    refine go_st (k' := 10) (L' := [some (.ref 0), some (.int p0), some (.int (1000 : Int32)), some (.int (0 : Int32))]) (S' := []) (σ' := σ) 4 (fun n h => h) ?_
    exact t_X_walk_l10 d hp N p0 (1000 : Int32) (0 : Int32) σ h
  · rw [if_neg hc1] at h
    cases h
    exact go_ret 2 (fun _ => hp)
def f_X_isPlace (p0 : Int32) (p1 : Int32) : Bool :=
  (if p0 < (-9999 : Int32) then false else (if (9999 : Int32) < p0 then false else (if p1 < (1 : Int32) then false else (if (99 : Int32) < p1 then false else true))))
set_option maxRecDepth 20000 in
set_option maxHeartbeats 4000000 in
theorem c_X_isPlace (d : Nat) (p0 : Int32) (p1 : Int32) (σ : aSt) {P : Option Value → aSt → Prop} (h : P (some (.int (b2i ((f_X_isPlace p0 p1))))) σ) : aCall MT (d + 1) 298 [.int p0, .int p1] σ P := by
  unfold f_X_isPlace at h
  refine call_of (code := mc_X_isPlace) (L := [some (.int p0), some (.int p1)]) rfl rfl rfl rfl ?_
  refine go_if (c := p0 < (-9999 : Int32)) (k1 := 14) (L1 := [some (.int p0), some (.int p1)]) (S1 := []) (σ1 := σ) (k2 := 3) (L2 := [some (.int p0), some (.int p1)]) (S2 := []) (σ2 := σ) 3 (fun n h => h) (fun hc1 => ?_) (fun hc1 => ?_)
  · rw [if_pos hc1] at h
    exact go_ret 2 (fun _ => And.intro (Or.inl rfl) h)
  · rw [if_neg hc1] at h
    refine go_if (c := (9999 : Int32) < p0) (k1 := 14) (L1 := [some (.int p0), some (.int p1)]) (S1 := []) (σ1 := σ) (k2 := 6) (L2 := [some (.int p0), some (.int p1)]) (S2 := []) (σ2 := σ) 3 (fun n h => h) (fun hc2 => ?_) (fun hc2 => ?_)
    · rw [if_pos hc2] at h
      exact go_ret 2 (fun _ => And.intro (Or.inl rfl) h)
    · rw [if_neg hc2] at h
      refine go_if (c := p1 < (1 : Int32)) (k1 := 14) (L1 := [some (.int p0), some (.int p1)]) (S1 := []) (σ1 := σ) (k2 := 9) (L2 := [some (.int p0), some (.int p1)]) (S2 := []) (σ2 := σ) 3 (fun n h => h) (fun hc3 => ?_) (fun hc3 => ?_)
      · rw [if_pos hc3] at h
        exact go_ret 2 (fun _ => And.intro (Or.inl rfl) h)
      · rw [if_neg hc3] at h
        refine go_if (c := (99 : Int32) < p1) (k1 := 14) (L1 := [some (.int p0), some (.int p1)]) (S1 := []) (σ1 := σ) (k2 := 12) (L2 := [some (.int p0), some (.int p1)]) (S2 := []) (σ2 := σ) 3 (fun n h => h) (fun hc4 => ?_) (fun hc4 => ?_)
        · rw [if_pos hc4] at h
          exact go_ret 2 (fun _ => And.intro (Or.inl rfl) h)
        · rw [if_neg hc4] at h
          exact go_ret 3 (fun _ => And.intro (Or.inr rfl) h)
def f_X_between_l17 (N : Nat) (σ : aSt) : Nat → Int32 → Int32 → Int32 → Int32 → Int32 → Option Int32
  | 0, _, _, _, _, _ => none
  | n + 1, v1, v2, v3, v4, v5 => (if (f_PointList_shown_11 σ) ≤ v5 then some v4 else (if ((f_PointList_m_11 v5 σ) * v3) < (v1 * ((f_PointList_e_11 v5 σ) * (f_PointList_e_11 v5 σ))) then f_X_between_l17 N σ n v1 v2 v3 v4 (v5 + (1 : Int32)) else (if (v2 * ((f_PointList_e_11 v5 σ) * (f_PointList_e_11 v5 σ))) < ((f_PointList_m_11 v5 σ) * v3) then f_X_between_l17 N σ n v1 v2 v3 v4 (v5 + (1 : Int32)) else f_X_between_l17 N σ n v1 v2 v3 (v4 + (1 : Int32)) (v5 + (1 : Int32)))))
set_option maxRecDepth 20000 in
set_option maxHeartbeats 4000000 in
theorem t_X_between_l17 (d : Nat) {N : Nat} (σ : aSt) {x : Int32} {P : Option Value → aSt → Prop} (hp : P (some (.int x)) σ) : ∀ (n : Nat) (d6 d7 : Option Value) (v1 : Int32) (v2 : Int32) (v3 : Int32) (v4 : Int32) (v5 : Int32), f_X_between_l17 N σ n v1 v2 v3 v4 v5 = some x → aGo (aCall MT (d + 1)) P mc_X_between 17 [some (.ref 0), some (.int v1), some (.int v2), some (.int v3), some (.int v4), some (.int v5), d6, d7] [] σ := by
  intro n
  induction n with
  | zero => intro d6 d7 v1 v2 v3 v4 v5 h; cases h
  | succ n ih =>
    intro d6 d7 v1 v2 v3 v4 v5 h
    rw [f_X_between_l17] at h
    refine go_call (r := some (.int (f_PointList_shown_11 σ))) (σc := σ) (σ1 := σ) (mi := 44) (vs := [.ref 11]) (k' := 21) (L' := [some (.ref 0), some (.int v1), some (.int v2), some (.int v3), some (.int v4), some (.int v5), d6, d7]) (S' := [.int v5]) 4 (fun P9 h9 => c_PointList_shown_11 (d + 0) σ h9) (fun n h => h) ?_
    refine go_if (c := (f_PointList_shown_11 σ) ≤ v5) (k1 := 52) (L1 := [some (.ref 0), some (.int v1), some (.int v2), some (.int v3), some (.int v4), some (.int v5), d6, d7]) (S1 := []) (σ1 := σ) (k2 := 22) (L2 := [some (.ref 0), some (.int v1), some (.int v2), some (.int v3), some (.int v4), some (.int v5), d6, d7]) (S2 := []) (σ2 := σ) 1 (fun n h => h) (fun hc4 => ?_) (fun hc4 => ?_)
    · rw [if_pos hc4] at h
      cases h
      exact go_ret 2 (fun _ => hp)
    · rw [if_neg hc4] at h
      refine go_call (r := some (.int (f_PointList_e_11 v5 σ))) (σc := σ) (σ1 := σ) (mi := 76) (vs := [.ref 11, .int v5]) (k' := 26) (L' := [some (.ref 0), some (.int v1), some (.int v2), some (.int v3), some (.int v4), some (.int v5), d6, d7]) (S' := []) 4 (fun P9 h9 => c_PointList_e_11 (d + 0) v5 σ h9) (fun n h => h) ?_
      refine go_call (r := some (.int (f_PointList_e_11 v5 σ))) (σc := σ) (σ1 := σ) (mi := 76) (vs := [.ref 11, .int v5]) (k' := 30) (L' := [some (.ref 0), some (.int v1), some (.int v2), some (.int v3), some (.int v4), some (.int v5), d6, d7]) (S' := [.int (f_PointList_e_11 v5 σ)]) 4 (fun P9 h9 => c_PointList_e_11 (d + 0) v5 σ h9) (fun n h => h) ?_
      refine go_call (r := some (.int (f_PointList_m_11 v5 σ))) (σc := σ) (σ1 := σ) (mi := 74) (vs := [.ref 11, .int v5]) (k' := 36) (L' := [some (.ref 0), some (.int v1), some (.int v2), some (.int v3), some (.int v4), some (.int v5), some (.int ((f_PointList_e_11 v5 σ) * (f_PointList_e_11 v5 σ))), d7]) (S' := []) 6 (fun P9 h9 => c_PointList_m_11 (d + 0) v5 σ h9) (fun n h => h) ?_
      refine go_if (c := ((f_PointList_m_11 v5 σ) * v3) < (v1 * ((f_PointList_e_11 v5 σ) * (f_PointList_e_11 v5 σ)))) (k1 := 50) (L1 := [some (.ref 0), some (.int v1), some (.int v2), some (.int v3), some (.int v4), some (.int v5), some (.int ((f_PointList_e_11 v5 σ) * (f_PointList_e_11 v5 σ))), some (.int ((f_PointList_m_11 v5 σ) * v3))]) (S1 := []) (σ1 := σ) (k2 := 44) (L2 := [some (.ref 0), some (.int v1), some (.int v2), some (.int v3), some (.int v4), some (.int v5), some (.int ((f_PointList_e_11 v5 σ) * (f_PointList_e_11 v5 σ))), some (.int ((f_PointList_m_11 v5 σ) * v3))]) (S2 := []) (σ2 := σ) 8 (fun n h => h) (fun hc5 => ?_) (fun hc5 => ?_)
      · rw [if_pos hc5] at h
        refine go_st (k' := 17) (L' := [some (.ref 0), some (.int v1), some (.int v2), some (.int v3), some (.int v4), some (.int (v5 + (1 : Int32))), some (.int ((f_PointList_e_11 v5 σ) * (f_PointList_e_11 v5 σ))), some (.int ((f_PointList_m_11 v5 σ) * v3))]) (S' := []) (σ' := σ) 2 (fun n h => h) ?_
        exact ih _ _ v1 v2 v3 v4 (v5 + (1 : Int32)) h
      · rw [if_neg hc5] at h
        refine go_if (c := (v2 * ((f_PointList_e_11 v5 σ) * (f_PointList_e_11 v5 σ))) < ((f_PointList_m_11 v5 σ) * v3)) (k1 := 50) (L1 := [some (.ref 0), some (.int v1), some (.int v2), some (.int v3), some (.int v4), some (.int v5), some (.int ((f_PointList_e_11 v5 σ) * (f_PointList_e_11 v5 σ))), some (.int ((f_PointList_m_11 v5 σ) * v3))]) (S1 := []) (σ1 := σ) (k2 := 49) (L2 := [some (.ref 0), some (.int v1), some (.int v2), some (.int v3), some (.int v4), some (.int v5), some (.int ((f_PointList_e_11 v5 σ) * (f_PointList_e_11 v5 σ))), some (.int ((f_PointList_m_11 v5 σ) * v3))]) (S2 := []) (σ2 := σ) 5 (fun n h => h) (fun hc6 => ?_) (fun hc6 => ?_)
        · rw [if_pos hc6] at h
          refine go_st (k' := 17) (L' := [some (.ref 0), some (.int v1), some (.int v2), some (.int v3), some (.int v4), some (.int (v5 + (1 : Int32))), some (.int ((f_PointList_e_11 v5 σ) * (f_PointList_e_11 v5 σ))), some (.int ((f_PointList_m_11 v5 σ) * v3))]) (S' := []) (σ' := σ) 2 (fun n h => h) ?_
          exact ih _ _ v1 v2 v3 v4 (v5 + (1 : Int32)) h
        · rw [if_neg hc6] at h
          refine go_st (k' := 17) (L' := [some (.ref 0), some (.int v1), some (.int v2), some (.int v3), some (.int (v4 + (1 : Int32))), some (.int (v5 + (1 : Int32))), some (.int ((f_PointList_e_11 v5 σ) * (f_PointList_e_11 v5 σ))), some (.int ((f_PointList_m_11 v5 σ) * v3))]) (S' := []) (σ' := σ) 3 (fun n h => h) ?_
          exact ih _ _ v1 v2 v3 (v4 + (1 : Int32)) (v5 + (1 : Int32)) h
def f_X_between (N : Nat) (p0 : Int32) (p1 : Int32) (p2 : Int32) (σ : aSt) : Option Int32 :=
  (if (σ.2.2 0 13) = true then (if (f_X_isPlace p0 p2) = true then (if (f_X_isPlace p1 p2) = true then f_X_between_l17 N σ N p0 p1 p2 (0 : Int32) (0 : Int32) else some (-2 : Int32)) else some (-2 : Int32)) else some (-2 : Int32))
set_option maxRecDepth 20000 in
set_option maxHeartbeats 4000000 in
theorem c_X_between (d : Nat) {N : Nat} (p0 : Int32) (p1 : Int32) (p2 : Int32) (σ : aSt) {P : Option Value → aSt → Prop} {x : Int32} (h : f_X_between N p0 p1 p2 σ = some x) (hp : P (some (.int x)) σ) : aCall MT (d + 2) 299 [.ref 0, .int p0, .int p1, .int p2] σ P := by
  unfold f_X_between at h
  refine call_of (code := mc_X_between) (L := [some (.ref 0), some (.int p0), some (.int p1), some (.int p2), none, none, none, none]) rfl rfl rfl rfl ?_
  refine go_ifz (b := (σ.2.2 0 13)) (k1 := 11) (L1 := [some (.ref 0), some (.int p0), some (.int p1), some (.int p2), none, none, none, none]) (S1 := []) (σ1 := σ) (k2 := 3) (L2 := [some (.ref 0), some (.int p0), some (.int p1), some (.int p2), none, none, none, none]) (S2 := []) (σ2 := σ) 3 (fun n h => h) (fun hc1 => ?_) (fun hc1 => ?_)
  · rw [if_neg hc1] at h
    cases h
    exact go_ret 2 (fun _ => hp)
  · rw [if_pos hc1] at h
    refine go_call (r := some (.int (b2i (f_X_isPlace p0 p2)))) (σc := σ) (σ1 := σ) (mi := 298) (vs := [.int p0, .int p2]) (k' := 6) (L' := [some (.ref 0), some (.int p0), some (.int p1), some (.int p2), none, none, none, none]) (S' := []) 3 (fun P9 h9 => c_X_isPlace (d + 0) p0 p2 σ h9) (fun n h => h) ?_
    refine go_ifz (b := (f_X_isPlace p0 p2)) (k1 := 11) (L1 := [some (.ref 0), some (.int p0), some (.int p1), some (.int p2), none, none, none, none]) (S1 := []) (σ1 := σ) (k2 := 7) (L2 := [some (.ref 0), some (.int p0), some (.int p1), some (.int p2), none, none, none, none]) (S2 := []) (σ2 := σ) 1 (fun n h => h) (fun hc2 => ?_) (fun hc2 => ?_)
    · rw [if_neg hc2] at h
      cases h
      exact go_ret 2 (fun _ => hp)
    · rw [if_pos hc2] at h
      refine go_call (r := some (.int (b2i (f_X_isPlace p1 p2)))) (σc := σ) (σ1 := σ) (mi := 298) (vs := [.int p1, .int p2]) (k' := 10) (L' := [some (.ref 0), some (.int p0), some (.int p1), some (.int p2), none, none, none, none]) (S' := []) 3 (fun P9 h9 => c_X_isPlace (d + 0) p1 p2 σ h9) (fun n h => h) ?_
      refine go_ifn (b := (f_X_isPlace p1 p2)) (k1 := 13) (L1 := [some (.ref 0), some (.int p0), some (.int p1), some (.int p2), none, none, none, none]) (S1 := []) (σ1 := σ) (k2 := 11) (L2 := [some (.ref 0), some (.int p0), some (.int p1), some (.int p2), none, none, none, none]) (S2 := []) (σ2 := σ) 1 (fun n h => h) (fun hc3 => ?_) (fun hc3 => ?_)
      · rw [if_pos hc3] at h
        refine go_st (k' := 17) (L' := [some (.ref 0), some (.int p0), some (.int p1), some (.int p2), some (.int (0 : Int32)), some (.int (0 : Int32)), none, none]) (S' := []) (σ' := σ) 4 (fun n h => h) ?_
        exact t_X_between_l17 d σ hp N _ _ p0 p1 p2 (0 : Int32) (0 : Int32) h
      · rw [if_neg hc3] at h
        cases h
        exact go_ret 2 (fun _ => hp)
def f_X_nearest_l17 (N : Nat) (σ : aSt) : Nat → Int32 → Int32 → Int32 → Int64 → Int64 → Int32 → Option Int32
  | 0, _, _, _, _, _, _ => none
  | n + 1, v1, v2, v3, v4, v6, v8 => (if (f_PointList_shown_11 σ) ≤ v8 then some v3 else (if v3 = (-1 : Int32) then f_X_nearest_l17 N σ n v1 v2 v8 (labs (((f_PointList_m_11 v8 σ).toInt64 * v2.toInt64) - (v1.toInt64 * ((f_PointList_e_11 v8 σ).toInt64 * (f_PointList_e_11 v8 σ).toInt64)))) ((f_PointList_e_11 v8 σ).toInt64 * (f_PointList_e_11 v8 σ).toInt64) (v8 + (1 : Int32)) else (if (v4 * ((f_PointList_e_11 v8 σ).toInt64 * (f_PointList_e_11 v8 σ).toInt64)) ≤ ((labs (((f_PointList_m_11 v8 σ).toInt64 * v2.toInt64) - (v1.toInt64 * ((f_PointList_e_11 v8 σ).toInt64 * (f_PointList_e_11 v8 σ).toInt64)))) * v6) then f_X_nearest_l17 N σ n v1 v2 v3 v4 v6 (v8 + (1 : Int32)) else f_X_nearest_l17 N σ n v1 v2 v8 (labs (((f_PointList_m_11 v8 σ).toInt64 * v2.toInt64) - (v1.toInt64 * ((f_PointList_e_11 v8 σ).toInt64 * (f_PointList_e_11 v8 σ).toInt64)))) ((f_PointList_e_11 v8 σ).toInt64 * (f_PointList_e_11 v8 σ).toInt64) (v8 + (1 : Int32)))))
set_option maxRecDepth 20000 in
set_option maxHeartbeats 4000000 in
theorem t_X_nearest_l17 (d : Nat) {N : Nat} (σ : aSt) {x : Int32} {P : Option Value → aSt → Prop} (hp : P (some (.int x)) σ) : ∀ (n : Nat) (d9 d10 d11 d12 : Option Value) (v1 : Int32) (v2 : Int32) (v3 : Int32) (v4 : Int64) (v6 : Int64) (v8 : Int32), f_X_nearest_l17 N σ n v1 v2 v3 v4 v6 v8 = some x → aGo (aCall MT (d + 1)) P mc_X_nearest 17 [some (.ref 0), some (.int v1), some (.int v2), some (.int v3), some (.long v4), none, some (.long v6), none, some (.int v8), d9, d10, d11, d12] [] σ := by
  intro n
  induction n with
  | zero => intro d9 d10 d11 d12 v1 v2 v3 v4 v6 v8 h; cases h
  | succ n ih =>
    intro d9 d10 d11 d12 v1 v2 v3 v4 v6 v8 h
    rw [f_X_nearest_l17] at h
    refine go_call (r := some (.int (f_PointList_shown_11 σ))) (σc := σ) (σ1 := σ) (mi := 44) (vs := [.ref 11]) (k' := 21) (L' := [some (.ref 0), some (.int v1), some (.int v2), some (.int v3), some (.long v4), none, some (.long v6), none, some (.int v8), d9, d10, d11, d12]) (S' := [.int v8]) 4 (fun P9 h9 => c_PointList_shown_11 (d + 0) σ h9) (fun n h => h) ?_
    refine go_if (c := (f_PointList_shown_11 σ) ≤ v8) (k1 := 68) (L1 := [some (.ref 0), some (.int v1), some (.int v2), some (.int v3), some (.long v4), none, some (.long v6), none, some (.int v8), d9, d10, d11, d12]) (S1 := []) (σ1 := σ) (k2 := 22) (L2 := [some (.ref 0), some (.int v1), some (.int v2), some (.int v3), some (.long v4), none, some (.long v6), none, some (.int v8), d9, d10, d11, d12]) (S2 := []) (σ2 := σ) 1 (fun n h => h) (fun hc3 => ?_) (fun hc3 => ?_)
    · rw [if_pos hc3] at h
      cases h
      exact go_ret 2 (fun _ => hp)
    · rw [if_neg hc3] at h
      refine go_call (r := some (.int (f_PointList_e_11 v8 σ))) (σc := σ) (σ1 := σ) (mi := 76) (vs := [.ref 11, .int v8]) (k' := 26) (L' := [some (.ref 0), some (.int v1), some (.int v2), some (.int v3), some (.long v4), none, some (.long v6), none, some (.int v8), d9, d10, d11, d12]) (S' := []) 4 (fun P9 h9 => c_PointList_e_11 (d + 0) v8 σ h9) (fun n h => h) ?_
      refine go_call (r := some (.int (f_PointList_e_11 v8 σ))) (σc := σ) (σ1 := σ) (mi := 76) (vs := [.ref 11, .int v8]) (k' := 31) (L' := [some (.ref 0), some (.int v1), some (.int v2), some (.int v3), some (.long v4), none, some (.long v6), none, some (.int v8), d9, d10, d11, d12]) (S' := [.long (f_PointList_e_11 v8 σ).toInt64]) 5 (fun P9 h9 => c_PointList_e_11 (d + 0) v8 σ h9) (fun n h => h) ?_
      refine go_call (r := some (.int (f_PointList_m_11 v8 σ))) (σc := σ) (σ1 := σ) (mi := 74) (vs := [.ref 11, .int v8]) (k' := 38) (L' := [some (.ref 0), some (.int v1), some (.int v2), some (.int v3), some (.long v4), none, some (.long v6), none, some (.int v8), some (.long ((f_PointList_e_11 v8 σ).toInt64 * (f_PointList_e_11 v8 σ).toInt64)), none, d11, d12]) (S' := []) 7 (fun P9 h9 => c_PointList_m_11 (d + 0) v8 σ h9) (fun n h => h) ?_
      refine go_if (c := v3 = (-1 : Int32)) (k1 := 60) (L1 := [some (.ref 0), some (.int v1), some (.int v2), some (.int v3), some (.long v4), none, some (.long v6), none, some (.int v8), some (.long ((f_PointList_e_11 v8 σ).toInt64 * (f_PointList_e_11 v8 σ).toInt64)), none, some (.long (labs (((f_PointList_m_11 v8 σ).toInt64 * v2.toInt64) - (v1.toInt64 * ((f_PointList_e_11 v8 σ).toInt64 * (f_PointList_e_11 v8 σ).toInt64))))), none]) (S1 := []) (σ1 := σ) (k2 := 52) (L2 := [some (.ref 0), some (.int v1), some (.int v2), some (.int v3), some (.long v4), none, some (.long v6), none, some (.int v8), some (.long ((f_PointList_e_11 v8 σ).toInt64 * (f_PointList_e_11 v8 σ).toInt64)), none, some (.long (labs (((f_PointList_m_11 v8 σ).toInt64 * v2.toInt64) - (v1.toInt64 * ((f_PointList_e_11 v8 σ).toInt64 * (f_PointList_e_11 v8 σ).toInt64))))), none]) (S2 := []) (σ2 := σ) 14 (fun n h => h) (fun hc4 => ?_) (fun hc4 => ?_)
      · rw [if_pos hc4] at h
        refine go_st (k' := 17) (L' := [some (.ref 0), some (.int v1), some (.int v2), some (.int v8), some (.long (labs (((f_PointList_m_11 v8 σ).toInt64 * v2.toInt64) - (v1.toInt64 * ((f_PointList_e_11 v8 σ).toInt64 * (f_PointList_e_11 v8 σ).toInt64))))), none, some (.long ((f_PointList_e_11 v8 σ).toInt64 * (f_PointList_e_11 v8 σ).toInt64)), none, some (.int (v8 + (1 : Int32))), some (.long ((f_PointList_e_11 v8 σ).toInt64 * (f_PointList_e_11 v8 σ).toInt64)), none, some (.long (labs (((f_PointList_m_11 v8 σ).toInt64 * v2.toInt64) - (v1.toInt64 * ((f_PointList_e_11 v8 σ).toInt64 * (f_PointList_e_11 v8 σ).toInt64))))), none]) (S' := []) (σ' := σ) 8 (fun n h => h) ?_
        exact ih _ _ _ _ v1 v2 v8 (labs (((f_PointList_m_11 v8 σ).toInt64 * v2.toInt64) - (v1.toInt64 * ((f_PointList_e_11 v8 σ).toInt64 * (f_PointList_e_11 v8 σ).toInt64)))) ((f_PointList_e_11 v8 σ).toInt64 * (f_PointList_e_11 v8 σ).toInt64) (v8 + (1 : Int32)) h
      · rw [if_neg hc4] at h
        refine go_iff (lcmp_ge ((labs (((f_PointList_m_11 v8 σ).toInt64 * v2.toInt64) - (v1.toInt64 * ((f_PointList_e_11 v8 σ).toInt64 * (f_PointList_e_11 v8 σ).toInt64)))) * v6) (v4 * ((f_PointList_e_11 v8 σ).toInt64 * (f_PointList_e_11 v8 σ).toInt64))) (k1 := 66) (L1 := [some (.ref 0), some (.int v1), some (.int v2), some (.int v3), some (.long v4), none, some (.long v6), none, some (.int v8), some (.long ((f_PointList_e_11 v8 σ).toInt64 * (f_PointList_e_11 v8 σ).toInt64)), none, some (.long (labs (((f_PointList_m_11 v8 σ).toInt64 * v2.toInt64) - (v1.toInt64 * ((f_PointList_e_11 v8 σ).toInt64 * (f_PointList_e_11 v8 σ).toInt64))))), none]) (S1 := []) (σ1 := σ) (k2 := 60) (L2 := [some (.ref 0), some (.int v1), some (.int v2), some (.int v3), some (.long v4), none, some (.long v6), none, some (.int v8), some (.long ((f_PointList_e_11 v8 σ).toInt64 * (f_PointList_e_11 v8 σ).toInt64)), none, some (.long (labs (((f_PointList_m_11 v8 σ).toInt64 * v2.toInt64) - (v1.toInt64 * ((f_PointList_e_11 v8 σ).toInt64 * (f_PointList_e_11 v8 σ).toInt64))))), none]) (S2 := []) (σ2 := σ) 8 (fun n h => h) (fun hc5 => ?_) (fun hc5 => ?_)
        · rw [if_pos hc5] at h
          refine go_st (k' := 17) (L' := [some (.ref 0), some (.int v1), some (.int v2), some (.int v3), some (.long v4), none, some (.long v6), none, some (.int (v8 + (1 : Int32))), some (.long ((f_PointList_e_11 v8 σ).toInt64 * (f_PointList_e_11 v8 σ).toInt64)), none, some (.long (labs (((f_PointList_m_11 v8 σ).toInt64 * v2.toInt64) - (v1.toInt64 * ((f_PointList_e_11 v8 σ).toInt64 * (f_PointList_e_11 v8 σ).toInt64))))), none]) (S' := []) (σ' := σ) 2 (fun n h => h) ?_
          exact ih _ _ _ _ v1 v2 v3 v4 v6 (v8 + (1 : Int32)) h
        · rw [if_neg hc5] at h
          refine go_st (k' := 17) (L' := [some (.ref 0), some (.int v1), some (.int v2), some (.int v8), some (.long (labs (((f_PointList_m_11 v8 σ).toInt64 * v2.toInt64) - (v1.toInt64 * ((f_PointList_e_11 v8 σ).toInt64 * (f_PointList_e_11 v8 σ).toInt64))))), none, some (.long ((f_PointList_e_11 v8 σ).toInt64 * (f_PointList_e_11 v8 σ).toInt64)), none, some (.int (v8 + (1 : Int32))), some (.long ((f_PointList_e_11 v8 σ).toInt64 * (f_PointList_e_11 v8 σ).toInt64)), none, some (.long (labs (((f_PointList_m_11 v8 σ).toInt64 * v2.toInt64) - (v1.toInt64 * ((f_PointList_e_11 v8 σ).toInt64 * (f_PointList_e_11 v8 σ).toInt64))))), none]) (S' := []) (σ' := σ) 8 (fun n h => h) ?_
          exact ih _ _ _ _ v1 v2 v8 (labs (((f_PointList_m_11 v8 σ).toInt64 * v2.toInt64) - (v1.toInt64 * ((f_PointList_e_11 v8 σ).toInt64 * (f_PointList_e_11 v8 σ).toInt64)))) ((f_PointList_e_11 v8 σ).toInt64 * (f_PointList_e_11 v8 σ).toInt64) (v8 + (1 : Int32)) h
def f_X_nearest (N : Nat) (p0 : Int32) (p1 : Int32) (σ : aSt) : Option Int32 :=
  (if (σ.2.2 0 13) = true then (if (f_X_isPlace p0 p1) = true then f_X_nearest_l17 N σ N p0 p1 (-1 : Int32) (0 : Int64) (1 : Int64) (0 : Int32) else some (-2 : Int32)) else some (-2 : Int32))
set_option maxRecDepth 20000 in
set_option maxHeartbeats 4000000 in
theorem c_X_nearest (d : Nat) {N : Nat} (p0 : Int32) (p1 : Int32) (σ : aSt) {P : Option Value → aSt → Prop} {x : Int32} (h : f_X_nearest N p0 p1 σ = some x) (hp : P (some (.int x)) σ) : aCall MT (d + 2) 301 [.ref 0, .int p0, .int p1] σ P := by
  unfold f_X_nearest at h
  refine call_of (code := mc_X_nearest) (L := [some (.ref 0), some (.int p0), some (.int p1), none, none, none, none, none, none, none, none, none, none]) rfl rfl rfl rfl ?_
  refine go_ifz (b := (σ.2.2 0 13)) (k1 := 7) (L1 := [some (.ref 0), some (.int p0), some (.int p1), none, none, none, none, none, none, none, none, none, none]) (S1 := []) (σ1 := σ) (k2 := 3) (L2 := [some (.ref 0), some (.int p0), some (.int p1), none, none, none, none, none, none, none, none, none, none]) (S2 := []) (σ2 := σ) 3 (fun n h => h) (fun hc1 => ?_) (fun hc1 => ?_)
  · rw [if_neg hc1] at h
    cases h
    exact go_ret 2 (fun _ => hp)
  · rw [if_pos hc1] at h
    refine go_call (r := some (.int (b2i (f_X_isPlace p0 p1)))) (σc := σ) (σ1 := σ) (mi := 298) (vs := [.int p0, .int p1]) (k' := 6) (L' := [some (.ref 0), some (.int p0), some (.int p1), none, none, none, none, none, none, none, none, none, none]) (S' := []) 3 (fun P9 h9 => c_X_isPlace (d + 0) p0 p1 σ h9) (fun n h => h) ?_
    refine go_ifn (b := (f_X_isPlace p0 p1)) (k1 := 9) (L1 := [some (.ref 0), some (.int p0), some (.int p1), none, none, none, none, none, none, none, none, none, none]) (S1 := []) (σ1 := σ) (k2 := 7) (L2 := [some (.ref 0), some (.int p0), some (.int p1), none, none, none, none, none, none, none, none, none, none]) (S2 := []) (σ2 := σ) 1 (fun n h => h) (fun hc2 => ?_) (fun hc2 => ?_)
    · rw [if_pos hc2] at h
      refine go_st (k' := 17) (L' := [some (.ref 0), some (.int p0), some (.int p1), some (.int (-1 : Int32)), some (.long (0 : Int64)), none, some (.long (1 : Int64)), none, some (.int (0 : Int32)), none, none, none, none]) (S' := []) (σ' := σ) 8 (fun n h => h) ?_
      exact t_X_nearest_l17 d σ hp N _ _ _ _ p0 p1 (-1 : Int32) (0 : Int64) (1 : Int64) (0 : Int32) h
    · rw [if_neg hc2] at h
      cases h
      exact go_ret 2 (fun _ => hp)
def f_History_depth (σ : aSt) : Int32 :=
  (σ.1 6 1)
set_option maxRecDepth 20000 in
set_option maxHeartbeats 4000000 in
theorem c_History_depth (d : Nat) (σ : aSt) {P : Option Value → aSt → Prop} (h : P (some (.int ((f_History_depth σ)))) σ) : aCall MT (d + 1) 303 [.ref 6] σ P := by
  unfold f_History_depth at h
  refine call_of (code := mc_History_depth) (L := [some (.ref 6)]) rfl rfl rfl rfl ?_
  exact go_ret 3 (fun _ => h)
def f_History_pop (σ : aSt) : aSt :=
  (if (σ.1 6 1) ≤ 0 then σ else (s_i σ 6 1 ((σ.1 6 1) - (1 : Int32))))
set_option maxRecDepth 20000 in
set_option maxHeartbeats 4000000 in
theorem c_History_pop (d : Nat) (σ : aSt) {P : Option Value → aSt → Prop} (h : P none (f_History_pop σ)) : aCall MT (d + 1) 304 [.ref 6] σ P := by
  unfold f_History_pop at h
  refine call_of (code := mc_History_pop) (L := [some (.ref 6)]) rfl rfl rfl rfl ?_
  refine go_if (c := (σ.1 6 1) ≤ 0) (k1 := 9) (L1 := [some (.ref 6)]) (S1 := []) (σ1 := σ) (k2 := 3) (L2 := [some (.ref 6)]) (S2 := []) (σ2 := σ) 3 (fun n h => h) (fun hc1 => ?_) (fun hc1 => ?_)
  · rw [if_pos hc1] at h
    exact go_ret 1 (fun _ => h)
  · rw [if_neg hc1] at h
    exact go_ret 7 (fun _ => h)
def f_History_latest (p0 : Int32) (σ : aSt) : Int32 :=
  (f_pick σ 7 (((σ.1 6 1) * (4 : Int32)) + p0))
set_option maxRecDepth 20000 in
set_option maxHeartbeats 4000000 in
theorem c_History_latest (d : Nat) (p0 : Int32) (σ : aSt) {P : Option Value → aSt → Prop} (h : P (some (.int ((f_History_latest p0 σ)))) σ) : aCall MT (d + 2) 305 [.ref 6, .int p0] σ P := by
  unfold f_History_latest at h
  refine call_of (code := mc_History_latest) (L := [some (.ref 6), some (.int p0)]) rfl rfl rfl rfl ?_
  refine go_call (r := some (.int (f_pick σ 7 (((σ.1 6 1) * (4 : Int32)) + p0)))) (σc := σ) (σ1 := σ) (mi := 9) (vs := [.ref 7, .int (((σ.1 6 1) * (4 : Int32)) + p0)]) (k' := 9) (L' := [some (.ref 6), some (.int p0)]) (S' := []) 9 (fun P9 h9 => c_pick (d + 0) σ 7 rfl (((σ.1 6 1) * (4 : Int32)) + p0) h9) (fun n h => h) ?_
  exact go_ret 1 (fun _ => h)
def f_X_undo (N : Nat) (σ : aSt) : Option (Int32 × aSt) :=
  (if (σ.2.2 0 13) = true then (if (f_History_depth σ) ≠ 0 then (lt (f_History_pop σ) fun x3 => ((f_X_become N (f_History_latest (0 : Int32) x3) (f_History_latest (1 : Int32) x3) (f_History_latest (2 : Int32) x3) (f_History_latest (3 : Int32) x3) x3).bind fun x4 => some ((f_History_depth x4.2), x4.2))) else some ((-1 : Int32), σ)) else some ((-2 : Int32), σ))
set_option maxRecDepth 20000 in
set_option maxHeartbeats 4000000 in
theorem c_X_undo (d : Nat) {N : Nat} (σ : aSt) {P : Option Value → aSt → Prop} {x : (Int32 × aSt)} (h : f_X_undo N σ = some x) (hp : P (some (.int x.1)) x.2) : aCall MT (d + 7) 306 [.ref 0] σ P := by
  unfold f_X_undo at h
  refine call_of (code := mc_X_undo) (L := [some (.ref 0)]) rfl rfl rfl rfl ?_
  refine go_ifn (b := (σ.2.2 0 13)) (k1 := 5) (L1 := [some (.ref 0)]) (S1 := []) (σ1 := σ) (k2 := 3) (L2 := [some (.ref 0)]) (S2 := []) (σ2 := σ) 3 (fun n h => h) (fun hc1 => ?_) (fun hc1 => ?_)
  · rw [if_pos hc1] at h
    refine go_call (r := some (.int (f_History_depth σ))) (σc := σ) (σ1 := σ) (mi := 303) (vs := [.ref 6]) (k' := 8) (L' := [some (.ref 0)]) (S' := []) 3 (fun P9 h9 => c_History_depth (d + 5) σ h9) (fun n h => h) ?_
    refine go_if (c := (f_History_depth σ) ≠ 0) (k1 := 11) (L1 := [some (.ref 0)]) (S1 := []) (σ1 := σ) (k2 := 9) (L2 := [some (.ref 0)]) (S2 := []) (σ2 := σ) 1 (fun n h => h) (fun hc2 => ?_) (fun hc2 => ?_)
    · rw [if_pos hc2] at h
      obtain ⟨x3, hx3, h⟩ := lt_of h
      refine go_call (r := none) (σc := σ) (σ1 := x3) (mi := 304) (vs := [.ref 6]) (k' := 14) (L' := [some (.ref 0)]) (S' := []) 3 (fun P9 h9 => c_History_pop (d + 5) σ (by rw [← hx3]; exact h9)) (fun n h => h) ?_
      refine go_call (r := some (.int (f_History_latest (0 : Int32) x3))) (σc := x3) (σ1 := x3) (mi := 305) (vs := [.ref 6, .int (0 : Int32)]) (k' := 19) (L' := [some (.ref 0)]) (S' := [.ref 0]) 5 (fun P9 h9 => c_History_latest (d + 4) (0 : Int32) x3 h9) (fun n h => h) ?_
      refine go_call (r := some (.int (f_History_latest (1 : Int32) x3))) (σc := x3) (σ1 := x3) (mi := 305) (vs := [.ref 6, .int (1 : Int32)]) (k' := 23) (L' := [some (.ref 0)]) (S' := [.int (f_History_latest (0 : Int32) x3), .ref 0]) 4 (fun P9 h9 => c_History_latest (d + 4) (1 : Int32) x3 h9) (fun n h => h) ?_
      refine go_call (r := some (.int (f_History_latest (2 : Int32) x3))) (σc := x3) (σ1 := x3) (mi := 305) (vs := [.ref 6, .int (2 : Int32)]) (k' := 27) (L' := [some (.ref 0)]) (S' := [.int (f_History_latest (1 : Int32) x3), .int (f_History_latest (0 : Int32) x3), .ref 0]) 4 (fun P9 h9 => c_History_latest (d + 4) (2 : Int32) x3 h9) (fun n h => h) ?_
      refine go_call (r := some (.int (f_History_latest (3 : Int32) x3))) (σc := x3) (σ1 := x3) (mi := 305) (vs := [.ref 6, .int (3 : Int32)]) (k' := 31) (L' := [some (.ref 0)]) (S' := [.int (f_History_latest (2 : Int32) x3), .int (f_History_latest (1 : Int32) x3), .int (f_History_latest (0 : Int32) x3), .ref 0]) 4 (fun P9 h9 => c_History_latest (d + 4) (3 : Int32) x3 h9) (fun n h => h) ?_
      obtain ⟨x4, hx4, h⟩ := bind_of h
      refine go_call (r := some (.int x4.1)) (σc := x3) (σ1 := x4.2) (mi := 45) (vs := [.ref 0, .int (f_History_latest (0 : Int32) x3), .int (f_History_latest (1 : Int32) x3), .int (f_History_latest (2 : Int32) x3), .int (f_History_latest (3 : Int32) x3)]) (k' := 32) (L' := [some (.ref 0)]) (S' := []) 1 (fun P9 h9 => c_X_become (d + 0) (f_History_latest (0 : Int32) x3) (f_History_latest (1 : Int32) x3) (f_History_latest (2 : Int32) x3) (f_History_latest (3 : Int32) x3) x3 hx4 h9) (fun n h => h) ?_
      refine go_call (r := some (.int (f_History_depth x4.2))) (σc := x4.2) (σ1 := x4.2) (mi := 303) (vs := [.ref 6]) (k' := 36) (L' := [some (.ref 0)]) (S' := []) 4 (fun P9 h9 => c_History_depth (d + 5) x4.2 h9) (fun n h => h) ?_
      cases h
      exact go_ret 1 (fun _ => hp)
    · rw [if_neg hc2] at h
      cases h
      exact go_ret 2 (fun _ => hp)
  · rw [if_neg hc1] at h
    cases h
    exact go_ret 2 (fun _ => hp)
def f_PointList_append_16 (p0 : Int32) (p1 : Int32) (p2 : Int32) (σ : aSt) : aSt :=
  (if (σ.1 16 5) < 0 then σ else (if (σ.1 16 5) < (121 : Int32) then (lt (f_store (s_l σ 20 (σ.1 16 5).toNatClampNeg ((((p2.toInt64 * (2097153 : Int64)) + p0.toInt64) * (2097153 : Int64)) + p1.toInt64)) 17 (σ.1 16 5) p0) fun x3 => (lt (f_store x3 18 (x3.1 16 5) p1) fun x4 => (lt (f_store x4 19 (x4.1 16 5) p2) fun x5 => (s_i x5 16 5 ((x5.1 16 5) + (1 : Int32)))))) else σ))
set_option maxRecDepth 20000 in
set_option maxHeartbeats 4000000 in
theorem c_PointList_append_16 (d : Nat) (p0 : Int32) (p1 : Int32) (p2 : Int32) (σ : aSt) {P : Option Value → aSt → Prop} (h : P none (f_PointList_append_16 p0 p1 p2 σ)) : aCall MT (d + 2) 39 [.ref 16, .int p0, .int p1, .int p2] σ P := by
  unfold f_PointList_append_16 at h
  refine call_of (code := mc_PointList_append) (L := [some (.ref 16), some (.int p0), some (.int p1), some (.int p2)]) rfl rfl rfl rfl ?_
  refine go_if (c := (σ.1 16 5) < 0) (k1 := 9) (L1 := [some (.ref 16), some (.int p0), some (.int p1), some (.int p2)]) (S1 := []) (σ1 := σ) (k2 := 3) (L2 := [some (.ref 16), some (.int p0), some (.int p1), some (.int p2)]) (S2 := []) (σ2 := σ) 3 (fun n h => h) (fun hc1 => ?_) (fun hc1 => ?_)
  · rw [if_pos hc1] at h
    exact go_ret 1 (fun _ => h)
  · rw [if_neg hc1] at h
    refine go_if (c := (σ.1 16 5) < (121 : Int32)) (k1 := 10) (L1 := [some (.ref 16), some (.int p0), some (.int p1), some (.int p2)]) (S1 := []) (σ1 := σ) (k2 := 9) (L2 := [some (.ref 16), some (.int p0), some (.int p1), some (.int p2)]) (S2 := []) (σ2 := σ) 6 (fun n h => h) (fun hc2 => ?_) (fun hc2 => ?_)
    · rw [if_pos hc2] at h
      refine go_q (Q := inb 1 σ 20 (σ.1 16 5)) (k' := 27) (L' := [some (.ref 16), some (.int p0), some (.int p1), some (.int p2)]) (S' := []) (σ' := (s_l σ 20 (σ.1 16 5).toNatClampNeg ((((p2.toInt64 * (2097153 : Int64)) + p0.toInt64) * (2097153 : Int64)) + p1.toInt64))) 17 (inb_mk rfl (Int32.not_lt.mp hc1) (hc2)) (fun n h => h) ?_
      obtain ⟨x3, hx3⟩ : ∃ x3, x3 = f_store (s_l σ 20 (σ.1 16 5).toNatClampNeg ((((p2.toInt64 * (2097153 : Int64)) + p0.toInt64) * (2097153 : Int64)) + p1.toInt64)) 17 (σ.1 16 5) p0 := ⟨_, rfl⟩
      rw [lt_eq, ← hx3] at h
      refine go_call (r := none) (σc := (s_l σ 20 (σ.1 16 5).toNatClampNeg ((((p2.toInt64 * (2097153 : Int64)) + p0.toInt64) * (2097153 : Int64)) + p1.toInt64))) (σ1 := x3) (mi := 1) (vs := [.ref 17, .int (σ.1 16 5), .int p0]) (k' := 33) (L' := [some (.ref 16), some (.int p0), some (.int p1), some (.int p2)]) (S' := []) 6 (fun P9 h9 => c_store (d + 0) (s_l σ 20 (σ.1 16 5).toNatClampNeg ((((p2.toInt64 * (2097153 : Int64)) + p0.toInt64) * (2097153 : Int64)) + p1.toInt64)) 17 rfl rfl (σ.1 16 5) p0 (by rw [← hx3]; exact h9)) (fun n h => h) ?_
      obtain ⟨x4, hx4⟩ : ∃ x4, x4 = f_store x3 18 (x3.1 16 5) p1 := ⟨_, rfl⟩
      rw [lt_eq, ← hx4] at h
      refine go_call (r := none) (σc := x3) (σ1 := x4) (mi := 1) (vs := [.ref 18, .int (x3.1 16 5), .int p1]) (k' := 39) (L' := [some (.ref 16), some (.int p0), some (.int p1), some (.int p2)]) (S' := []) 6 (fun P9 h9 => c_store (d + 0) x3 18 rfl rfl (x3.1 16 5) p1 (by rw [← hx4]; exact h9)) (fun n h => h) ?_
      obtain ⟨x5, hx5⟩ : ∃ x5, x5 = f_store x4 19 (x4.1 16 5) p2 := ⟨_, rfl⟩
      rw [lt_eq, ← hx5] at h
      refine go_call (r := none) (σc := x4) (σ1 := x5) (mi := 1) (vs := [.ref 19, .int (x4.1 16 5), .int p2]) (k' := 45) (L' := [some (.ref 16), some (.int p0), some (.int p1), some (.int p2)]) (S' := []) 6 (fun P9 h9 => c_store (d + 0) x4 19 rfl rfl (x4.1 16 5) p2 (by rw [← hx5]; exact h9)) (fun n h => h) ?_
      exact go_ret 7 (fun _ => h)
    · rw [if_neg hc2] at h
      exact go_ret 1 (fun _ => h)
def f_PointList_addSpot_16 (N : Nat) (p0 : Int32) (p1 : Int32) (σ : aSt) : Option aSt :=
  ((f_Whole_rootOf N (p0.toInt64 * (((p0.toInt64 * p0.toInt64) + (((σ.1 16 6) * p0).toInt64 * (p1.toInt64 * p1.toInt64))) + (((σ.1 16 7).toInt64 * (p1.toInt64 * p1.toInt64)) * (p1.toInt64 * p1.toInt64))))).bind fun x1 => (if x1.toInt32 < 0 then some σ else ((f_Whole_gcd N p0.toInt64 p1.toInt64).bind fun x3 => (if x3 = (1 : Int64) then (if x1.toInt32 ≤ 0 then (lt (f_PointList_append_16 p0 x1.toInt32 p1 σ) fun x6 => some x6) else (lt (f_PointList_append_16 p0 (-x1.toInt32) p1 σ) fun x7 => (lt (f_PointList_append_16 p0 x1.toInt32 p1 x7) fun x8 => some x8))) else some σ))))
set_option maxRecDepth 20000 in
set_option maxHeartbeats 4000000 in
theorem c_PointList_addSpot_16 (d : Nat) {N : Nat} (p0 : Int32) (p1 : Int32) (σ : aSt) {P : Option Value → aSt → Prop} {x : aSt} (h : f_PointList_addSpot_16 N p0 p1 σ = some x) (hp : P none x) : aCall MT (d + 4) 40 [.ref 16, .int p0, .int p1] σ P := by
  unfold f_PointList_addSpot_16 at h
  refine call_of (code := mc_PointList_addSpot) (L := [some (.ref 16), some (.int p0), some (.int p1), none, none, none, none, none]) rfl rfl rfl rfl ?_
  obtain ⟨x1, hx1, h⟩ := bind_of h
  refine go_call (r := some (.long x1)) (σc := σ) (σ1 := σ) (mi := 37) (vs := [.long (p0.toInt64 * (((p0.toInt64 * p0.toInt64) + (((σ.1 16 6) * p0).toInt64 * (p1.toInt64 * p1.toInt64))) + (((σ.1 16 7).toInt64 * (p1.toInt64 * p1.toInt64)) * (p1.toInt64 * p1.toInt64))))]) (k' := 33) (L' := [some (.ref 16), some (.int p0), some (.int p1), some (.long (p1.toInt64 * p1.toInt64)), none, some (.long (p0.toInt64 * (((p0.toInt64 * p0.toInt64) + (((σ.1 16 6) * p0).toInt64 * (p1.toInt64 * p1.toInt64))) + (((σ.1 16 7).toInt64 * (p1.toInt64 * p1.toInt64)) * (p1.toInt64 * p1.toInt64))))), none, none]) (S' := []) 33 (fun P9 h9 => c_Whole_rootOf (d + 0) (p0.toInt64 * (((p0.toInt64 * p0.toInt64) + (((σ.1 16 6) * p0).toInt64 * (p1.toInt64 * p1.toInt64))) + (((σ.1 16 7).toInt64 * (p1.toInt64 * p1.toInt64)) * (p1.toInt64 * p1.toInt64)))) σ hx1 h9) (fun n h => h) ?_
  refine go_if (c := x1.toInt32 < 0) (k1 := 45) (L1 := [some (.ref 16), some (.int p0), some (.int p1), some (.long (p1.toInt64 * p1.toInt64)), none, some (.long (p0.toInt64 * (((p0.toInt64 * p0.toInt64) + (((σ.1 16 6) * p0).toInt64 * (p1.toInt64 * p1.toInt64))) + (((σ.1 16 7).toInt64 * (p1.toInt64 * p1.toInt64)) * (p1.toInt64 * p1.toInt64))))), none, some (.int x1.toInt32)]) (S1 := []) (σ1 := σ) (k2 := 37) (L2 := [some (.ref 16), some (.int p0), some (.int p1), some (.long (p1.toInt64 * p1.toInt64)), none, some (.long (p0.toInt64 * (((p0.toInt64 * p0.toInt64) + (((σ.1 16 6) * p0).toInt64 * (p1.toInt64 * p1.toInt64))) + (((σ.1 16 7).toInt64 * (p1.toInt64 * p1.toInt64)) * (p1.toInt64 * p1.toInt64))))), none, some (.int x1.toInt32)]) (S2 := []) (σ2 := σ) 4 (fun n h => h) (fun hc2 => ?_) (fun hc2 => ?_)
  · rw [if_pos hc2] at h
    cases h
    exact go_ret 1 (fun _ => hp)
  · rw [if_neg hc2] at h
    obtain ⟨x3, hx3, h⟩ := bind_of h
    refine go_call (r := some (.long x3)) (σc := σ) (σ1 := σ) (mi := 38) (vs := [.long p0.toInt64, .long p1.toInt64]) (k' := 42) (L' := [some (.ref 16), some (.int p0), some (.int p1), some (.long (p1.toInt64 * p1.toInt64)), none, some (.long (p0.toInt64 * (((p0.toInt64 * p0.toInt64) + (((σ.1 16 6) * p0).toInt64 * (p1.toInt64 * p1.toInt64))) + (((σ.1 16 7).toInt64 * (p1.toInt64 * p1.toInt64)) * (p1.toInt64 * p1.toInt64))))), none, some (.int x1.toInt32)]) (S' := []) 5 (fun P9 h9 => c_Whole_gcd (d + 2) p0.toInt64 p1.toInt64 σ hx3 h9) (fun n h => h) ?_
    refine go_iff (lcmp_eq x3 (1 : Int64)) (k1 := 46) (L1 := [some (.ref 16), some (.int p0), some (.int p1), some (.long (p1.toInt64 * p1.toInt64)), none, some (.long (p0.toInt64 * (((p0.toInt64 * p0.toInt64) + (((σ.1 16 6) * p0).toInt64 * (p1.toInt64 * p1.toInt64))) + (((σ.1 16 7).toInt64 * (p1.toInt64 * p1.toInt64)) * (p1.toInt64 * p1.toInt64))))), none, some (.int x1.toInt32)]) (S1 := []) (σ1 := σ) (k2 := 45) (L2 := [some (.ref 16), some (.int p0), some (.int p1), some (.long (p1.toInt64 * p1.toInt64)), none, some (.long (p0.toInt64 * (((p0.toInt64 * p0.toInt64) + (((σ.1 16 6) * p0).toInt64 * (p1.toInt64 * p1.toInt64))) + (((σ.1 16 7).toInt64 * (p1.toInt64 * p1.toInt64)) * (p1.toInt64 * p1.toInt64))))), none, some (.int x1.toInt32)]) (S2 := []) (σ2 := σ) 3 (fun n h => h) (fun hc4 => ?_) (fun hc4 => ?_)
    · rw [if_pos hc4] at h
      refine go_if (c := x1.toInt32 ≤ 0) (k1 := 54) (L1 := [some (.ref 16), some (.int p0), some (.int p1), some (.long (p1.toInt64 * p1.toInt64)), none, some (.long (p0.toInt64 * (((p0.toInt64 * p0.toInt64) + (((σ.1 16 6) * p0).toInt64 * (p1.toInt64 * p1.toInt64))) + (((σ.1 16 7).toInt64 * (p1.toInt64 * p1.toInt64)) * (p1.toInt64 * p1.toInt64))))), none, some (.int x1.toInt32)]) (S1 := []) (σ1 := σ) (k2 := 48) (L2 := [some (.ref 16), some (.int p0), some (.int p1), some (.long (p1.toInt64 * p1.toInt64)), none, some (.long (p0.toInt64 * (((p0.toInt64 * p0.toInt64) + (((σ.1 16 6) * p0).toInt64 * (p1.toInt64 * p1.toInt64))) + (((σ.1 16 7).toInt64 * (p1.toInt64 * p1.toInt64)) * (p1.toInt64 * p1.toInt64))))), none, some (.int x1.toInt32)]) (S2 := []) (σ2 := σ) 2 (fun n h => h) (fun hc5 => ?_) (fun hc5 => ?_)
      · rw [if_pos hc5] at h
        obtain ⟨x6, hx6, h⟩ := lt_of h
        refine go_call (r := none) (σc := σ) (σ1 := x6) (mi := 39) (vs := [.ref 16, .int p0, .int x1.toInt32, .int p1]) (k' := 59) (L' := [some (.ref 16), some (.int p0), some (.int p1), some (.long (p1.toInt64 * p1.toInt64)), none, some (.long (p0.toInt64 * (((p0.toInt64 * p0.toInt64) + (((σ.1 16 6) * p0).toInt64 * (p1.toInt64 * p1.toInt64))) + (((σ.1 16 7).toInt64 * (p1.toInt64 * p1.toInt64)) * (p1.toInt64 * p1.toInt64))))), none, some (.int x1.toInt32)]) (S' := []) 5 (fun P9 h9 => c_PointList_append_16 (d + 1) p0 x1.toInt32 p1 σ (by rw [← hx6]; exact h9)) (fun n h => h) ?_
        cases h
        exact go_ret 1 (fun _ => hp)
      · rw [if_neg hc5] at h
        obtain ⟨x7, hx7, h⟩ := lt_of h
        refine go_call (r := none) (σc := σ) (σ1 := x7) (mi := 39) (vs := [.ref 16, .int p0, .int (-x1.toInt32), .int p1]) (k' := 54) (L' := [some (.ref 16), some (.int p0), some (.int p1), some (.long (p1.toInt64 * p1.toInt64)), none, some (.long (p0.toInt64 * (((p0.toInt64 * p0.toInt64) + (((σ.1 16 6) * p0).toInt64 * (p1.toInt64 * p1.toInt64))) + (((σ.1 16 7).toInt64 * (p1.toInt64 * p1.toInt64)) * (p1.toInt64 * p1.toInt64))))), none, some (.int x1.toInt32)]) (S' := []) 6 (fun P9 h9 => c_PointList_append_16 (d + 1) p0 (-x1.toInt32) p1 σ (by rw [← hx7]; exact h9)) (fun n h => h) ?_
        obtain ⟨x8, hx8, h⟩ := lt_of h
        refine go_call (r := none) (σc := x7) (σ1 := x8) (mi := 39) (vs := [.ref 16, .int p0, .int x1.toInt32, .int p1]) (k' := 59) (L' := [some (.ref 16), some (.int p0), some (.int p1), some (.long (p1.toInt64 * p1.toInt64)), none, some (.long (p0.toInt64 * (((p0.toInt64 * p0.toInt64) + (((σ.1 16 6) * p0).toInt64 * (p1.toInt64 * p1.toInt64))) + (((σ.1 16 7).toInt64 * (p1.toInt64 * p1.toInt64)) * (p1.toInt64 * p1.toInt64))))), none, some (.int x1.toInt32)]) (S' := []) 5 (fun P9 h9 => c_PointList_append_16 (d + 1) p0 x1.toInt32 p1 x7 (by rw [← hx8]; exact h9)) (fun n h => h) ?_
        cases h
        exact go_ret 1 (fun _ => hp)
    · rw [if_neg hc4] at h
      cases h
      exact go_ret 1 (fun _ => hp)
def f_PointList_fill_16_l30 (N : Nat) (k48 : Int32 → aSt → Option aSt) : Nat → Int32 → Int32 → aSt → Option aSt
  | 0, _, _, _ => none
  | n + 1, v5, v6, σ => (if (f_Sieve_size σ) ≤ v6 then k48 v5 σ else (if (120 : Int32) ≤ (σ.1 16 5) then k48 v5 σ else ((f_PointList_addSpot_16 N (f_Sieve_spot v6 σ) v5 σ).bind fun x5 => f_PointList_fill_16_l30 N k48 n v5 (v6 + (1 : Int32)) x5)))
set_option maxRecDepth 20000 in
set_option maxHeartbeats 4000000 in
theorem t_PointList_fill_16_l30 (d : Nat) {N : Nat} (k48 : Int32 → aSt → Option aSt) {x : aSt} {P : Option Value → aSt → Prop} (hp : P none x) (hk48 : ∀ (d1 d2 d3 d4 d6 : Option Value) (v5 : Int32) (σ : aSt), k48 v5 σ = some x → aGo (aCall MT (d + 4)) P mc_PointList_fill 48 [some (.ref 16), d1, d2, d3, d4, some (.int v5), d6] [] σ) : ∀ (n : Nat) (d1 d2 d3 d4 : Option Value) (v5 : Int32) (v6 : Int32) (σ : aSt), f_PointList_fill_16_l30 N k48 n v5 v6 σ = some x → aGo (aCall MT (d + 4)) P mc_PointList_fill 30 [some (.ref 16), d1, d2, d3, d4, some (.int v5), some (.int v6)] [] σ := by
  intro n
  induction n with
  | zero => intro d1 d2 d3 d4 v5 v6 σ h; cases h
  | succ n ih =>
    intro d1 d2 d3 d4 v5 v6 σ h
    rw [f_PointList_fill_16_l30] at h
    refine go_call (r := some (.int (f_Sieve_size σ))) (σc := σ) (σ1 := σ) (mi := 33) (vs := [.ref 8]) (k' := 34) (L' := [some (.ref 16), d1, d2, d3, d4, some (.int v5), some (.int v6)]) (S' := [.int v6]) 4 (fun P9 h9 => c_Sieve_size (d + 3) σ h9) (fun n h => h) ?_
    refine go_if (c := (f_Sieve_size σ) ≤ v6) (k1 := 48) (L1 := [some (.ref 16), d1, d2, d3, d4, some (.int v5), some (.int v6)]) (S1 := []) (σ1 := σ) (k2 := 35) (L2 := [some (.ref 16), d1, d2, d3, d4, some (.int v5), some (.int v6)]) (S2 := []) (σ2 := σ) 1 (fun n h => h) (fun hc3 => ?_) (fun hc3 => ?_)
    · rw [if_pos hc3] at h
      exact hk48 _ _ _ _ _ v5 σ h
    · rw [if_neg hc3] at h
      refine go_if (c := (120 : Int32) ≤ (σ.1 16 5)) (k1 := 48) (L1 := [some (.ref 16), d1, d2, d3, d4, some (.int v5), some (.int v6)]) (S1 := []) (σ1 := σ) (k2 := 39) (L2 := [some (.ref 16), d1, d2, d3, d4, some (.int v5), some (.int v6)]) (S2 := []) (σ2 := σ) 4 (fun n h => h) (fun hc4 => ?_) (fun hc4 => ?_)
      · rw [if_pos hc4] at h
        exact hk48 _ _ _ _ _ v5 σ h
      · rw [if_neg hc4] at h
        refine go_call (r := some (.int (f_Sieve_spot v6 σ))) (σc := σ) (σ1 := σ) (mi := 34) (vs := [.ref 8, .int v6]) (k' := 44) (L' := [some (.ref 16), d1, d2, d3, d4, some (.int v5), some (.int v6)]) (S' := [.ref 16]) 5 (fun P9 h9 => c_Sieve_spot (d + 2) v6 σ h9) (fun n h => h) ?_
        obtain ⟨x5, hx5, h⟩ := bind_of h
        refine go_call (r := none) (σc := σ) (σ1 := x5) (mi := 40) (vs := [.ref 16, .int (f_Sieve_spot v6 σ), .int v5]) (k' := 46) (L' := [some (.ref 16), d1, d2, d3, d4, some (.int v5), some (.int v6)]) (S' := []) 2 (fun P9 h9 => c_PointList_addSpot_16 (d + 0) (f_Sieve_spot v6 σ) v5 σ hx5 h9) (fun n h => h) ?_
        refine go_st (k' := 30) (L' := [some (.ref 16), d1, d2, d3, d4, some (.int v5), some (.int (v6 + (1 : Int32)))]) (S' := []) (σ' := x5) 2 (fun n h => h) ?_
        exact ih _ _ _ _ v5 (v6 + (1 : Int32)) x5 h
def f_PointList_fill_16_l24 (N : Nat) : Nat → Int32 → aSt → Option aSt
  | 0, _, _ => none
  | n + 1, v5, σ => (if (σ.1 16 9) < v5 then some σ else f_PointList_fill_16_l30 N (fun (y6 : Int32) σ7 => f_PointList_fill_16_l24 N n (y6 + (1 : Int32)) σ7) N v5 (0 : Int32) σ)
set_option maxRecDepth 20000 in
set_option maxHeartbeats 4000000 in
theorem t_PointList_fill_16_l24 (d : Nat) {N : Nat} {x : aSt} {P : Option Value → aSt → Prop} (hp : P none x) : ∀ (n : Nat) (d1 d2 d3 d4 d6 : Option Value) (v5 : Int32) (σ : aSt), f_PointList_fill_16_l24 N n v5 σ = some x → aGo (aCall MT (d + 4)) P mc_PointList_fill 24 [some (.ref 16), d1, d2, d3, d4, some (.int v5), d6] [] σ := by
  intro n
  induction n with
  | zero => intro d1 d2 d3 d4 d6 v5 σ h; cases h
  | succ n ih =>
    intro d1 d2 d3 d4 d6 v5 σ h
    rw [f_PointList_fill_16_l24] at h
    refine go_if (c := (σ.1 16 9) < v5) (k1 := 50) (L1 := [some (.ref 16), d1, d2, d3, d4, some (.int v5), d6]) (S1 := []) (σ1 := σ) (k2 := 28) (L2 := [some (.ref 16), d1, d2, d3, d4, some (.int v5), d6]) (S2 := []) (σ2 := σ) 4 (fun n h => h) (fun hc2 => ?_) (fun hc2 => ?_)
    · rw [if_pos hc2] at h
      cases h
      exact go_ret 1 (fun _ => hp)
    · rw [if_neg hc2] at h
      refine go_st (k' := 30) (L' := [some (.ref 16), d1, d2, d3, d4, some (.int v5), some (.int (0 : Int32))]) (S' := []) (σ' := σ) 2 (fun n h => h) ?_
      refine t_PointList_fill_16_l30 d _ hp (fun d1 d2 d3 d4 d6 y6 σ7 h => ?_) N _ _ _ _ v5 (0 : Int32) σ h
      · refine go_st (k' := 24) (L' := [some (.ref 16), d1, d2, d3, d4, some (.int (y6 + (1 : Int32))), d6]) (S' := []) (σ' := σ7) 2 (fun n h => h) ?_
        exact ih _ _ _ _ _ (y6 + (1 : Int32)) σ7 h
def f_PointList_fill_16 (N : Nat) (p0 : Int32) (p1 : Int32) (p2 : Int32) (p3 : Int32) (σ : aSt) : Option aSt :=
  ((f_Sieve_gather N p1 p2 (s_i (s_i (s_i (s_i (s_i σ 16 6 p0) 16 7 p1) 16 8 p2) 16 9 p3) 16 5 (0 : Int32))).bind fun x1 => f_PointList_fill_16_l24 N N (1 : Int32) x1)
set_option maxRecDepth 20000 in
set_option maxHeartbeats 4000000 in
theorem c_PointList_fill_16 (d : Nat) {N : Nat} (p0 : Int32) (p1 : Int32) (p2 : Int32) (p3 : Int32) (σ : aSt) {P : Option Value → aSt → Prop} {x : aSt} (h : f_PointList_fill_16 N p0 p1 p2 p3 σ = some x) (hp : P none x) : aCall MT (d + 5) 41 [.ref 16, .int p0, .int p1, .int p2, .int p3] σ P := by
  unfold f_PointList_fill_16 at h
  refine call_of (code := mc_PointList_fill) (L := [some (.ref 16), some (.int p0), some (.int p1), some (.int p2), some (.int p3), none, none]) rfl rfl rfl rfl ?_
  obtain ⟨x1, hx1, h⟩ := bind_of h
  refine go_call (r := none) (σc := (s_i (s_i (s_i (s_i (s_i σ 16 6 p0) 16 7 p1) 16 8 p2) 16 9 p3) 16 5 (0 : Int32))) (σ1 := x1) (mi := 32) (vs := [.ref 8, .int p1, .int p2]) (k' := 22) (L' := [some (.ref 16), some (.int p0), some (.int p1), some (.int p2), some (.int p3), none, none]) (S' := []) 22 (fun P9 h9 => c_Sieve_gather (d + 1) p1 p2 (s_i (s_i (s_i (s_i (s_i σ 16 6 p0) 16 7 p1) 16 8 p2) 16 9 p3) 16 5 (0 : Int32)) hx1 h9) (fun n h => h) ?_
  refine go_st (k' := 24) (L' := [some (.ref 16), some (.int p0), some (.int p1), some (.int p2), none, some (.int (1 : Int32)), none]) (S' := []) (σ' := x1) 2 (fun n h => h) ?_
  exact t_PointList_fill_16_l24 d hp N _ _ _ _ _ (1 : Int32) x1 h
def f_X_readyBeside (N : Nat) (σ : aSt) : Option aSt :=
  (if (σ.2.2 0 14) = true then some σ else ((f_PointList_fill_16 N ((-2 : Int32) * (f_PointList_a_11 σ)) (f_X_besideB σ) (f_PointList_most_11 σ) (f_PointList_deepest_11 σ) σ).bind fun x2 => some (s_b x2 0 14 true)))
set_option maxRecDepth 20000 in
set_option maxHeartbeats 4000000 in
theorem c_X_readyBeside (d : Nat) {N : Nat} (σ : aSt) {P : Option Value → aSt → Prop} {x : aSt} (h : f_X_readyBeside N σ = some x) (hp : P none x) : aCall MT (d + 6) 308 [.ref 0] σ P := by
  unfold f_X_readyBeside at h
  refine call_of (code := mc_X_readyBeside) (L := [some (.ref 0)]) rfl rfl rfl rfl ?_
  refine go_ifz (b := (σ.2.2 0 14)) (k1 := 4) (L1 := [some (.ref 0)]) (S1 := []) (σ1 := σ) (k2 := 3) (L2 := [some (.ref 0)]) (S2 := []) (σ2 := σ) 3 (fun n h => h) (fun hc1 => ?_) (fun hc1 => ?_)
  · rw [if_neg hc1] at h
    refine go_call (r := some (.int (f_PointList_a_11 σ))) (σc := σ) (σ1 := σ) (mi := 26) (vs := [.ref 11]) (k' := 10) (L' := [some (.ref 0)]) (S' := [.int (-2 : Int32), .ref 16]) 6 (fun P9 h9 => c_PointList_a_11 (d + 4) σ h9) (fun n h => h) ?_
    refine go_call (r := some (.int (f_X_besideB σ))) (σc := σ) (σ1 := σ) (mi := 138) (vs := [.ref 0]) (k' := 13) (L' := [some (.ref 0)]) (S' := [.int ((-2 : Int32) * (f_PointList_a_11 σ)), .ref 16]) 3 (fun P9 h9 => c_X_besideB (d + 3) σ h9) (fun n h => h) ?_
    refine go_call (r := some (.int (f_PointList_most_11 σ))) (σc := σ) (σ1 := σ) (mi := 69) (vs := [.ref 11]) (k' := 16) (L' := [some (.ref 0)]) (S' := [.int (f_X_besideB σ), .int ((-2 : Int32) * (f_PointList_a_11 σ)), .ref 16]) 3 (fun P9 h9 => c_PointList_most_11 (d + 4) σ h9) (fun n h => h) ?_
    refine go_call (r := some (.int (f_PointList_deepest_11 σ))) (σc := σ) (σ1 := σ) (mi := 70) (vs := [.ref 11]) (k' := 19) (L' := [some (.ref 0)]) (S' := [.int (f_PointList_most_11 σ), .int (f_X_besideB σ), .int ((-2 : Int32) * (f_PointList_a_11 σ)), .ref 16]) 3 (fun P9 h9 => c_PointList_deepest_11 (d + 4) σ h9) (fun n h => h) ?_
    obtain ⟨x2, hx2, h⟩ := bind_of h
    refine go_call (r := none) (σc := σ) (σ1 := x2) (mi := 41) (vs := [.ref 16, .int ((-2 : Int32) * (f_PointList_a_11 σ)), .int (f_X_besideB σ), .int (f_PointList_most_11 σ), .int (f_PointList_deepest_11 σ)]) (k' := 20) (L' := [some (.ref 0)]) (S' := []) 1 (fun P9 h9 => c_PointList_fill_16 (d + 0) ((-2 : Int32) * (f_PointList_a_11 σ)) (f_X_besideB σ) (f_PointList_most_11 σ) (f_PointList_deepest_11 σ) σ hx2 h9) (fun n h => h) ?_
    refine go_q (Q := (1 : Int32) = 0 ∨ (1 : Int32) = 1) (k' := 23) (L' := [some (.ref 0)]) (S' := []) (σ' := (s_b x2 0 14 true)) 3 (Or.inr rfl) (fun n h => h) ?_
    cases h
    exact go_ret 1 (fun _ => hp)
  · rw [if_pos hc1] at h
    cases h
    exact go_ret 1 (fun _ => hp)
def f_PointList_shown_16 (σ : aSt) : Int32 :=
  (imin (σ.1 16 5) (120 : Int32))
set_option maxRecDepth 20000 in
set_option maxHeartbeats 4000000 in
theorem c_PointList_shown_16 (d : Nat) (σ : aSt) {P : Option Value → aSt → Prop} (h : P (some (.int ((f_PointList_shown_16 σ)))) σ) : aCall MT (d + 1) 44 [.ref 16] σ P := by
  unfold f_PointList_shown_16 at h
  refine call_of (code := mc_PointList_shown) (L := [some (.ref 16)]) rfl rfl rfl rfl ?_
  exact go_ret 5 (fun _ => h)
def f_X_overMany (N : Nat) (σ : aSt) : Option (Int32 × aSt) :=
  (if (σ.2.2 0 13) = true then ((f_X_readyBeside N σ).bind fun x2 => some ((f_PointList_shown_16 x2), x2)) else some ((-2 : Int32), σ))
set_option maxRecDepth 20000 in
set_option maxHeartbeats 4000000 in
theorem c_X_overMany (d : Nat) {N : Nat} (σ : aSt) {P : Option Value → aSt → Prop} {x : (Int32 × aSt)} (h : f_X_overMany N σ = some x) (hp : P (some (.int x.1)) x.2) : aCall MT (d + 7) 309 [.ref 0] σ P := by
  unfold f_X_overMany at h
  refine call_of (code := mc_X_overMany) (L := [some (.ref 0)]) rfl rfl rfl rfl ?_
  refine go_ifn (b := (σ.2.2 0 13)) (k1 := 5) (L1 := [some (.ref 0)]) (S1 := []) (σ1 := σ) (k2 := 3) (L2 := [some (.ref 0)]) (S2 := []) (σ2 := σ) 3 (fun n h => h) (fun hc1 => ?_) (fun hc1 => ?_)
  · rw [if_pos hc1] at h
    obtain ⟨x2, hx2, h⟩ := bind_of h
    refine go_call (r := none) (σc := σ) (σ1 := x2) (mi := 308) (vs := [.ref 0]) (k' := 7) (L' := [some (.ref 0)]) (S' := []) 2 (fun P9 h9 => c_X_readyBeside (d + 0) σ hx2 h9) (fun n h => h) ?_
    refine go_call (r := some (.int (f_PointList_shown_16 x2))) (σc := x2) (σ1 := x2) (mi := 44) (vs := [.ref 16]) (k' := 10) (L' := [some (.ref 0)]) (S' := []) 3 (fun P9 h9 => c_PointList_shown_16 (d + 5) x2 h9) (fun n h => h) ?_
    cases h
    exact go_ret 1 (fun _ => hp)
  · rw [if_neg hc1] at h
    cases h
    exact go_ret 2 (fun _ => hp)
def f_PointList_m_16 (p0 : Int32) (σ : aSt) : Int32 :=
  (if p0 < 0 then (0 : Int32) else (if (121 : Int32) ≤ p0 then (0 : Int32) else (σ.1 17 p0.toNatClampNeg)))
set_option maxRecDepth 20000 in
set_option maxHeartbeats 4000000 in
theorem c_PointList_m_16 (d : Nat) (p0 : Int32) (σ : aSt) {P : Option Value → aSt → Prop} (h : P (some (.int ((f_PointList_m_16 p0 σ)))) σ) : aCall MT (d + 1) 74 [.ref 16, .int p0] σ P := by
  unfold f_PointList_m_16 at h
  refine call_of (code := mc_PointList_m) (L := [some (.ref 16), some (.int p0)]) rfl rfl rfl rfl ?_
  refine go_if (c := p0 < 0) (k1 := 12) (L1 := [some (.ref 16), some (.int p0)]) (S1 := []) (σ1 := σ) (k2 := 2) (L2 := [some (.ref 16), some (.int p0)]) (S2 := []) (σ2 := σ) 2 (fun n h => h) (fun hc1 => ?_) (fun hc1 => ?_)
  · rw [if_pos hc1] at h
    exact go_ret 2 (fun _ => h)
  · rw [if_neg hc1] at h
    refine go_if (c := (121 : Int32) ≤ p0) (k1 := 12) (L1 := [some (.ref 16), some (.int p0)]) (S1 := []) (σ1 := σ) (k2 := 7) (L2 := [some (.ref 16), some (.int p0)]) (S2 := []) (σ2 := σ) 5 (fun n h => h) (fun hc2 => ?_) (fun hc2 => ?_)
    · rw [if_pos hc2] at h
      exact go_ret 2 (fun _ => h)
    · rw [if_neg hc2] at h
      refine go_q (Q := inb 0 σ 17 p0) (k' := 11) (L' := [some (.ref 16), some (.int p0)]) (S' := [.int (σ.1 17 p0.toNatClampNeg)]) (σ' := σ) 4 (inb_mk rfl (Int32.not_lt.mp hc1) (Int32.not_le.mp hc2)) (fun n h => h) ?_
      exact go_ret 2 (fun _ => h)
def f_PointList_n_16 (p0 : Int32) (σ : aSt) : Int32 :=
  (if p0 < 0 then (0 : Int32) else (if (121 : Int32) ≤ p0 then (0 : Int32) else (σ.1 18 p0.toNatClampNeg)))
set_option maxRecDepth 20000 in
set_option maxHeartbeats 4000000 in
theorem c_PointList_n_16 (d : Nat) (p0 : Int32) (σ : aSt) {P : Option Value → aSt → Prop} (h : P (some (.int ((f_PointList_n_16 p0 σ)))) σ) : aCall MT (d + 1) 75 [.ref 16, .int p0] σ P := by
  unfold f_PointList_n_16 at h
  refine call_of (code := mc_PointList_n) (L := [some (.ref 16), some (.int p0)]) rfl rfl rfl rfl ?_
  refine go_if (c := p0 < 0) (k1 := 12) (L1 := [some (.ref 16), some (.int p0)]) (S1 := []) (σ1 := σ) (k2 := 2) (L2 := [some (.ref 16), some (.int p0)]) (S2 := []) (σ2 := σ) 2 (fun n h => h) (fun hc1 => ?_) (fun hc1 => ?_)
  · rw [if_pos hc1] at h
    exact go_ret 2 (fun _ => h)
  · rw [if_neg hc1] at h
    refine go_if (c := (121 : Int32) ≤ p0) (k1 := 12) (L1 := [some (.ref 16), some (.int p0)]) (S1 := []) (σ1 := σ) (k2 := 7) (L2 := [some (.ref 16), some (.int p0)]) (S2 := []) (σ2 := σ) 5 (fun n h => h) (fun hc2 => ?_) (fun hc2 => ?_)
    · rw [if_pos hc2] at h
      exact go_ret 2 (fun _ => h)
    · rw [if_neg hc2] at h
      refine go_q (Q := inb 0 σ 18 p0) (k' := 11) (L' := [some (.ref 16), some (.int p0)]) (S' := [.int (σ.1 18 p0.toNatClampNeg)]) (σ' := σ) 4 (inb_mk rfl (Int32.not_lt.mp hc1) (Int32.not_le.mp hc2)) (fun n h => h) ?_
      exact go_ret 2 (fun _ => h)
def f_PointList_e_16 (p0 : Int32) (σ : aSt) : Int32 :=
  (if p0 < 0 then (0 : Int32) else (if (121 : Int32) ≤ p0 then (0 : Int32) else (σ.1 19 p0.toNatClampNeg)))
set_option maxRecDepth 20000 in
set_option maxHeartbeats 4000000 in
theorem c_PointList_e_16 (d : Nat) (p0 : Int32) (σ : aSt) {P : Option Value → aSt → Prop} (h : P (some (.int ((f_PointList_e_16 p0 σ)))) σ) : aCall MT (d + 1) 76 [.ref 16, .int p0] σ P := by
  unfold f_PointList_e_16 at h
  refine call_of (code := mc_PointList_e) (L := [some (.ref 16), some (.int p0)]) rfl rfl rfl rfl ?_
  refine go_if (c := p0 < 0) (k1 := 12) (L1 := [some (.ref 16), some (.int p0)]) (S1 := []) (σ1 := σ) (k2 := 2) (L2 := [some (.ref 16), some (.int p0)]) (S2 := []) (σ2 := σ) 2 (fun n h => h) (fun hc1 => ?_) (fun hc1 => ?_)
  · rw [if_pos hc1] at h
    exact go_ret 2 (fun _ => h)
  · rw [if_neg hc1] at h
    refine go_if (c := (121 : Int32) ≤ p0) (k1 := 12) (L1 := [some (.ref 16), some (.int p0)]) (S1 := []) (σ1 := σ) (k2 := 7) (L2 := [some (.ref 16), some (.int p0)]) (S2 := []) (σ2 := σ) 5 (fun n h => h) (fun hc2 => ?_) (fun hc2 => ?_)
    · rw [if_pos hc2] at h
      exact go_ret 2 (fun _ => h)
    · rw [if_neg hc2] at h
      refine go_q (Q := inb 0 σ 19 p0) (k' := 11) (L' := [some (.ref 16), some (.int p0)]) (S' := [.int (σ.1 19 p0.toNatClampNeg)]) (σ' := σ) 4 (inb_mk rfl (Int32.not_lt.mp hc1) (Int32.not_le.mp hc2)) (fun n h => h) ?_
      exact go_ret 2 (fun _ => h)
def f_PointList_coordinate_16 (p0 : Int32) (p1 : Int32) (σ : aSt) : Int64 :=
  (if p1 = (0 : Int32) then (f_PointList_m_16 p0 σ).toInt64 else (if p1 = (1 : Int32) then (f_PointList_n_16 p0 σ).toInt64 else (if p1 = (2 : Int32) then (f_PointList_e_16 p0 σ).toInt64 else (-9223372036854775808 : Int64))))
set_option maxRecDepth 20000 in
set_option maxHeartbeats 4000000 in
theorem c_PointList_coordinate_16 (d : Nat) (p0 : Int32) (p1 : Int32) (σ : aSt) {P : Option Value → aSt → Prop} (h : P (some (.long ((f_PointList_coordinate_16 p0 p1 σ)))) σ) : aCall MT (d + 2) 77 [.ref 16, .int p0, .int p1] σ P := by
  unfold f_PointList_coordinate_16 at h
  refine call_of (code := mc_PointList_coordinate) (L := [some (.ref 16), some (.int p0), some (.int p1)]) rfl rfl rfl rfl ?_
  refine go_sw (L' := [some (.ref 16), some (.int p0), some (.int p1)]) (S' := []) (σ' := σ) 2 (fun n h => h) ?_
  refine tsw_cons (fun hc1 => ?_) (fun hc1 => ?_)
  · rw [if_pos (show p1 = (0 : Int32) from hc1)] at h
    refine go_call (r := some (.int (f_PointList_m_16 p0 σ))) (σc := σ) (σ1 := σ) (mi := 74) (vs := [.ref 16, .int p0]) (k' := 5) (L' := [some (.ref 16), some (.int p0), some (.int p1)]) (S' := []) 3 (fun P9 h9 => c_PointList_m_16 (d + 0) p0 σ h9) (fun n h => h) ?_
    exact go_ret 2 (fun _ => h)
  · rw [if_neg (show ¬ p1 = (0 : Int32) from hc1)] at h
    refine tsw_cons (fun hc2 => ?_) (fun hc2 => ?_)
    · rw [if_pos (show p1 = (1 : Int32) from hc2)] at h
      refine go_call (r := some (.int (f_PointList_n_16 p0 σ))) (σc := σ) (σ1 := σ) (mi := 75) (vs := [.ref 16, .int p0]) (k' := 10) (L' := [some (.ref 16), some (.int p0), some (.int p1)]) (S' := []) 3 (fun P9 h9 => c_PointList_n_16 (d + 0) p0 σ h9) (fun n h => h) ?_
      exact go_ret 2 (fun _ => h)
    · rw [if_neg (show ¬ p1 = (1 : Int32) from hc2)] at h
      refine tsw_cons (fun hc3 => ?_) (fun hc3 => ?_)
      · rw [if_pos (show p1 = (2 : Int32) from hc3)] at h
        refine go_call (r := some (.int (f_PointList_e_16 p0 σ))) (σc := σ) (σ1 := σ) (mi := 76) (vs := [.ref 16, .int p0]) (k' := 15) (L' := [some (.ref 16), some (.int p0), some (.int p1)]) (S' := []) 3 (fun P9 h9 => c_PointList_e_16 (d + 0) p0 σ h9) (fun n h => h) ?_
        exact go_ret 2 (fun _ => h)
      · rw [if_neg (show ¬ p1 = (2 : Int32) from hc3)] at h
        refine tsw_nil ?_
        exact go_ret 2 (fun _ => h)
def f_X_overPoint (N : Nat) (p0 : Int32) (p1 : Int32) (σ : aSt) : Option (Int64 × aSt) :=
  (if (σ.2.2 0 13) = true then ((f_X_readyBeside N σ).bind fun x2 => (if p0 < 0 then some ((-9223372036854775808 : Int64), x2) else (if (f_PointList_shown_16 x2) ≤ p0 then some ((-9223372036854775808 : Int64), x2) else some ((f_PointList_coordinate_16 p0 p1 x2), x2)))) else some ((-9223372036854775808 : Int64), σ))
set_option maxRecDepth 20000 in
set_option maxHeartbeats 4000000 in
theorem c_X_overPoint (d : Nat) {N : Nat} (p0 : Int32) (p1 : Int32) (σ : aSt) {P : Option Value → aSt → Prop} {x : (Int64 × aSt)} (h : f_X_overPoint N p0 p1 σ = some x) (hp : P (some (.long x.1)) x.2) : aCall MT (d + 7) 313 [.ref 0, .int p0, .int p1] σ P := by
  unfold f_X_overPoint at h
  refine call_of (code := mc_X_overPoint) (L := [some (.ref 0), some (.int p0), some (.int p1)]) rfl rfl rfl rfl ?_
  refine go_ifn (b := (σ.2.2 0 13)) (k1 := 5) (L1 := [some (.ref 0), some (.int p0), some (.int p1)]) (S1 := []) (σ1 := σ) (k2 := 3) (L2 := [some (.ref 0), some (.int p0), some (.int p1)]) (S2 := []) (σ2 := σ) 3 (fun n h => h) (fun hc1 => ?_) (fun hc1 => ?_)
  · rw [if_pos hc1] at h
    obtain ⟨x2, hx2, h⟩ := bind_of h
    refine go_call (r := none) (σc := σ) (σ1 := x2) (mi := 308) (vs := [.ref 0]) (k' := 7) (L' := [some (.ref 0), some (.int p0), some (.int p1)]) (S' := []) 2 (fun P9 h9 => c_X_readyBeside (d + 0) σ hx2 h9) (fun n h => h) ?_
    refine go_if (c := p0 < 0) (k1 := 20) (L1 := [some (.ref 0), some (.int p0), some (.int p1)]) (S1 := []) (σ1 := x2) (k2 := 9) (L2 := [some (.ref 0), some (.int p0), some (.int p1)]) (S2 := []) (σ2 := x2) 2 (fun n h => h) (fun hc3 => ?_) (fun hc3 => ?_)
    · rw [if_pos hc3] at h
      cases h
      exact go_ret 2 (fun _ => hp)
    · rw [if_neg hc3] at h
      refine go_call (r := some (.int (f_PointList_shown_16 x2))) (σc := x2) (σ1 := x2) (mi := 44) (vs := [.ref 16]) (k' := 13) (L' := [some (.ref 0), some (.int p0), some (.int p1)]) (S' := [.int p0]) 4 (fun P9 h9 => c_PointList_shown_16 (d + 5) x2 h9) (fun n h => h) ?_
      refine go_if (c := (f_PointList_shown_16 x2) ≤ p0) (k1 := 20) (L1 := [some (.ref 0), some (.int p0), some (.int p1)]) (S1 := []) (σ1 := x2) (k2 := 14) (L2 := [some (.ref 0), some (.int p0), some (.int p1)]) (S2 := []) (σ2 := x2) 1 (fun n h => h) (fun hc4 => ?_) (fun hc4 => ?_)
      · rw [if_pos hc4] at h
        cases h
        exact go_ret 2 (fun _ => hp)
      · rw [if_neg hc4] at h
        refine go_call (r := some (.long (f_PointList_coordinate_16 p0 p1 x2))) (σc := x2) (σ1 := x2) (mi := 77) (vs := [.ref 16, .int p0, .int p1]) (k' := 19) (L' := [some (.ref 0), some (.int p0), some (.int p1)]) (S' := []) 5 (fun P9 h9 => c_PointList_coordinate_16 (d + 4) p0 p1 x2 h9) (fun n h => h) ?_
        cases h
        exact go_ret 2 (fun _ => hp)
  · rw [if_neg hc1] at h
    cases h
    exact go_ret 2 (fun _ => hp)
def f_PointList_deepest_16 (σ : aSt) : Int32 :=
  (σ.1 16 9)
set_option maxRecDepth 20000 in
set_option maxHeartbeats 4000000 in
theorem c_PointList_deepest_16 (d : Nat) (σ : aSt) {P : Option Value → aSt → Prop} (h : P (some (.int ((f_PointList_deepest_16 σ)))) σ) : aCall MT (d + 1) 70 [.ref 16] σ P := by
  unfold f_PointList_deepest_16 at h
  refine call_of (code := mc_PointList_deepest) (L := [some (.ref 16)]) rfl rfl rfl rfl ?_
  exact go_ret 3 (fun _ => h)
def f_PointList_find_16_l52 (N : Nat) (σ : aSt) : Nat → Int64 → Int32 → Int32 → Int32 → Option Int32
  | 0, _, _, _, _ => none
  | n + 1, v7, v9, v10, v11 => (if (10 : Int32) ≤ v11 then some (-6 : Int32) else (if v10 < v9 then some (-6 : Int32) else (if ((v9 + v10) / (2 : Int32)) < 0 then some (-6 : Int32) else (if ((v9 + v10) / (2 : Int32)) < (121 : Int32) then (if (σ.2.1 20 ((v9 + v10) / (2 : Int32)).toNatClampNeg) ≠ v7 then (if v7 ≤ (σ.2.1 20 ((v9 + v10) / (2 : Int32)).toNatClampNeg) then f_PointList_find_16_l52 N σ n v7 v9 (((v9 + v10) / (2 : Int32)) - (1 : Int32)) (v11 + (1 : Int32)) else f_PointList_find_16_l52 N σ n v7 (((v9 + v10) / (2 : Int32)) + (1 : Int32)) v10 (v11 + (1 : Int32))) else some ((v9 + v10) / (2 : Int32))) else some (-6 : Int32)))))
set_option maxRecDepth 20000 in
set_option maxHeartbeats 4000000 in
theorem t_PointList_find_16_l52 (d : Nat) {N : Nat} (σ : aSt) {x : Int32} {P : Option Value → aSt → Prop} (hp : P (some (.int x)) σ) : ∀ (n : Nat) (d1 d2 d3 d4 d5 d6 d12 : Option Value) (v7 : Int64) (v9 : Int32) (v10 : Int32) (v11 : Int32), f_PointList_find_16_l52 N σ n v7 v9 v10 v11 = some x → aGo (aCall MT (d + 0)) P mc_PointList_find 52 [some (.ref 16), d1, d2, d3, d4, d5, d6, some (.long v7), none, some (.int v9), some (.int v10), some (.int v11), d12] [] σ := by
  intro n
  induction n with
  | zero => intro d1 d2 d3 d4 d5 d6 d12 v7 v9 v10 v11 h; cases h
  | succ n ih =>
    intro d1 d2 d3 d4 d5 d6 d12 v7 v9 v10 v11 h
    rw [f_PointList_find_16_l52] at h
    refine go_if (c := (10 : Int32) ≤ v11) (k1 := 100) (L1 := [some (.ref 16), d1, d2, d3, d4, d5, d6, some (.long v7), none, some (.int v9), some (.int v10), some (.int v11), d12]) (S1 := []) (σ1 := σ) (k2 := 55) (L2 := [some (.ref 16), d1, d2, d3, d4, d5, d6, some (.long v7), none, some (.int v9), some (.int v10), some (.int v11), d12]) (S2 := []) (σ2 := σ) 3 (fun n h => h) (fun hc7 => ?_) (fun hc7 => ?_)
    · rw [if_pos hc7] at h
      cases h
      exact go_ret 2 (fun _ => hp)
    · rw [if_neg hc7] at h
      refine go_if (c := v10 < v9) (k1 := 100) (L1 := [some (.ref 16), d1, d2, d3, d4, d5, d6, some (.long v7), none, some (.int v9), some (.int v10), some (.int v11), d12]) (S1 := []) (σ1 := σ) (k2 := 58) (L2 := [some (.ref 16), d1, d2, d3, d4, d5, d6, some (.long v7), none, some (.int v9), some (.int v10), some (.int v11), d12]) (S2 := []) (σ2 := σ) 3 (fun n h => h) (fun hc8 => ?_) (fun hc8 => ?_)
      · rw [if_pos hc8] at h
        cases h
        exact go_ret 2 (fun _ => hp)
      · rw [if_neg hc8] at h
        refine go_q (Q := ¬ (2 : Int32) = 0) (k' := 63) (L' := [some (.ref 16), d1, d2, d3, d4, d5, d6, some (.long v7), none, some (.int v9), some (.int v10), some (.int v11), d12]) (S' := [.int ((v9 + v10) / (2 : Int32))]) (σ' := σ) 5 (by decide) (fun n h => h) ?_
        refine go_if (c := ((v9 + v10) / (2 : Int32)) < 0) (k1 := 71) (L1 := [some (.ref 16), d1, d2, d3, d4, d5, d6, some (.long v7), none, some (.int v9), some (.int v10), some (.int v11), some (.int ((v9 + v10) / (2 : Int32)))]) (S1 := []) (σ1 := σ) (k2 := 66) (L2 := [some (.ref 16), d1, d2, d3, d4, d5, d6, some (.long v7), none, some (.int v9), some (.int v10), some (.int v11), some (.int ((v9 + v10) / (2 : Int32)))]) (S2 := []) (σ2 := σ) 3 (fun n h => h) (fun hc9 => ?_) (fun hc9 => ?_)
        · rw [if_pos hc9] at h
          cases h
          exact go_ret 2 (fun _ => hp)
        · rw [if_neg hc9] at h
          refine go_if (c := ((v9 + v10) / (2 : Int32)) < (121 : Int32)) (k1 := 73) (L1 := [some (.ref 16), d1, d2, d3, d4, d5, d6, some (.long v7), none, some (.int v9), some (.int v10), some (.int v11), some (.int ((v9 + v10) / (2 : Int32)))]) (S1 := []) (σ1 := σ) (k2 := 71) (L2 := [some (.ref 16), d1, d2, d3, d4, d5, d6, some (.long v7), none, some (.int v9), some (.int v10), some (.int v11), some (.int ((v9 + v10) / (2 : Int32)))]) (S2 := []) (σ2 := σ) 5 (fun n h => h) (fun hc10 => ?_) (fun hc10 => ?_)
          · rw [if_pos hc10] at h
            refine go_q (Q := inb 1 σ 20 ((v9 + v10) / (2 : Int32))) (k' := 77) (L' := [some (.ref 16), d1, d2, d3, d4, d5, d6, some (.long v7), none, some (.int v9), some (.int v10), some (.int v11), some (.int ((v9 + v10) / (2 : Int32)))]) (S' := [.long (σ.2.1 20 ((v9 + v10) / (2 : Int32)).toNatClampNeg)]) (σ' := σ) 4 (inb_mk rfl (Int32.not_lt.mp hc9) (hc10)) (fun n h => h) ?_
            refine go_iff (lcmp_ne (σ.2.1 20 ((v9 + v10) / (2 : Int32)).toNatClampNeg) v7) (k1 := 82) (L1 := [some (.ref 16), d1, d2, d3, d4, d5, d6, some (.long v7), none, some (.int v9), some (.int v10), some (.int v11), some (.int ((v9 + v10) / (2 : Int32)))]) (S1 := []) (σ1 := σ) (k2 := 80) (L2 := [some (.ref 16), d1, d2, d3, d4, d5, d6, some (.long v7), none, some (.int v9), some (.int v10), some (.int v11), some (.int ((v9 + v10) / (2 : Int32)))]) (S2 := []) (σ2 := σ) 3 (fun n h => h) (fun hc11 => ?_) (fun hc11 => ?_)
            · rw [if_pos hc11] at h
              refine go_q (Q := inb 1 σ 20 ((v9 + v10) / (2 : Int32))) (k' := 86) (L' := [some (.ref 16), d1, d2, d3, d4, d5, d6, some (.long v7), none, some (.int v9), some (.int v10), some (.int v11), some (.int ((v9 + v10) / (2 : Int32)))]) (S' := [.long (σ.2.1 20 ((v9 + v10) / (2 : Int32)).toNatClampNeg)]) (σ' := σ) 4 (inb_mk rfl (Int32.not_lt.mp hc9) (hc10)) (fun n h => h) ?_
              refine go_iff (lcmp_ge (σ.2.1 20 ((v9 + v10) / (2 : Int32)).toNatClampNeg) v7) (k1 := 94) (L1 := [some (.ref 16), d1, d2, d3, d4, d5, d6, some (.long v7), none, some (.int v9), some (.int v10), some (.int v11), some (.int ((v9 + v10) / (2 : Int32)))]) (S1 := []) (σ1 := σ) (k2 := 89) (L2 := [some (.ref 16), d1, d2, d3, d4, d5, d6, some (.long v7), none, some (.int v9), some (.int v10), some (.int v11), some (.int ((v9 + v10) / (2 : Int32)))]) (S2 := []) (σ2 := σ) 3 (fun n h => h) (fun hc12 => ?_) (fun hc12 => ?_)
              · rw [if_pos hc12] at h
                refine go_st (k' := 52) (L' := [some (.ref 16), d1, d2, d3, d4, d5, d6, some (.long v7), none, some (.int v9), some (.int (((v9 + v10) / (2 : Int32)) - (1 : Int32))), some (.int (v11 + (1 : Int32))), some (.int ((v9 + v10) / (2 : Int32)))]) (S' := []) (σ' := σ) 6 (fun n h => h) ?_
                exact ih _ _ _ _ _ _ _ v7 v9 (((v9 + v10) / (2 : Int32)) - (1 : Int32)) (v11 + (1 : Int32)) h
              · rw [if_neg hc12] at h
                refine go_st (k' := 52) (L' := [some (.ref 16), d1, d2, d3, d4, d5, d6, some (.long v7), none, some (.int (((v9 + v10) / (2 : Int32)) + (1 : Int32))), some (.int v10), some (.int (v11 + (1 : Int32))), some (.int ((v9 + v10) / (2 : Int32)))]) (S' := []) (σ' := σ) 7 (fun n h => h) ?_
                exact ih _ _ _ _ _ _ _ v7 (((v9 + v10) / (2 : Int32)) + (1 : Int32)) v10 (v11 + (1 : Int32)) h
            · rw [if_neg hc11] at h
              cases h
              exact go_ret 2 (fun _ => hp)
          · rw [if_neg hc10] at h
            cases h
            exact go_ret 2 (fun _ => hp)
def f_PointList_find_16 (N : Nat) (p0 : Int64) (p1 : Int64) (p2 : Int64) (σ : aSt) : Option Int32 :=
  (if p0 < (-(σ.1 16 8)).toInt64 then some (-6 : Int32) else (if (σ.1 16 8).toInt64 < p0 then some (-6 : Int32) else (if p2 < (1 : Int64) then some (-6 : Int32) else (if (σ.1 16 9).toInt64 < p2 then some (-6 : Int32) else (if p1 < (-1048576 : Int64) then some (-6 : Int32) else (if p1 ≤ (1048576 : Int64) then f_PointList_find_16_l52 N σ N ((((p2 * (2097153 : Int64)) + p0) * (2097153 : Int64)) + p1) (0 : Int32) ((σ.1 16 5) - (1 : Int32)) (0 : Int32) else some (-6 : Int32)))))))
set_option maxRecDepth 20000 in
set_option maxHeartbeats 4000000 in
theorem c_PointList_find_16 (d : Nat) {N : Nat} (p0 : Int64) (p1 : Int64) (p2 : Int64) (σ : aSt) {P : Option Value → aSt → Prop} {x : Int32} (h : f_PointList_find_16 N p0 p1 p2 σ = some x) (hp : P (some (.int x)) σ) : aCall MT (d + 1) 98 [.ref 16, .long p0, .long p1, .long p2] σ P := by
  unfold f_PointList_find_16 at h
  refine call_of (code := mc_PointList_find) (L := [some (.ref 16), some (.long p0), none, some (.long p1), none, some (.long p2), none, none, none, none, none, none, none]) rfl rfl rfl rfl ?_
  refine go_iff (lcmp_lt p0 (-(σ.1 16 8)).toInt64) (k1 := 31) (L1 := [some (.ref 16), some (.long p0), none, some (.long p1), none, some (.long p2), none, none, none, none, none, none, none]) (S1 := []) (σ1 := σ) (k2 := 7) (L2 := [some (.ref 16), some (.long p0), none, some (.long p1), none, some (.long p2), none, none, none, none, none, none, none]) (S2 := []) (σ2 := σ) 7 (fun n h => h) (fun hc1 => ?_) (fun hc1 => ?_)
  · rw [if_pos hc1] at h
    cases h
    exact go_ret 2 (fun _ => hp)
  · rw [if_neg hc1] at h
    refine go_iff (lcmp_gt p0 (σ.1 16 8).toInt64) (k1 := 31) (L1 := [some (.ref 16), some (.long p0), none, some (.long p1), none, some (.long p2), none, none, none, none, none, none, none]) (S1 := []) (σ1 := σ) (k2 := 13) (L2 := [some (.ref 16), some (.long p0), none, some (.long p1), none, some (.long p2), none, none, none, none, none, none, none]) (S2 := []) (σ2 := σ) 6 (fun n h => h) (fun hc2 => ?_) (fun hc2 => ?_)
    · rw [if_pos hc2] at h
      cases h
      exact go_ret 2 (fun _ => hp)
    · rw [if_neg hc2] at h
      refine go_iff (lcmp_lt p2 (1 : Int64)) (k1 := 31) (L1 := [some (.ref 16), some (.long p0), none, some (.long p1), none, some (.long p2), none, none, none, none, none, none, none]) (S1 := []) (σ1 := σ) (k2 := 17) (L2 := [some (.ref 16), some (.long p0), none, some (.long p1), none, some (.long p2), none, none, none, none, none, none, none]) (S2 := []) (σ2 := σ) 4 (fun n h => h) (fun hc3 => ?_) (fun hc3 => ?_)
      · rw [if_pos hc3] at h
        cases h
        exact go_ret 2 (fun _ => hp)
      · rw [if_neg hc3] at h
        refine go_iff (lcmp_gt p2 (σ.1 16 9).toInt64) (k1 := 31) (L1 := [some (.ref 16), some (.long p0), none, some (.long p1), none, some (.long p2), none, none, none, none, none, none, none]) (S1 := []) (σ1 := σ) (k2 := 23) (L2 := [some (.ref 16), some (.long p0), none, some (.long p1), none, some (.long p2), none, none, none, none, none, none, none]) (S2 := []) (σ2 := σ) 6 (fun n h => h) (fun hc4 => ?_) (fun hc4 => ?_)
        · rw [if_pos hc4] at h
          cases h
          exact go_ret 2 (fun _ => hp)
        · rw [if_neg hc4] at h
          refine go_iff (lcmp_lt p1 (-1048576 : Int64)) (k1 := 31) (L1 := [some (.ref 16), some (.long p0), none, some (.long p1), none, some (.long p2), none, none, none, none, none, none, none]) (S1 := []) (σ1 := σ) (k2 := 27) (L2 := [some (.ref 16), some (.long p0), none, some (.long p1), none, some (.long p2), none, none, none, none, none, none, none]) (S2 := []) (σ2 := σ) 4 (fun n h => h) (fun hc5 => ?_) (fun hc5 => ?_)
          · rw [if_pos hc5] at h
            cases h
            exact go_ret 2 (fun _ => hp)
          · rw [if_neg hc5] at h
            refine go_iff (lcmp_le p1 (1048576 : Int64)) (k1 := 33) (L1 := [some (.ref 16), some (.long p0), none, some (.long p1), none, some (.long p2), none, none, none, none, none, none, none]) (S1 := []) (σ1 := σ) (k2 := 31) (L2 := [some (.ref 16), some (.long p0), none, some (.long p1), none, some (.long p2), none, none, none, none, none, none, none]) (S2 := []) (σ2 := σ) 4 (fun n h => h) (fun hc6 => ?_) (fun hc6 => ?_)
            · rw [if_pos hc6] at h
              refine go_st (k' := 52) (L' := [some (.ref 16), some (.long p0), none, some (.long p1), none, some (.long p2), none, some (.long ((((p2 * (2097153 : Int64)) + p0) * (2097153 : Int64)) + p1)), none, some (.int (0 : Int32)), some (.int ((σ.1 16 5) - (1 : Int32))), some (.int (0 : Int32)), none]) (S' := []) (σ' := σ) 19 (fun n h => h) ?_
              exact t_PointList_find_16_l52 d σ hp N _ _ _ _ _ _ _ ((((p2 * (2097153 : Int64)) + p0) * (2097153 : Int64)) + p1) (0 : Int32) ((σ.1 16 5) - (1 : Int32)) (0 : Int32) h
            · rw [if_neg hc6] at h
              cases h
              exact go_ret 2 (fun _ => hp)
def f_X_goOver_11_16 (N : Nat) (p1 : Int32) (p3 : Int32) (σ : aSt) : Option Int32 :=
  (if p1 = (1000 : Int32) then some (1000 : Int32) else (if (f_PointList_m_11 p1 σ) ≠ 0 then ((f_Whole_gcd N (f_PointList_n_11 p1 σ).toInt64 ((p3.toInt64 * (f_PointList_m_11 p1 σ).toInt64) * (f_PointList_e_11 p1 σ).toInt64)).bind fun x3 => (if (labs (f_Whole_quotient ((p3.toInt64 * (f_PointList_m_11 p1 σ).toInt64) * (f_PointList_e_11 p1 σ).toInt64) x3)) ≤ (f_PointList_deepest_16 σ).toInt64 then ((f_PointList_find_16 N ((f_Whole_quotient (f_PointList_n_11 p1 σ).toInt64 x3) * (f_Whole_quotient (f_PointList_n_11 p1 σ).toInt64 x3)) (f_Whole_quotient (((((f_PointList_n_11 p1 σ).toInt64 * ((((((f_PointList_b_11 σ).toInt64 * (f_PointList_e_11 p1 σ).toInt64) * (f_PointList_e_11 p1 σ).toInt64) * (f_PointList_e_11 p1 σ).toInt64) * (f_PointList_e_11 p1 σ).toInt64) - ((f_PointList_m_11 p1 σ).toInt64 * (f_PointList_m_11 p1 σ).toInt64))) * (labs (f_Whole_quotient ((p3.toInt64 * (f_PointList_m_11 p1 σ).toInt64) * (f_PointList_e_11 p1 σ).toInt64) x3))) * (labs (f_Whole_quotient ((p3.toInt64 * (f_PointList_m_11 p1 σ).toInt64) * (f_PointList_e_11 p1 σ).toInt64) x3))) * (labs (f_Whole_quotient ((p3.toInt64 * (f_PointList_m_11 p1 σ).toInt64) * (f_PointList_e_11 p1 σ).toInt64) x3))) (((((((p3.toInt64 * p3.toInt64) * p3.toInt64) * (f_PointList_e_11 p1 σ).toInt64) * (f_PointList_e_11 p1 σ).toInt64) * (f_PointList_e_11 p1 σ).toInt64) * (f_PointList_m_11 p1 σ).toInt64) * (f_PointList_m_11 p1 σ).toInt64)) (labs (f_Whole_quotient ((p3.toInt64 * (f_PointList_m_11 p1 σ).toInt64) * (f_PointList_e_11 p1 σ).toInt64) x3)) σ).bind fun x5 => (if (f_PointList_shown_16 σ) ≤ x5 then some (-6 : Int32) else some x5)) else some (-6 : Int32))) else some (1000 : Int32)))
set_option maxRecDepth 20000 in
set_option maxHeartbeats 4000000 in
theorem c_X_goOver_11_16 (d : Nat) {N : Nat} (p1 : Int32) (p3 : Int32) (σ : aSt) {P : Option Value → aSt → Prop} {x : Int32} (h : f_X_goOver_11_16 N p1 p3 σ = some x) (hp : P (some (.int x)) σ) : aCall MT (d + 2) 315 [.ref 11, .int p1, .ref 16, .int p3] σ P := by
  unfold f_X_goOver_11_16 at h
  refine call_of (code := mc_X_goOver) (L := [some (.ref 11), some (.int p1), some (.ref 16), some (.int p3), none, none, none, none, none, none, none, none, none, none, none, none, none, none, none, none, none, none, none]) rfl rfl rfl rfl ?_
  refine go_if (c := p1 = (1000 : Int32)) (k1 := 7) (L1 := [some (.ref 11), some (.int p1), some (.ref 16), some (.int p3), none, none, none, none, none, none, none, none, none, none, none, none, none, none, none, none, none, none, none]) (S1 := []) (σ1 := σ) (k2 := 3) (L2 := [some (.ref 11), some (.int p1), some (.ref 16), some (.int p3), none, none, none, none, none, none, none, none, none, none, none, none, none, none, none, none, none, none, none]) (S2 := []) (σ2 := σ) 3 (fun n h => h) (fun hc1 => ?_) (fun hc1 => ?_)
  · rw [if_pos hc1] at h
    cases h
    exact go_ret 2 (fun _ => hp)
  · rw [if_neg hc1] at h
    refine go_call (r := some (.int (f_PointList_m_11 p1 σ))) (σc := σ) (σ1 := σ) (mi := 74) (vs := [.ref 11, .int p1]) (k' := 6) (L' := [some (.ref 11), some (.int p1), some (.ref 16), some (.int p3), none, none, none, none, none, none, none, none, none, none, none, none, none, none, none, none, none, none, none]) (S' := []) 3 (fun P9 h9 => c_PointList_m_11 (d + 0) p1 σ h9) (fun n h => h) ?_
    refine go_if (c := (f_PointList_m_11 p1 σ) ≠ 0) (k1 := 9) (L1 := [some (.ref 11), some (.int p1), some (.ref 16), some (.int p3), none, none, none, none, none, none, none, none, none, none, none, none, none, none, none, none, none, none, none]) (S1 := []) (σ1 := σ) (k2 := 7) (L2 := [some (.ref 11), some (.int p1), some (.ref 16), some (.int p3), none, none, none, none, none, none, none, none, none, none, none, none, none, none, none, none, none, none, none]) (S2 := []) (σ2 := σ) 1 (fun n h => h) (fun hc2 => ?_) (fun hc2 => ?_)
    · rw [if_pos hc2] at h
      refine go_call (r := some (.int (f_PointList_m_11 p1 σ))) (σc := σ) (σ1 := σ) (mi := 74) (vs := [.ref 11, .int p1]) (k' := 12) (L' := [some (.ref 11), some (.int p1), some (.ref 16), some (.int p3), none, none, none, none, none, none, none, none, none, none, none, none, none, none, none, none, none, none, none]) (S' := []) 3 (fun P9 h9 => c_PointList_m_11 (d + 0) p1 σ h9) (fun n h => h) ?_
      refine go_call (r := some (.int (f_PointList_n_11 p1 σ))) (σc := σ) (σ1 := σ) (mi := 75) (vs := [.ref 11, .int p1]) (k' := 17) (L' := [some (.ref 11), some (.int p1), some (.ref 16), some (.int p3), some (.long (f_PointList_m_11 p1 σ).toInt64), none, none, none, none, none, none, none, none, none, none, none, none, none, none, none, none, none, none]) (S' := []) 5 (fun P9 h9 => c_PointList_n_11 (d + 0) p1 σ h9) (fun n h => h) ?_
      refine go_call (r := some (.int (f_PointList_e_11 p1 σ))) (σc := σ) (σ1 := σ) (mi := 76) (vs := [.ref 11, .int p1]) (k' := 22) (L' := [some (.ref 11), some (.int p1), some (.ref 16), some (.int p3), some (.long (f_PointList_m_11 p1 σ).toInt64), none, some (.long (f_PointList_n_11 p1 σ).toInt64), none, none, none, none, none, none, none, none, none, none, none, none, none, none, none, none]) (S' := []) 5 (fun P9 h9 => c_PointList_e_11 (d + 0) p1 σ h9) (fun n h => h) ?_
      obtain ⟨x3, hx3, h⟩ := bind_of h
      refine go_call (r := some (.long x3)) (σc := σ) (σ1 := σ) (mi := 38) (vs := [.long (f_PointList_n_11 p1 σ).toInt64, .long ((p3.toInt64 * (f_PointList_m_11 p1 σ).toInt64) * (f_PointList_e_11 p1 σ).toInt64)]) (k' := 34) (L' := [some (.ref 11), some (.int p1), some (.ref 16), some (.int p3), some (.long (f_PointList_m_11 p1 σ).toInt64), none, some (.long (f_PointList_n_11 p1 σ).toInt64), none, some (.long (f_PointList_e_11 p1 σ).toInt64), none, some (.long ((p3.toInt64 * (f_PointList_m_11 p1 σ).toInt64) * (f_PointList_e_11 p1 σ).toInt64)), none, none, none, none, none, none, none, none, none, none, none, none]) (S' := []) 12 (fun P9 h9 => c_Whole_gcd (d + 0) (f_PointList_n_11 p1 σ).toInt64 ((p3.toInt64 * (f_PointList_m_11 p1 σ).toInt64) * (f_PointList_e_11 p1 σ).toInt64) σ hx3 h9) (fun n h => h) ?_
      refine go_call (r := some (.long (f_Whole_quotient (f_PointList_n_11 p1 σ).toInt64 x3))) (σc := σ) (σ1 := σ) (mi := 97) (vs := [.long (f_PointList_n_11 p1 σ).toInt64, .long x3]) (k' := 38) (L' := [some (.ref 11), some (.int p1), some (.ref 16), some (.int p3), some (.long (f_PointList_m_11 p1 σ).toInt64), none, some (.long (f_PointList_n_11 p1 σ).toInt64), none, some (.long (f_PointList_e_11 p1 σ).toInt64), none, some (.long ((p3.toInt64 * (f_PointList_m_11 p1 σ).toInt64) * (f_PointList_e_11 p1 σ).toInt64)), none, some (.long x3), none, none, none, none, none, none, none, none, none, none]) (S' := []) 4 (fun P9 h9 => c_Whole_quotient (d + 0) (f_PointList_n_11 p1 σ).toInt64 x3 σ h9) (fun n h => h) ?_
      refine go_call (r := some (.long (f_Whole_quotient ((p3.toInt64 * (f_PointList_m_11 p1 σ).toInt64) * (f_PointList_e_11 p1 σ).toInt64) x3))) (σc := σ) (σ1 := σ) (mi := 97) (vs := [.long ((p3.toInt64 * (f_PointList_m_11 p1 σ).toInt64) * (f_PointList_e_11 p1 σ).toInt64), .long x3]) (k' := 42) (L' := [some (.ref 11), some (.int p1), some (.ref 16), some (.int p3), some (.long (f_PointList_m_11 p1 σ).toInt64), none, some (.long (f_PointList_n_11 p1 σ).toInt64), none, some (.long (f_PointList_e_11 p1 σ).toInt64), none, some (.long ((p3.toInt64 * (f_PointList_m_11 p1 σ).toInt64) * (f_PointList_e_11 p1 σ).toInt64)), none, some (.long x3), none, some (.long (f_Whole_quotient (f_PointList_n_11 p1 σ).toInt64 x3)), none, none, none, none, none, none, none, none]) (S' := []) 4 (fun P9 h9 => c_Whole_quotient (d + 0) ((p3.toInt64 * (f_PointList_m_11 p1 σ).toInt64) * (f_PointList_e_11 p1 σ).toInt64) x3 σ h9) (fun n h => h) ?_
      refine go_call (r := some (.int (f_PointList_deepest_16 σ))) (σc := σ) (σ1 := σ) (mi := 70) (vs := [.ref 16]) (k' := 47) (L' := [some (.ref 11), some (.int p1), some (.ref 16), some (.int p3), some (.long (f_PointList_m_11 p1 σ).toInt64), none, some (.long (f_PointList_n_11 p1 σ).toInt64), none, some (.long (f_PointList_e_11 p1 σ).toInt64), none, some (.long ((p3.toInt64 * (f_PointList_m_11 p1 σ).toInt64) * (f_PointList_e_11 p1 σ).toInt64)), none, some (.long x3), none, some (.long (f_Whole_quotient (f_PointList_n_11 p1 σ).toInt64 x3)), none, some (.long (labs (f_Whole_quotient ((p3.toInt64 * (f_PointList_m_11 p1 σ).toInt64) * (f_PointList_e_11 p1 σ).toInt64) x3))), none, none, none, none, none, none]) (S' := [.long (labs (f_Whole_quotient ((p3.toInt64 * (f_PointList_m_11 p1 σ).toInt64) * (f_PointList_e_11 p1 σ).toInt64) x3))]) 5 (fun P9 h9 => c_PointList_deepest_16 (d + 0) σ h9) (fun n h => h) ?_
      refine go_iff (lcmp_le (labs (f_Whole_quotient ((p3.toInt64 * (f_PointList_m_11 p1 σ).toInt64) * (f_PointList_e_11 p1 σ).toInt64) x3)) (f_PointList_deepest_16 σ).toInt64) (k1 := 52) (L1 := [some (.ref 11), some (.int p1), some (.ref 16), some (.int p3), some (.long (f_PointList_m_11 p1 σ).toInt64), none, some (.long (f_PointList_n_11 p1 σ).toInt64), none, some (.long (f_PointList_e_11 p1 σ).toInt64), none, some (.long ((p3.toInt64 * (f_PointList_m_11 p1 σ).toInt64) * (f_PointList_e_11 p1 σ).toInt64)), none, some (.long x3), none, some (.long (f_Whole_quotient (f_PointList_n_11 p1 σ).toInt64 x3)), none, some (.long (labs (f_Whole_quotient ((p3.toInt64 * (f_PointList_m_11 p1 σ).toInt64) * (f_PointList_e_11 p1 σ).toInt64) x3))), none, none, none, none, none, none]) (S1 := []) (σ1 := σ) (k2 := 50) (L2 := [some (.ref 11), some (.int p1), some (.ref 16), some (.int p3), some (.long (f_PointList_m_11 p1 σ).toInt64), none, some (.long (f_PointList_n_11 p1 σ).toInt64), none, some (.long (f_PointList_e_11 p1 σ).toInt64), none, some (.long ((p3.toInt64 * (f_PointList_m_11 p1 σ).toInt64) * (f_PointList_e_11 p1 σ).toInt64)), none, some (.long x3), none, some (.long (f_Whole_quotient (f_PointList_n_11 p1 σ).toInt64 x3)), none, some (.long (labs (f_Whole_quotient ((p3.toInt64 * (f_PointList_m_11 p1 σ).toInt64) * (f_PointList_e_11 p1 σ).toInt64) x3))), none, none, none, none, none, none]) (S2 := []) (σ2 := σ) 3 (fun n h => h) (fun hc4 => ?_) (fun hc4 => ?_)
      · rw [if_pos hc4] at h
        refine go_call (r := some (.int (f_PointList_b_11 σ))) (σc := σ) (σ1 := σ) (mi := 27) (vs := [.ref 11]) (k' := 55) (L' := [some (.ref 11), some (.int p1), some (.ref 16), some (.int p3), some (.long (f_PointList_m_11 p1 σ).toInt64), none, some (.long (f_PointList_n_11 p1 σ).toInt64), none, some (.long (f_PointList_e_11 p1 σ).toInt64), none, some (.long ((p3.toInt64 * (f_PointList_m_11 p1 σ).toInt64) * (f_PointList_e_11 p1 σ).toInt64)), none, some (.long x3), none, some (.long (f_Whole_quotient (f_PointList_n_11 p1 σ).toInt64 x3)), none, some (.long (labs (f_Whole_quotient ((p3.toInt64 * (f_PointList_m_11 p1 σ).toInt64) * (f_PointList_e_11 p1 σ).toInt64) x3))), none, none, none, none, none, none]) (S' := [.long (f_PointList_n_11 p1 σ).toInt64]) 3 (fun P9 h9 => c_PointList_b_11 (d + 0) σ h9) (fun n h => h) ?_
        refine go_call (r := some (.long (f_Whole_quotient (((((f_PointList_n_11 p1 σ).toInt64 * ((((((f_PointList_b_11 σ).toInt64 * (f_PointList_e_11 p1 σ).toInt64) * (f_PointList_e_11 p1 σ).toInt64) * (f_PointList_e_11 p1 σ).toInt64) * (f_PointList_e_11 p1 σ).toInt64) - ((f_PointList_m_11 p1 σ).toInt64 * (f_PointList_m_11 p1 σ).toInt64))) * (labs (f_Whole_quotient ((p3.toInt64 * (f_PointList_m_11 p1 σ).toInt64) * (f_PointList_e_11 p1 σ).toInt64) x3))) * (labs (f_Whole_quotient ((p3.toInt64 * (f_PointList_m_11 p1 σ).toInt64) * (f_PointList_e_11 p1 σ).toInt64) x3))) * (labs (f_Whole_quotient ((p3.toInt64 * (f_PointList_m_11 p1 σ).toInt64) * (f_PointList_e_11 p1 σ).toInt64) x3))) (((((((p3.toInt64 * p3.toInt64) * p3.toInt64) * (f_PointList_e_11 p1 σ).toInt64) * (f_PointList_e_11 p1 σ).toInt64) * (f_PointList_e_11 p1 σ).toInt64) * (f_PointList_m_11 p1 σ).toInt64) * (f_PointList_m_11 p1 σ).toInt64)))) (σc := σ) (σ1 := σ) (mi := 97) (vs := [.long (((((f_PointList_n_11 p1 σ).toInt64 * ((((((f_PointList_b_11 σ).toInt64 * (f_PointList_e_11 p1 σ).toInt64) * (f_PointList_e_11 p1 σ).toInt64) * (f_PointList_e_11 p1 σ).toInt64) * (f_PointList_e_11 p1 σ).toInt64) - ((f_PointList_m_11 p1 σ).toInt64 * (f_PointList_m_11 p1 σ).toInt64))) * (labs (f_Whole_quotient ((p3.toInt64 * (f_PointList_m_11 p1 σ).toInt64) * (f_PointList_e_11 p1 σ).toInt64) x3))) * (labs (f_Whole_quotient ((p3.toInt64 * (f_PointList_m_11 p1 σ).toInt64) * (f_PointList_e_11 p1 σ).toInt64) x3))) * (labs (f_Whole_quotient ((p3.toInt64 * (f_PointList_m_11 p1 σ).toInt64) * (f_PointList_e_11 p1 σ).toInt64) x3))), .long (((((((p3.toInt64 * p3.toInt64) * p3.toInt64) * (f_PointList_e_11 p1 σ).toInt64) * (f_PointList_e_11 p1 σ).toInt64) * (f_PointList_e_11 p1 σ).toInt64) * (f_PointList_m_11 p1 σ).toInt64) * (f_PointList_m_11 p1 σ).toInt64)]) (k' := 102) (L' := [some (.ref 11), some (.int p1), some (.ref 16), some (.int p3), some (.long (f_PointList_m_11 p1 σ).toInt64), none, some (.long (f_PointList_n_11 p1 σ).toInt64), none, some (.long (f_PointList_e_11 p1 σ).toInt64), none, some (.long ((p3.toInt64 * (f_PointList_m_11 p1 σ).toInt64) * (f_PointList_e_11 p1 σ).toInt64)), none, some (.long x3), none, some (.long (f_Whole_quotient (f_PointList_n_11 p1 σ).toInt64 x3)), none, some (.long (labs (f_Whole_quotient ((p3.toInt64 * (f_PointList_m_11 p1 σ).toInt64) * (f_PointList_e_11 p1 σ).toInt64) x3))), none, some (.long (((((f_PointList_n_11 p1 σ).toInt64 * ((((((f_PointList_b_11 σ).toInt64 * (f_PointList_e_11 p1 σ).toInt64) * (f_PointList_e_11 p1 σ).toInt64) * (f_PointList_e_11 p1 σ).toInt64) * (f_PointList_e_11 p1 σ).toInt64) - ((f_PointList_m_11 p1 σ).toInt64 * (f_PointList_m_11 p1 σ).toInt64))) * (labs (f_Whole_quotient ((p3.toInt64 * (f_PointList_m_11 p1 σ).toInt64) * (f_PointList_e_11 p1 σ).toInt64) x3))) * (labs (f_Whole_quotient ((p3.toInt64 * (f_PointList_m_11 p1 σ).toInt64) * (f_PointList_e_11 p1 σ).toInt64) x3))) * (labs (f_Whole_quotient ((p3.toInt64 * (f_PointList_m_11 p1 σ).toInt64) * (f_PointList_e_11 p1 σ).toInt64) x3)))), none, some (.long (((((((p3.toInt64 * p3.toInt64) * p3.toInt64) * (f_PointList_e_11 p1 σ).toInt64) * (f_PointList_e_11 p1 σ).toInt64) * (f_PointList_e_11 p1 σ).toInt64) * (f_PointList_m_11 p1 σ).toInt64) * (f_PointList_m_11 p1 σ).toInt64)), none, none]) (S' := [.long ((f_Whole_quotient (f_PointList_n_11 p1 σ).toInt64 x3) * (f_Whole_quotient (f_PointList_n_11 p1 σ).toInt64 x3)), .ref 16]) 47 (fun P9 h9 => c_Whole_quotient (d + 0) (((((f_PointList_n_11 p1 σ).toInt64 * ((((((f_PointList_b_11 σ).toInt64 * (f_PointList_e_11 p1 σ).toInt64) * (f_PointList_e_11 p1 σ).toInt64) * (f_PointList_e_11 p1 σ).toInt64) * (f_PointList_e_11 p1 σ).toInt64) - ((f_PointList_m_11 p1 σ).toInt64 * (f_PointList_m_11 p1 σ).toInt64))) * (labs (f_Whole_quotient ((p3.toInt64 * (f_PointList_m_11 p1 σ).toInt64) * (f_PointList_e_11 p1 σ).toInt64) x3))) * (labs (f_Whole_quotient ((p3.toInt64 * (f_PointList_m_11 p1 σ).toInt64) * (f_PointList_e_11 p1 σ).toInt64) x3))) * (labs (f_Whole_quotient ((p3.toInt64 * (f_PointList_m_11 p1 σ).toInt64) * (f_PointList_e_11 p1 σ).toInt64) x3))) (((((((p3.toInt64 * p3.toInt64) * p3.toInt64) * (f_PointList_e_11 p1 σ).toInt64) * (f_PointList_e_11 p1 σ).toInt64) * (f_PointList_e_11 p1 σ).toInt64) * (f_PointList_m_11 p1 σ).toInt64) * (f_PointList_m_11 p1 σ).toInt64) σ h9) (fun n h => h) ?_
        obtain ⟨x5, hx5, h⟩ := bind_of h
        refine go_call (r := some (.int x5)) (σc := σ) (σ1 := σ) (mi := 98) (vs := [.ref 16, .long ((f_Whole_quotient (f_PointList_n_11 p1 σ).toInt64 x3) * (f_Whole_quotient (f_PointList_n_11 p1 σ).toInt64 x3)), .long (f_Whole_quotient (((((f_PointList_n_11 p1 σ).toInt64 * ((((((f_PointList_b_11 σ).toInt64 * (f_PointList_e_11 p1 σ).toInt64) * (f_PointList_e_11 p1 σ).toInt64) * (f_PointList_e_11 p1 σ).toInt64) * (f_PointList_e_11 p1 σ).toInt64) - ((f_PointList_m_11 p1 σ).toInt64 * (f_PointList_m_11 p1 σ).toInt64))) * (labs (f_Whole_quotient ((p3.toInt64 * (f_PointList_m_11 p1 σ).toInt64) * (f_PointList_e_11 p1 σ).toInt64) x3))) * (labs (f_Whole_quotient ((p3.toInt64 * (f_PointList_m_11 p1 σ).toInt64) * (f_PointList_e_11 p1 σ).toInt64) x3))) * (labs (f_Whole_quotient ((p3.toInt64 * (f_PointList_m_11 p1 σ).toInt64) * (f_PointList_e_11 p1 σ).toInt64) x3))) (((((((p3.toInt64 * p3.toInt64) * p3.toInt64) * (f_PointList_e_11 p1 σ).toInt64) * (f_PointList_e_11 p1 σ).toInt64) * (f_PointList_e_11 p1 σ).toInt64) * (f_PointList_m_11 p1 σ).toInt64) * (f_PointList_m_11 p1 σ).toInt64)), .long (labs (f_Whole_quotient ((p3.toInt64 * (f_PointList_m_11 p1 σ).toInt64) * (f_PointList_e_11 p1 σ).toInt64) x3))]) (k' := 104) (L' := [some (.ref 11), some (.int p1), some (.ref 16), some (.int p3), some (.long (f_PointList_m_11 p1 σ).toInt64), none, some (.long (f_PointList_n_11 p1 σ).toInt64), none, some (.long (f_PointList_e_11 p1 σ).toInt64), none, some (.long ((p3.toInt64 * (f_PointList_m_11 p1 σ).toInt64) * (f_PointList_e_11 p1 σ).toInt64)), none, some (.long x3), none, some (.long (f_Whole_quotient (f_PointList_n_11 p1 σ).toInt64 x3)), none, some (.long (labs (f_Whole_quotient ((p3.toInt64 * (f_PointList_m_11 p1 σ).toInt64) * (f_PointList_e_11 p1 σ).toInt64) x3))), none, some (.long (((((f_PointList_n_11 p1 σ).toInt64 * ((((((f_PointList_b_11 σ).toInt64 * (f_PointList_e_11 p1 σ).toInt64) * (f_PointList_e_11 p1 σ).toInt64) * (f_PointList_e_11 p1 σ).toInt64) * (f_PointList_e_11 p1 σ).toInt64) - ((f_PointList_m_11 p1 σ).toInt64 * (f_PointList_m_11 p1 σ).toInt64))) * (labs (f_Whole_quotient ((p3.toInt64 * (f_PointList_m_11 p1 σ).toInt64) * (f_PointList_e_11 p1 σ).toInt64) x3))) * (labs (f_Whole_quotient ((p3.toInt64 * (f_PointList_m_11 p1 σ).toInt64) * (f_PointList_e_11 p1 σ).toInt64) x3))) * (labs (f_Whole_quotient ((p3.toInt64 * (f_PointList_m_11 p1 σ).toInt64) * (f_PointList_e_11 p1 σ).toInt64) x3)))), none, some (.long (((((((p3.toInt64 * p3.toInt64) * p3.toInt64) * (f_PointList_e_11 p1 σ).toInt64) * (f_PointList_e_11 p1 σ).toInt64) * (f_PointList_e_11 p1 σ).toInt64) * (f_PointList_m_11 p1 σ).toInt64) * (f_PointList_m_11 p1 σ).toInt64)), none, none]) (S' := []) 2 (fun P9 h9 => c_PointList_find_16 (d + 0) ((f_Whole_quotient (f_PointList_n_11 p1 σ).toInt64 x3) * (f_Whole_quotient (f_PointList_n_11 p1 σ).toInt64 x3)) (f_Whole_quotient (((((f_PointList_n_11 p1 σ).toInt64 * ((((((f_PointList_b_11 σ).toInt64 * (f_PointList_e_11 p1 σ).toInt64) * (f_PointList_e_11 p1 σ).toInt64) * (f_PointList_e_11 p1 σ).toInt64) * (f_PointList_e_11 p1 σ).toInt64) - ((f_PointList_m_11 p1 σ).toInt64 * (f_PointList_m_11 p1 σ).toInt64))) * (labs (f_Whole_quotient ((p3.toInt64 * (f_PointList_m_11 p1 σ).toInt64) * (f_PointList_e_11 p1 σ).toInt64) x3))) * (labs (f_Whole_quotient ((p3.toInt64 * (f_PointList_m_11 p1 σ).toInt64) * (f_PointList_e_11 p1 σ).toInt64) x3))) * (labs (f_Whole_quotient ((p3.toInt64 * (f_PointList_m_11 p1 σ).toInt64) * (f_PointList_e_11 p1 σ).toInt64) x3))) (((((((p3.toInt64 * p3.toInt64) * p3.toInt64) * (f_PointList_e_11 p1 σ).toInt64) * (f_PointList_e_11 p1 σ).toInt64) * (f_PointList_e_11 p1 σ).toInt64) * (f_PointList_m_11 p1 σ).toInt64) * (f_PointList_m_11 p1 σ).toInt64)) (labs (f_Whole_quotient ((p3.toInt64 * (f_PointList_m_11 p1 σ).toInt64) * (f_PointList_e_11 p1 σ).toInt64) x3)) σ hx5 h9) (fun n h => h) ?_
        refine go_call (r := some (.int (f_PointList_shown_16 σ))) (σc := σ) (σ1 := σ) (mi := 44) (vs := [.ref 16]) (k' := 108) (L' := [some (.ref 11), some (.int p1), some (.ref 16), some (.int p3), some (.long (f_PointList_m_11 p1 σ).toInt64), none, some (.long (f_PointList_n_11 p1 σ).toInt64), none, some (.long (f_PointList_e_11 p1 σ).toInt64), none, some (.long ((p3.toInt64 * (f_PointList_m_11 p1 σ).toInt64) * (f_PointList_e_11 p1 σ).toInt64)), none, some (.long x3), none, some (.long (f_Whole_quotient (f_PointList_n_11 p1 σ).toInt64 x3)), none, some (.long (labs (f_Whole_quotient ((p3.toInt64 * (f_PointList_m_11 p1 σ).toInt64) * (f_PointList_e_11 p1 σ).toInt64) x3))), none, some (.long (((((f_PointList_n_11 p1 σ).toInt64 * ((((((f_PointList_b_11 σ).toInt64 * (f_PointList_e_11 p1 σ).toInt64) * (f_PointList_e_11 p1 σ).toInt64) * (f_PointList_e_11 p1 σ).toInt64) * (f_PointList_e_11 p1 σ).toInt64) - ((f_PointList_m_11 p1 σ).toInt64 * (f_PointList_m_11 p1 σ).toInt64))) * (labs (f_Whole_quotient ((p3.toInt64 * (f_PointList_m_11 p1 σ).toInt64) * (f_PointList_e_11 p1 σ).toInt64) x3))) * (labs (f_Whole_quotient ((p3.toInt64 * (f_PointList_m_11 p1 σ).toInt64) * (f_PointList_e_11 p1 σ).toInt64) x3))) * (labs (f_Whole_quotient ((p3.toInt64 * (f_PointList_m_11 p1 σ).toInt64) * (f_PointList_e_11 p1 σ).toInt64) x3)))), none, some (.long (((((((p3.toInt64 * p3.toInt64) * p3.toInt64) * (f_PointList_e_11 p1 σ).toInt64) * (f_PointList_e_11 p1 σ).toInt64) * (f_PointList_e_11 p1 σ).toInt64) * (f_PointList_m_11 p1 σ).toInt64) * (f_PointList_m_11 p1 σ).toInt64)), none, some (.int x5)]) (S' := [.int x5]) 4 (fun P9 h9 => c_PointList_shown_16 (d + 0) σ h9) (fun n h => h) ?_
        refine go_if (c := (f_PointList_shown_16 σ) ≤ x5) (k1 := 111) (L1 := [some (.ref 11), some (.int p1), some (.ref 16), some (.int p3), some (.long (f_PointList_m_11 p1 σ).toInt64), none, some (.long (f_PointList_n_11 p1 σ).toInt64), none, some (.long (f_PointList_e_11 p1 σ).toInt64), none, some (.long ((p3.toInt64 * (f_PointList_m_11 p1 σ).toInt64) * (f_PointList_e_11 p1 σ).toInt64)), none, some (.long x3), none, some (.long (f_Whole_quotient (f_PointList_n_11 p1 σ).toInt64 x3)), none, some (.long (labs (f_Whole_quotient ((p3.toInt64 * (f_PointList_m_11 p1 σ).toInt64) * (f_PointList_e_11 p1 σ).toInt64) x3))), none, some (.long (((((f_PointList_n_11 p1 σ).toInt64 * ((((((f_PointList_b_11 σ).toInt64 * (f_PointList_e_11 p1 σ).toInt64) * (f_PointList_e_11 p1 σ).toInt64) * (f_PointList_e_11 p1 σ).toInt64) * (f_PointList_e_11 p1 σ).toInt64) - ((f_PointList_m_11 p1 σ).toInt64 * (f_PointList_m_11 p1 σ).toInt64))) * (labs (f_Whole_quotient ((p3.toInt64 * (f_PointList_m_11 p1 σ).toInt64) * (f_PointList_e_11 p1 σ).toInt64) x3))) * (labs (f_Whole_quotient ((p3.toInt64 * (f_PointList_m_11 p1 σ).toInt64) * (f_PointList_e_11 p1 σ).toInt64) x3))) * (labs (f_Whole_quotient ((p3.toInt64 * (f_PointList_m_11 p1 σ).toInt64) * (f_PointList_e_11 p1 σ).toInt64) x3)))), none, some (.long (((((((p3.toInt64 * p3.toInt64) * p3.toInt64) * (f_PointList_e_11 p1 σ).toInt64) * (f_PointList_e_11 p1 σ).toInt64) * (f_PointList_e_11 p1 σ).toInt64) * (f_PointList_m_11 p1 σ).toInt64) * (f_PointList_m_11 p1 σ).toInt64)), none, some (.int x5)]) (S1 := []) (σ1 := σ) (k2 := 109) (L2 := [some (.ref 11), some (.int p1), some (.ref 16), some (.int p3), some (.long (f_PointList_m_11 p1 σ).toInt64), none, some (.long (f_PointList_n_11 p1 σ).toInt64), none, some (.long (f_PointList_e_11 p1 σ).toInt64), none, some (.long ((p3.toInt64 * (f_PointList_m_11 p1 σ).toInt64) * (f_PointList_e_11 p1 σ).toInt64)), none, some (.long x3), none, some (.long (f_Whole_quotient (f_PointList_n_11 p1 σ).toInt64 x3)), none, some (.long (labs (f_Whole_quotient ((p3.toInt64 * (f_PointList_m_11 p1 σ).toInt64) * (f_PointList_e_11 p1 σ).toInt64) x3))), none, some (.long (((((f_PointList_n_11 p1 σ).toInt64 * ((((((f_PointList_b_11 σ).toInt64 * (f_PointList_e_11 p1 σ).toInt64) * (f_PointList_e_11 p1 σ).toInt64) * (f_PointList_e_11 p1 σ).toInt64) * (f_PointList_e_11 p1 σ).toInt64) - ((f_PointList_m_11 p1 σ).toInt64 * (f_PointList_m_11 p1 σ).toInt64))) * (labs (f_Whole_quotient ((p3.toInt64 * (f_PointList_m_11 p1 σ).toInt64) * (f_PointList_e_11 p1 σ).toInt64) x3))) * (labs (f_Whole_quotient ((p3.toInt64 * (f_PointList_m_11 p1 σ).toInt64) * (f_PointList_e_11 p1 σ).toInt64) x3))) * (labs (f_Whole_quotient ((p3.toInt64 * (f_PointList_m_11 p1 σ).toInt64) * (f_PointList_e_11 p1 σ).toInt64) x3)))), none, some (.long (((((((p3.toInt64 * p3.toInt64) * p3.toInt64) * (f_PointList_e_11 p1 σ).toInt64) * (f_PointList_e_11 p1 σ).toInt64) * (f_PointList_e_11 p1 σ).toInt64) * (f_PointList_m_11 p1 σ).toInt64) * (f_PointList_m_11 p1 σ).toInt64)), none, some (.int x5)]) (S2 := []) (σ2 := σ) 1 (fun n h => h) (fun hc6 => ?_) (fun hc6 => ?_)
        · rw [if_pos hc6] at h
          cases h
          exact go_ret 2 (fun _ => hp)
        · rw [if_neg hc6] at h
          cases h
          exact go_ret 3 (fun _ => hp)
      · rw [if_neg hc4] at h
        cases h
        exact go_ret 2 (fun _ => hp)
    · rw [if_neg hc2] at h
      cases h
      exact go_ret 2 (fun _ => hp)
def f_X_over (N : Nat) (p0 : Int32) (σ : aSt) : Option (Int32 × aSt) :=
  (if (f_X_isPoint p0 σ) = true then ((f_X_readyBeside N σ).bind fun x2 => ((f_X_goOver_11_16 N p0 (1 : Int32) x2).bind fun x3 => some (x3, x2))) else some ((-2 : Int32), σ))
set_option maxRecDepth 20000 in
set_option maxHeartbeats 4000000 in
theorem c_X_over (d : Nat) {N : Nat} (p0 : Int32) (σ : aSt) {P : Option Value → aSt → Prop} {x : (Int32 × aSt)} (h : f_X_over N p0 σ = some x) (hp : P (some (.int x.1)) x.2) : aCall MT (d + 7) 316 [.ref 0, .int p0] σ P := by
  unfold f_X_over at h
  refine call_of (code := mc_X_over) (L := [some (.ref 0), some (.int p0)]) rfl rfl rfl rfl ?_
  refine go_call (r := some (.int (b2i (f_X_isPoint p0 σ)))) (σc := σ) (σ1 := σ) (mi := 85) (vs := [.ref 0, .int p0]) (k' := 3) (L' := [some (.ref 0), some (.int p0)]) (S' := []) 3 (fun P9 h9 => c_X_isPoint (d + 3) p0 σ h9) (fun n h => h) ?_
  refine go_ifn (b := (f_X_isPoint p0 σ)) (k1 := 6) (L1 := [some (.ref 0), some (.int p0)]) (S1 := []) (σ1 := σ) (k2 := 4) (L2 := [some (.ref 0), some (.int p0)]) (S2 := []) (σ2 := σ) 1 (fun n h => h) (fun hc1 => ?_) (fun hc1 => ?_)
  · rw [if_pos hc1] at h
    obtain ⟨x2, hx2, h⟩ := bind_of h
    refine go_call (r := none) (σc := σ) (σ1 := x2) (mi := 308) (vs := [.ref 0]) (k' := 8) (L' := [some (.ref 0), some (.int p0)]) (S' := []) 2 (fun P9 h9 => c_X_readyBeside (d + 0) σ hx2 h9) (fun n h => h) ?_
    obtain ⟨x3, hx3, h⟩ := bind_of h
    refine go_call (r := some (.int x3)) (σc := x2) (σ1 := x2) (mi := 315) (vs := [.ref 11, .int p0, .ref 16, .int (1 : Int32)]) (k' := 15) (L' := [some (.ref 0), some (.int p0)]) (S' := []) 7 (fun P9 h9 => c_X_goOver_11_16 (d + 4) p0 (1 : Int32) x2 hx3 h9) (fun n h => h) ?_
    cases h
    exact go_ret 1 (fun _ => hp)
  · rw [if_neg hc1] at h
    cases h
    exact go_ret 2 (fun _ => hp)
def f_PointList_b_16 (σ : aSt) : Int32 :=
  (σ.1 16 7)
set_option maxRecDepth 20000 in
set_option maxHeartbeats 4000000 in
theorem c_PointList_b_16 (d : Nat) (σ : aSt) {P : Option Value → aSt → Prop} (h : P (some (.int ((f_PointList_b_16 σ)))) σ) : aCall MT (d + 1) 27 [.ref 16] σ P := by
  unfold f_PointList_b_16 at h
  refine call_of (code := mc_PointList_b) (L := [some (.ref 16)]) rfl rfl rfl rfl ?_
  exact go_ret 3 (fun _ => h)
def f_X_goOver_16_11 (N : Nat) (p1 : Int32) (p3 : Int32) (σ : aSt) : Option Int32 :=
  (if p1 = (1000 : Int32) then some (1000 : Int32) else (if (f_PointList_m_16 p1 σ) ≠ 0 then ((f_Whole_gcd N (f_PointList_n_16 p1 σ).toInt64 ((p3.toInt64 * (f_PointList_m_16 p1 σ).toInt64) * (f_PointList_e_16 p1 σ).toInt64)).bind fun x3 => (if (labs (f_Whole_quotient ((p3.toInt64 * (f_PointList_m_16 p1 σ).toInt64) * (f_PointList_e_16 p1 σ).toInt64) x3)) ≤ (f_PointList_deepest_11 σ).toInt64 then ((f_PointList_find_11 N ((f_Whole_quotient (f_PointList_n_16 p1 σ).toInt64 x3) * (f_Whole_quotient (f_PointList_n_16 p1 σ).toInt64 x3)) (f_Whole_quotient (((((f_PointList_n_16 p1 σ).toInt64 * ((((((f_PointList_b_16 σ).toInt64 * (f_PointList_e_16 p1 σ).toInt64) * (f_PointList_e_16 p1 σ).toInt64) * (f_PointList_e_16 p1 σ).toInt64) * (f_PointList_e_16 p1 σ).toInt64) - ((f_PointList_m_16 p1 σ).toInt64 * (f_PointList_m_16 p1 σ).toInt64))) * (labs (f_Whole_quotient ((p3.toInt64 * (f_PointList_m_16 p1 σ).toInt64) * (f_PointList_e_16 p1 σ).toInt64) x3))) * (labs (f_Whole_quotient ((p3.toInt64 * (f_PointList_m_16 p1 σ).toInt64) * (f_PointList_e_16 p1 σ).toInt64) x3))) * (labs (f_Whole_quotient ((p3.toInt64 * (f_PointList_m_16 p1 σ).toInt64) * (f_PointList_e_16 p1 σ).toInt64) x3))) (((((((p3.toInt64 * p3.toInt64) * p3.toInt64) * (f_PointList_e_16 p1 σ).toInt64) * (f_PointList_e_16 p1 σ).toInt64) * (f_PointList_e_16 p1 σ).toInt64) * (f_PointList_m_16 p1 σ).toInt64) * (f_PointList_m_16 p1 σ).toInt64)) (labs (f_Whole_quotient ((p3.toInt64 * (f_PointList_m_16 p1 σ).toInt64) * (f_PointList_e_16 p1 σ).toInt64) x3)) σ).bind fun x5 => (if (f_PointList_shown_11 σ) ≤ x5 then some (-6 : Int32) else some x5)) else some (-6 : Int32))) else some (1000 : Int32)))
set_option maxRecDepth 20000 in
set_option maxHeartbeats 4000000 in
theorem c_X_goOver_16_11 (d : Nat) {N : Nat} (p1 : Int32) (p3 : Int32) (σ : aSt) {P : Option Value → aSt → Prop} {x : Int32} (h : f_X_goOver_16_11 N p1 p3 σ = some x) (hp : P (some (.int x)) σ) : aCall MT (d + 2) 315 [.ref 16, .int p1, .ref 11, .int p3] σ P := by
  unfold f_X_goOver_16_11 at h
  refine call_of (code := mc_X_goOver) (L := [some (.ref 16), some (.int p1), some (.ref 11), some (.int p3), none, none, none, none, none, none, none, none, none, none, none, none, none, none, none, none, none, none, none]) rfl rfl rfl rfl ?_
  refine go_if (c := p1 = (1000 : Int32)) (k1 := 7) (L1 := [some (.ref 16), some (.int p1), some (.ref 11), some (.int p3), none, none, none, none, none, none, none, none, none, none, none, none, none, none, none, none, none, none, none]) (S1 := []) (σ1 := σ) (k2 := 3) (L2 := [some (.ref 16), some (.int p1), some (.ref 11), some (.int p3), none, none, none, none, none, none, none, none, none, none, none, none, none, none, none, none, none, none, none]) (S2 := []) (σ2 := σ) 3 (fun n h => h) (fun hc1 => ?_) (fun hc1 => ?_)
  · rw [if_pos hc1] at h
    cases h
    exact go_ret 2 (fun _ => hp)
  · rw [if_neg hc1] at h
    refine go_call (r := some (.int (f_PointList_m_16 p1 σ))) (σc := σ) (σ1 := σ) (mi := 74) (vs := [.ref 16, .int p1]) (k' := 6) (L' := [some (.ref 16), some (.int p1), some (.ref 11), some (.int p3), none, none, none, none, none, none, none, none, none, none, none, none, none, none, none, none, none, none, none]) (S' := []) 3 (fun P9 h9 => c_PointList_m_16 (d + 0) p1 σ h9) (fun n h => h) ?_
    refine go_if (c := (f_PointList_m_16 p1 σ) ≠ 0) (k1 := 9) (L1 := [some (.ref 16), some (.int p1), some (.ref 11), some (.int p3), none, none, none, none, none, none, none, none, none, none, none, none, none, none, none, none, none, none, none]) (S1 := []) (σ1 := σ) (k2 := 7) (L2 := [some (.ref 16), some (.int p1), some (.ref 11), some (.int p3), none, none, none, none, none, none, none, none, none, none, none, none, none, none, none, none, none, none, none]) (S2 := []) (σ2 := σ) 1 (fun n h => h) (fun hc2 => ?_) (fun hc2 => ?_)
    · rw [if_pos hc2] at h
      refine go_call (r := some (.int (f_PointList_m_16 p1 σ))) (σc := σ) (σ1 := σ) (mi := 74) (vs := [.ref 16, .int p1]) (k' := 12) (L' := [some (.ref 16), some (.int p1), some (.ref 11), some (.int p3), none, none, none, none, none, none, none, none, none, none, none, none, none, none, none, none, none, none, none]) (S' := []) 3 (fun P9 h9 => c_PointList_m_16 (d + 0) p1 σ h9) (fun n h => h) ?_
      refine go_call (r := some (.int (f_PointList_n_16 p1 σ))) (σc := σ) (σ1 := σ) (mi := 75) (vs := [.ref 16, .int p1]) (k' := 17) (L' := [some (.ref 16), some (.int p1), some (.ref 11), some (.int p3), some (.long (f_PointList_m_16 p1 σ).toInt64), none, none, none, none, none, none, none, none, none, none, none, none, none, none, none, none, none, none]) (S' := []) 5 (fun P9 h9 => c_PointList_n_16 (d + 0) p1 σ h9) (fun n h => h) ?_
      refine go_call (r := some (.int (f_PointList_e_16 p1 σ))) (σc := σ) (σ1 := σ) (mi := 76) (vs := [.ref 16, .int p1]) (k' := 22) (L' := [some (.ref 16), some (.int p1), some (.ref 11), some (.int p3), some (.long (f_PointList_m_16 p1 σ).toInt64), none, some (.long (f_PointList_n_16 p1 σ).toInt64), none, none, none, none, none, none, none, none, none, none, none, none, none, none, none, none]) (S' := []) 5 (fun P9 h9 => c_PointList_e_16 (d + 0) p1 σ h9) (fun n h => h) ?_
      obtain ⟨x3, hx3, h⟩ := bind_of h
      refine go_call (r := some (.long x3)) (σc := σ) (σ1 := σ) (mi := 38) (vs := [.long (f_PointList_n_16 p1 σ).toInt64, .long ((p3.toInt64 * (f_PointList_m_16 p1 σ).toInt64) * (f_PointList_e_16 p1 σ).toInt64)]) (k' := 34) (L' := [some (.ref 16), some (.int p1), some (.ref 11), some (.int p3), some (.long (f_PointList_m_16 p1 σ).toInt64), none, some (.long (f_PointList_n_16 p1 σ).toInt64), none, some (.long (f_PointList_e_16 p1 σ).toInt64), none, some (.long ((p3.toInt64 * (f_PointList_m_16 p1 σ).toInt64) * (f_PointList_e_16 p1 σ).toInt64)), none, none, none, none, none, none, none, none, none, none, none, none]) (S' := []) 12 (fun P9 h9 => c_Whole_gcd (d + 0) (f_PointList_n_16 p1 σ).toInt64 ((p3.toInt64 * (f_PointList_m_16 p1 σ).toInt64) * (f_PointList_e_16 p1 σ).toInt64) σ hx3 h9) (fun n h => h) ?_
      refine go_call (r := some (.long (f_Whole_quotient (f_PointList_n_16 p1 σ).toInt64 x3))) (σc := σ) (σ1 := σ) (mi := 97) (vs := [.long (f_PointList_n_16 p1 σ).toInt64, .long x3]) (k' := 38) (L' := [some (.ref 16), some (.int p1), some (.ref 11), some (.int p3), some (.long (f_PointList_m_16 p1 σ).toInt64), none, some (.long (f_PointList_n_16 p1 σ).toInt64), none, some (.long (f_PointList_e_16 p1 σ).toInt64), none, some (.long ((p3.toInt64 * (f_PointList_m_16 p1 σ).toInt64) * (f_PointList_e_16 p1 σ).toInt64)), none, some (.long x3), none, none, none, none, none, none, none, none, none, none]) (S' := []) 4 (fun P9 h9 => c_Whole_quotient (d + 0) (f_PointList_n_16 p1 σ).toInt64 x3 σ h9) (fun n h => h) ?_
      refine go_call (r := some (.long (f_Whole_quotient ((p3.toInt64 * (f_PointList_m_16 p1 σ).toInt64) * (f_PointList_e_16 p1 σ).toInt64) x3))) (σc := σ) (σ1 := σ) (mi := 97) (vs := [.long ((p3.toInt64 * (f_PointList_m_16 p1 σ).toInt64) * (f_PointList_e_16 p1 σ).toInt64), .long x3]) (k' := 42) (L' := [some (.ref 16), some (.int p1), some (.ref 11), some (.int p3), some (.long (f_PointList_m_16 p1 σ).toInt64), none, some (.long (f_PointList_n_16 p1 σ).toInt64), none, some (.long (f_PointList_e_16 p1 σ).toInt64), none, some (.long ((p3.toInt64 * (f_PointList_m_16 p1 σ).toInt64) * (f_PointList_e_16 p1 σ).toInt64)), none, some (.long x3), none, some (.long (f_Whole_quotient (f_PointList_n_16 p1 σ).toInt64 x3)), none, none, none, none, none, none, none, none]) (S' := []) 4 (fun P9 h9 => c_Whole_quotient (d + 0) ((p3.toInt64 * (f_PointList_m_16 p1 σ).toInt64) * (f_PointList_e_16 p1 σ).toInt64) x3 σ h9) (fun n h => h) ?_
      refine go_call (r := some (.int (f_PointList_deepest_11 σ))) (σc := σ) (σ1 := σ) (mi := 70) (vs := [.ref 11]) (k' := 47) (L' := [some (.ref 16), some (.int p1), some (.ref 11), some (.int p3), some (.long (f_PointList_m_16 p1 σ).toInt64), none, some (.long (f_PointList_n_16 p1 σ).toInt64), none, some (.long (f_PointList_e_16 p1 σ).toInt64), none, some (.long ((p3.toInt64 * (f_PointList_m_16 p1 σ).toInt64) * (f_PointList_e_16 p1 σ).toInt64)), none, some (.long x3), none, some (.long (f_Whole_quotient (f_PointList_n_16 p1 σ).toInt64 x3)), none, some (.long (labs (f_Whole_quotient ((p3.toInt64 * (f_PointList_m_16 p1 σ).toInt64) * (f_PointList_e_16 p1 σ).toInt64) x3))), none, none, none, none, none, none]) (S' := [.long (labs (f_Whole_quotient ((p3.toInt64 * (f_PointList_m_16 p1 σ).toInt64) * (f_PointList_e_16 p1 σ).toInt64) x3))]) 5 (fun P9 h9 => c_PointList_deepest_11 (d + 0) σ h9) (fun n h => h) ?_
      refine go_iff (lcmp_le (labs (f_Whole_quotient ((p3.toInt64 * (f_PointList_m_16 p1 σ).toInt64) * (f_PointList_e_16 p1 σ).toInt64) x3)) (f_PointList_deepest_11 σ).toInt64) (k1 := 52) (L1 := [some (.ref 16), some (.int p1), some (.ref 11), some (.int p3), some (.long (f_PointList_m_16 p1 σ).toInt64), none, some (.long (f_PointList_n_16 p1 σ).toInt64), none, some (.long (f_PointList_e_16 p1 σ).toInt64), none, some (.long ((p3.toInt64 * (f_PointList_m_16 p1 σ).toInt64) * (f_PointList_e_16 p1 σ).toInt64)), none, some (.long x3), none, some (.long (f_Whole_quotient (f_PointList_n_16 p1 σ).toInt64 x3)), none, some (.long (labs (f_Whole_quotient ((p3.toInt64 * (f_PointList_m_16 p1 σ).toInt64) * (f_PointList_e_16 p1 σ).toInt64) x3))), none, none, none, none, none, none]) (S1 := []) (σ1 := σ) (k2 := 50) (L2 := [some (.ref 16), some (.int p1), some (.ref 11), some (.int p3), some (.long (f_PointList_m_16 p1 σ).toInt64), none, some (.long (f_PointList_n_16 p1 σ).toInt64), none, some (.long (f_PointList_e_16 p1 σ).toInt64), none, some (.long ((p3.toInt64 * (f_PointList_m_16 p1 σ).toInt64) * (f_PointList_e_16 p1 σ).toInt64)), none, some (.long x3), none, some (.long (f_Whole_quotient (f_PointList_n_16 p1 σ).toInt64 x3)), none, some (.long (labs (f_Whole_quotient ((p3.toInt64 * (f_PointList_m_16 p1 σ).toInt64) * (f_PointList_e_16 p1 σ).toInt64) x3))), none, none, none, none, none, none]) (S2 := []) (σ2 := σ) 3 (fun n h => h) (fun hc4 => ?_) (fun hc4 => ?_)
      · rw [if_pos hc4] at h
        refine go_call (r := some (.int (f_PointList_b_16 σ))) (σc := σ) (σ1 := σ) (mi := 27) (vs := [.ref 16]) (k' := 55) (L' := [some (.ref 16), some (.int p1), some (.ref 11), some (.int p3), some (.long (f_PointList_m_16 p1 σ).toInt64), none, some (.long (f_PointList_n_16 p1 σ).toInt64), none, some (.long (f_PointList_e_16 p1 σ).toInt64), none, some (.long ((p3.toInt64 * (f_PointList_m_16 p1 σ).toInt64) * (f_PointList_e_16 p1 σ).toInt64)), none, some (.long x3), none, some (.long (f_Whole_quotient (f_PointList_n_16 p1 σ).toInt64 x3)), none, some (.long (labs (f_Whole_quotient ((p3.toInt64 * (f_PointList_m_16 p1 σ).toInt64) * (f_PointList_e_16 p1 σ).toInt64) x3))), none, none, none, none, none, none]) (S' := [.long (f_PointList_n_16 p1 σ).toInt64]) 3 (fun P9 h9 => c_PointList_b_16 (d + 0) σ h9) (fun n h => h) ?_
        refine go_call (r := some (.long (f_Whole_quotient (((((f_PointList_n_16 p1 σ).toInt64 * ((((((f_PointList_b_16 σ).toInt64 * (f_PointList_e_16 p1 σ).toInt64) * (f_PointList_e_16 p1 σ).toInt64) * (f_PointList_e_16 p1 σ).toInt64) * (f_PointList_e_16 p1 σ).toInt64) - ((f_PointList_m_16 p1 σ).toInt64 * (f_PointList_m_16 p1 σ).toInt64))) * (labs (f_Whole_quotient ((p3.toInt64 * (f_PointList_m_16 p1 σ).toInt64) * (f_PointList_e_16 p1 σ).toInt64) x3))) * (labs (f_Whole_quotient ((p3.toInt64 * (f_PointList_m_16 p1 σ).toInt64) * (f_PointList_e_16 p1 σ).toInt64) x3))) * (labs (f_Whole_quotient ((p3.toInt64 * (f_PointList_m_16 p1 σ).toInt64) * (f_PointList_e_16 p1 σ).toInt64) x3))) (((((((p3.toInt64 * p3.toInt64) * p3.toInt64) * (f_PointList_e_16 p1 σ).toInt64) * (f_PointList_e_16 p1 σ).toInt64) * (f_PointList_e_16 p1 σ).toInt64) * (f_PointList_m_16 p1 σ).toInt64) * (f_PointList_m_16 p1 σ).toInt64)))) (σc := σ) (σ1 := σ) (mi := 97) (vs := [.long (((((f_PointList_n_16 p1 σ).toInt64 * ((((((f_PointList_b_16 σ).toInt64 * (f_PointList_e_16 p1 σ).toInt64) * (f_PointList_e_16 p1 σ).toInt64) * (f_PointList_e_16 p1 σ).toInt64) * (f_PointList_e_16 p1 σ).toInt64) - ((f_PointList_m_16 p1 σ).toInt64 * (f_PointList_m_16 p1 σ).toInt64))) * (labs (f_Whole_quotient ((p3.toInt64 * (f_PointList_m_16 p1 σ).toInt64) * (f_PointList_e_16 p1 σ).toInt64) x3))) * (labs (f_Whole_quotient ((p3.toInt64 * (f_PointList_m_16 p1 σ).toInt64) * (f_PointList_e_16 p1 σ).toInt64) x3))) * (labs (f_Whole_quotient ((p3.toInt64 * (f_PointList_m_16 p1 σ).toInt64) * (f_PointList_e_16 p1 σ).toInt64) x3))), .long (((((((p3.toInt64 * p3.toInt64) * p3.toInt64) * (f_PointList_e_16 p1 σ).toInt64) * (f_PointList_e_16 p1 σ).toInt64) * (f_PointList_e_16 p1 σ).toInt64) * (f_PointList_m_16 p1 σ).toInt64) * (f_PointList_m_16 p1 σ).toInt64)]) (k' := 102) (L' := [some (.ref 16), some (.int p1), some (.ref 11), some (.int p3), some (.long (f_PointList_m_16 p1 σ).toInt64), none, some (.long (f_PointList_n_16 p1 σ).toInt64), none, some (.long (f_PointList_e_16 p1 σ).toInt64), none, some (.long ((p3.toInt64 * (f_PointList_m_16 p1 σ).toInt64) * (f_PointList_e_16 p1 σ).toInt64)), none, some (.long x3), none, some (.long (f_Whole_quotient (f_PointList_n_16 p1 σ).toInt64 x3)), none, some (.long (labs (f_Whole_quotient ((p3.toInt64 * (f_PointList_m_16 p1 σ).toInt64) * (f_PointList_e_16 p1 σ).toInt64) x3))), none, some (.long (((((f_PointList_n_16 p1 σ).toInt64 * ((((((f_PointList_b_16 σ).toInt64 * (f_PointList_e_16 p1 σ).toInt64) * (f_PointList_e_16 p1 σ).toInt64) * (f_PointList_e_16 p1 σ).toInt64) * (f_PointList_e_16 p1 σ).toInt64) - ((f_PointList_m_16 p1 σ).toInt64 * (f_PointList_m_16 p1 σ).toInt64))) * (labs (f_Whole_quotient ((p3.toInt64 * (f_PointList_m_16 p1 σ).toInt64) * (f_PointList_e_16 p1 σ).toInt64) x3))) * (labs (f_Whole_quotient ((p3.toInt64 * (f_PointList_m_16 p1 σ).toInt64) * (f_PointList_e_16 p1 σ).toInt64) x3))) * (labs (f_Whole_quotient ((p3.toInt64 * (f_PointList_m_16 p1 σ).toInt64) * (f_PointList_e_16 p1 σ).toInt64) x3)))), none, some (.long (((((((p3.toInt64 * p3.toInt64) * p3.toInt64) * (f_PointList_e_16 p1 σ).toInt64) * (f_PointList_e_16 p1 σ).toInt64) * (f_PointList_e_16 p1 σ).toInt64) * (f_PointList_m_16 p1 σ).toInt64) * (f_PointList_m_16 p1 σ).toInt64)), none, none]) (S' := [.long ((f_Whole_quotient (f_PointList_n_16 p1 σ).toInt64 x3) * (f_Whole_quotient (f_PointList_n_16 p1 σ).toInt64 x3)), .ref 11]) 47 (fun P9 h9 => c_Whole_quotient (d + 0) (((((f_PointList_n_16 p1 σ).toInt64 * ((((((f_PointList_b_16 σ).toInt64 * (f_PointList_e_16 p1 σ).toInt64) * (f_PointList_e_16 p1 σ).toInt64) * (f_PointList_e_16 p1 σ).toInt64) * (f_PointList_e_16 p1 σ).toInt64) - ((f_PointList_m_16 p1 σ).toInt64 * (f_PointList_m_16 p1 σ).toInt64))) * (labs (f_Whole_quotient ((p3.toInt64 * (f_PointList_m_16 p1 σ).toInt64) * (f_PointList_e_16 p1 σ).toInt64) x3))) * (labs (f_Whole_quotient ((p3.toInt64 * (f_PointList_m_16 p1 σ).toInt64) * (f_PointList_e_16 p1 σ).toInt64) x3))) * (labs (f_Whole_quotient ((p3.toInt64 * (f_PointList_m_16 p1 σ).toInt64) * (f_PointList_e_16 p1 σ).toInt64) x3))) (((((((p3.toInt64 * p3.toInt64) * p3.toInt64) * (f_PointList_e_16 p1 σ).toInt64) * (f_PointList_e_16 p1 σ).toInt64) * (f_PointList_e_16 p1 σ).toInt64) * (f_PointList_m_16 p1 σ).toInt64) * (f_PointList_m_16 p1 σ).toInt64) σ h9) (fun n h => h) ?_
        obtain ⟨x5, hx5, h⟩ := bind_of h
        refine go_call (r := some (.int x5)) (σc := σ) (σ1 := σ) (mi := 98) (vs := [.ref 11, .long ((f_Whole_quotient (f_PointList_n_16 p1 σ).toInt64 x3) * (f_Whole_quotient (f_PointList_n_16 p1 σ).toInt64 x3)), .long (f_Whole_quotient (((((f_PointList_n_16 p1 σ).toInt64 * ((((((f_PointList_b_16 σ).toInt64 * (f_PointList_e_16 p1 σ).toInt64) * (f_PointList_e_16 p1 σ).toInt64) * (f_PointList_e_16 p1 σ).toInt64) * (f_PointList_e_16 p1 σ).toInt64) - ((f_PointList_m_16 p1 σ).toInt64 * (f_PointList_m_16 p1 σ).toInt64))) * (labs (f_Whole_quotient ((p3.toInt64 * (f_PointList_m_16 p1 σ).toInt64) * (f_PointList_e_16 p1 σ).toInt64) x3))) * (labs (f_Whole_quotient ((p3.toInt64 * (f_PointList_m_16 p1 σ).toInt64) * (f_PointList_e_16 p1 σ).toInt64) x3))) * (labs (f_Whole_quotient ((p3.toInt64 * (f_PointList_m_16 p1 σ).toInt64) * (f_PointList_e_16 p1 σ).toInt64) x3))) (((((((p3.toInt64 * p3.toInt64) * p3.toInt64) * (f_PointList_e_16 p1 σ).toInt64) * (f_PointList_e_16 p1 σ).toInt64) * (f_PointList_e_16 p1 σ).toInt64) * (f_PointList_m_16 p1 σ).toInt64) * (f_PointList_m_16 p1 σ).toInt64)), .long (labs (f_Whole_quotient ((p3.toInt64 * (f_PointList_m_16 p1 σ).toInt64) * (f_PointList_e_16 p1 σ).toInt64) x3))]) (k' := 104) (L' := [some (.ref 16), some (.int p1), some (.ref 11), some (.int p3), some (.long (f_PointList_m_16 p1 σ).toInt64), none, some (.long (f_PointList_n_16 p1 σ).toInt64), none, some (.long (f_PointList_e_16 p1 σ).toInt64), none, some (.long ((p3.toInt64 * (f_PointList_m_16 p1 σ).toInt64) * (f_PointList_e_16 p1 σ).toInt64)), none, some (.long x3), none, some (.long (f_Whole_quotient (f_PointList_n_16 p1 σ).toInt64 x3)), none, some (.long (labs (f_Whole_quotient ((p3.toInt64 * (f_PointList_m_16 p1 σ).toInt64) * (f_PointList_e_16 p1 σ).toInt64) x3))), none, some (.long (((((f_PointList_n_16 p1 σ).toInt64 * ((((((f_PointList_b_16 σ).toInt64 * (f_PointList_e_16 p1 σ).toInt64) * (f_PointList_e_16 p1 σ).toInt64) * (f_PointList_e_16 p1 σ).toInt64) * (f_PointList_e_16 p1 σ).toInt64) - ((f_PointList_m_16 p1 σ).toInt64 * (f_PointList_m_16 p1 σ).toInt64))) * (labs (f_Whole_quotient ((p3.toInt64 * (f_PointList_m_16 p1 σ).toInt64) * (f_PointList_e_16 p1 σ).toInt64) x3))) * (labs (f_Whole_quotient ((p3.toInt64 * (f_PointList_m_16 p1 σ).toInt64) * (f_PointList_e_16 p1 σ).toInt64) x3))) * (labs (f_Whole_quotient ((p3.toInt64 * (f_PointList_m_16 p1 σ).toInt64) * (f_PointList_e_16 p1 σ).toInt64) x3)))), none, some (.long (((((((p3.toInt64 * p3.toInt64) * p3.toInt64) * (f_PointList_e_16 p1 σ).toInt64) * (f_PointList_e_16 p1 σ).toInt64) * (f_PointList_e_16 p1 σ).toInt64) * (f_PointList_m_16 p1 σ).toInt64) * (f_PointList_m_16 p1 σ).toInt64)), none, none]) (S' := []) 2 (fun P9 h9 => c_PointList_find_11 (d + 0) ((f_Whole_quotient (f_PointList_n_16 p1 σ).toInt64 x3) * (f_Whole_quotient (f_PointList_n_16 p1 σ).toInt64 x3)) (f_Whole_quotient (((((f_PointList_n_16 p1 σ).toInt64 * ((((((f_PointList_b_16 σ).toInt64 * (f_PointList_e_16 p1 σ).toInt64) * (f_PointList_e_16 p1 σ).toInt64) * (f_PointList_e_16 p1 σ).toInt64) * (f_PointList_e_16 p1 σ).toInt64) - ((f_PointList_m_16 p1 σ).toInt64 * (f_PointList_m_16 p1 σ).toInt64))) * (labs (f_Whole_quotient ((p3.toInt64 * (f_PointList_m_16 p1 σ).toInt64) * (f_PointList_e_16 p1 σ).toInt64) x3))) * (labs (f_Whole_quotient ((p3.toInt64 * (f_PointList_m_16 p1 σ).toInt64) * (f_PointList_e_16 p1 σ).toInt64) x3))) * (labs (f_Whole_quotient ((p3.toInt64 * (f_PointList_m_16 p1 σ).toInt64) * (f_PointList_e_16 p1 σ).toInt64) x3))) (((((((p3.toInt64 * p3.toInt64) * p3.toInt64) * (f_PointList_e_16 p1 σ).toInt64) * (f_PointList_e_16 p1 σ).toInt64) * (f_PointList_e_16 p1 σ).toInt64) * (f_PointList_m_16 p1 σ).toInt64) * (f_PointList_m_16 p1 σ).toInt64)) (labs (f_Whole_quotient ((p3.toInt64 * (f_PointList_m_16 p1 σ).toInt64) * (f_PointList_e_16 p1 σ).toInt64) x3)) σ hx5 h9) (fun n h => h) ?_
        refine go_call (r := some (.int (f_PointList_shown_11 σ))) (σc := σ) (σ1 := σ) (mi := 44) (vs := [.ref 11]) (k' := 108) (L' := [some (.ref 16), some (.int p1), some (.ref 11), some (.int p3), some (.long (f_PointList_m_16 p1 σ).toInt64), none, some (.long (f_PointList_n_16 p1 σ).toInt64), none, some (.long (f_PointList_e_16 p1 σ).toInt64), none, some (.long ((p3.toInt64 * (f_PointList_m_16 p1 σ).toInt64) * (f_PointList_e_16 p1 σ).toInt64)), none, some (.long x3), none, some (.long (f_Whole_quotient (f_PointList_n_16 p1 σ).toInt64 x3)), none, some (.long (labs (f_Whole_quotient ((p3.toInt64 * (f_PointList_m_16 p1 σ).toInt64) * (f_PointList_e_16 p1 σ).toInt64) x3))), none, some (.long (((((f_PointList_n_16 p1 σ).toInt64 * ((((((f_PointList_b_16 σ).toInt64 * (f_PointList_e_16 p1 σ).toInt64) * (f_PointList_e_16 p1 σ).toInt64) * (f_PointList_e_16 p1 σ).toInt64) * (f_PointList_e_16 p1 σ).toInt64) - ((f_PointList_m_16 p1 σ).toInt64 * (f_PointList_m_16 p1 σ).toInt64))) * (labs (f_Whole_quotient ((p3.toInt64 * (f_PointList_m_16 p1 σ).toInt64) * (f_PointList_e_16 p1 σ).toInt64) x3))) * (labs (f_Whole_quotient ((p3.toInt64 * (f_PointList_m_16 p1 σ).toInt64) * (f_PointList_e_16 p1 σ).toInt64) x3))) * (labs (f_Whole_quotient ((p3.toInt64 * (f_PointList_m_16 p1 σ).toInt64) * (f_PointList_e_16 p1 σ).toInt64) x3)))), none, some (.long (((((((p3.toInt64 * p3.toInt64) * p3.toInt64) * (f_PointList_e_16 p1 σ).toInt64) * (f_PointList_e_16 p1 σ).toInt64) * (f_PointList_e_16 p1 σ).toInt64) * (f_PointList_m_16 p1 σ).toInt64) * (f_PointList_m_16 p1 σ).toInt64)), none, some (.int x5)]) (S' := [.int x5]) 4 (fun P9 h9 => c_PointList_shown_11 (d + 0) σ h9) (fun n h => h) ?_
        refine go_if (c := (f_PointList_shown_11 σ) ≤ x5) (k1 := 111) (L1 := [some (.ref 16), some (.int p1), some (.ref 11), some (.int p3), some (.long (f_PointList_m_16 p1 σ).toInt64), none, some (.long (f_PointList_n_16 p1 σ).toInt64), none, some (.long (f_PointList_e_16 p1 σ).toInt64), none, some (.long ((p3.toInt64 * (f_PointList_m_16 p1 σ).toInt64) * (f_PointList_e_16 p1 σ).toInt64)), none, some (.long x3), none, some (.long (f_Whole_quotient (f_PointList_n_16 p1 σ).toInt64 x3)), none, some (.long (labs (f_Whole_quotient ((p3.toInt64 * (f_PointList_m_16 p1 σ).toInt64) * (f_PointList_e_16 p1 σ).toInt64) x3))), none, some (.long (((((f_PointList_n_16 p1 σ).toInt64 * ((((((f_PointList_b_16 σ).toInt64 * (f_PointList_e_16 p1 σ).toInt64) * (f_PointList_e_16 p1 σ).toInt64) * (f_PointList_e_16 p1 σ).toInt64) * (f_PointList_e_16 p1 σ).toInt64) - ((f_PointList_m_16 p1 σ).toInt64 * (f_PointList_m_16 p1 σ).toInt64))) * (labs (f_Whole_quotient ((p3.toInt64 * (f_PointList_m_16 p1 σ).toInt64) * (f_PointList_e_16 p1 σ).toInt64) x3))) * (labs (f_Whole_quotient ((p3.toInt64 * (f_PointList_m_16 p1 σ).toInt64) * (f_PointList_e_16 p1 σ).toInt64) x3))) * (labs (f_Whole_quotient ((p3.toInt64 * (f_PointList_m_16 p1 σ).toInt64) * (f_PointList_e_16 p1 σ).toInt64) x3)))), none, some (.long (((((((p3.toInt64 * p3.toInt64) * p3.toInt64) * (f_PointList_e_16 p1 σ).toInt64) * (f_PointList_e_16 p1 σ).toInt64) * (f_PointList_e_16 p1 σ).toInt64) * (f_PointList_m_16 p1 σ).toInt64) * (f_PointList_m_16 p1 σ).toInt64)), none, some (.int x5)]) (S1 := []) (σ1 := σ) (k2 := 109) (L2 := [some (.ref 16), some (.int p1), some (.ref 11), some (.int p3), some (.long (f_PointList_m_16 p1 σ).toInt64), none, some (.long (f_PointList_n_16 p1 σ).toInt64), none, some (.long (f_PointList_e_16 p1 σ).toInt64), none, some (.long ((p3.toInt64 * (f_PointList_m_16 p1 σ).toInt64) * (f_PointList_e_16 p1 σ).toInt64)), none, some (.long x3), none, some (.long (f_Whole_quotient (f_PointList_n_16 p1 σ).toInt64 x3)), none, some (.long (labs (f_Whole_quotient ((p3.toInt64 * (f_PointList_m_16 p1 σ).toInt64) * (f_PointList_e_16 p1 σ).toInt64) x3))), none, some (.long (((((f_PointList_n_16 p1 σ).toInt64 * ((((((f_PointList_b_16 σ).toInt64 * (f_PointList_e_16 p1 σ).toInt64) * (f_PointList_e_16 p1 σ).toInt64) * (f_PointList_e_16 p1 σ).toInt64) * (f_PointList_e_16 p1 σ).toInt64) - ((f_PointList_m_16 p1 σ).toInt64 * (f_PointList_m_16 p1 σ).toInt64))) * (labs (f_Whole_quotient ((p3.toInt64 * (f_PointList_m_16 p1 σ).toInt64) * (f_PointList_e_16 p1 σ).toInt64) x3))) * (labs (f_Whole_quotient ((p3.toInt64 * (f_PointList_m_16 p1 σ).toInt64) * (f_PointList_e_16 p1 σ).toInt64) x3))) * (labs (f_Whole_quotient ((p3.toInt64 * (f_PointList_m_16 p1 σ).toInt64) * (f_PointList_e_16 p1 σ).toInt64) x3)))), none, some (.long (((((((p3.toInt64 * p3.toInt64) * p3.toInt64) * (f_PointList_e_16 p1 σ).toInt64) * (f_PointList_e_16 p1 σ).toInt64) * (f_PointList_e_16 p1 σ).toInt64) * (f_PointList_m_16 p1 σ).toInt64) * (f_PointList_m_16 p1 σ).toInt64)), none, some (.int x5)]) (S2 := []) (σ2 := σ) 1 (fun n h => h) (fun hc6 => ?_) (fun hc6 => ?_)
        · rw [if_pos hc6] at h
          cases h
          exact go_ret 2 (fun _ => hp)
        · rw [if_neg hc6] at h
          cases h
          exact go_ret 3 (fun _ => hp)
      · rw [if_neg hc4] at h
        cases h
        exact go_ret 2 (fun _ => hp)
    · rw [if_neg hc2] at h
      cases h
      exact go_ret 2 (fun _ => hp)
def f_X_back (N : Nat) (p0 : Int32) (σ : aSt) : Option (Int32 × aSt) :=
  (if (σ.2.2 0 13) = true then ((f_X_readyBeside N σ).bind fun x2 => (if p0 = (1000 : Int32) then ((f_X_goOver_16_11 N p0 (2 : Int32) x2).bind fun x4 => some (x4, x2)) else (if p0 < 0 then some ((-2 : Int32), x2) else (if p0 < (f_PointList_shown_16 x2) then ((f_X_goOver_16_11 N p0 (2 : Int32) x2).bind fun x7 => some (x7, x2)) else some ((-2 : Int32), x2))))) else some ((-2 : Int32), σ))
set_option maxRecDepth 20000 in
set_option maxHeartbeats 4000000 in
theorem c_X_back (d : Nat) {N : Nat} (p0 : Int32) (σ : aSt) {P : Option Value → aSt → Prop} {x : (Int32 × aSt)} (h : f_X_back N p0 σ = some x) (hp : P (some (.int x.1)) x.2) : aCall MT (d + 7) 320 [.ref 0, .int p0] σ P := by
  unfold f_X_back at h
  refine call_of (code := mc_X_back) (L := [some (.ref 0), some (.int p0)]) rfl rfl rfl rfl ?_
  refine go_ifn (b := (σ.2.2 0 13)) (k1 := 5) (L1 := [some (.ref 0), some (.int p0)]) (S1 := []) (σ1 := σ) (k2 := 3) (L2 := [some (.ref 0), some (.int p0)]) (S2 := []) (σ2 := σ) 3 (fun n h => h) (fun hc1 => ?_) (fun hc1 => ?_)
  · rw [if_pos hc1] at h
    obtain ⟨x2, hx2, h⟩ := bind_of h
    refine go_call (r := none) (σc := σ) (σ1 := x2) (mi := 308) (vs := [.ref 0]) (k' := 7) (L' := [some (.ref 0), some (.int p0)]) (S' := []) 2 (fun P9 h9 => c_X_readyBeside (d + 0) σ hx2 h9) (fun n h => h) ?_
    refine go_if (c := p0 = (1000 : Int32)) (k1 := 19) (L1 := [some (.ref 0), some (.int p0)]) (S1 := []) (σ1 := x2) (k2 := 10) (L2 := [some (.ref 0), some (.int p0)]) (S2 := []) (σ2 := x2) 3 (fun n h => h) (fun hc3 => ?_) (fun hc3 => ?_)
    · rw [if_pos hc3] at h
      obtain ⟨x4, hx4, h⟩ := bind_of h
      refine go_call (r := some (.int x4)) (σc := x2) (σ1 := x2) (mi := 315) (vs := [.ref 16, .int p0, .ref 11, .int (2 : Int32)]) (k' := 26) (L' := [some (.ref 0), some (.int p0)]) (S' := []) 7 (fun P9 h9 => c_X_goOver_16_11 (d + 4) p0 (2 : Int32) x2 hx4 h9) (fun n h => h) ?_
      cases h
      exact go_ret 1 (fun _ => hp)
    · rw [if_neg hc3] at h
      refine go_if (c := p0 < 0) (k1 := 17) (L1 := [some (.ref 0), some (.int p0)]) (S1 := []) (σ1 := x2) (k2 := 12) (L2 := [some (.ref 0), some (.int p0)]) (S2 := []) (σ2 := x2) 2 (fun n h => h) (fun hc5 => ?_) (fun hc5 => ?_)
      · rw [if_pos hc5] at h
        cases h
        exact go_ret 2 (fun _ => hp)
      · rw [if_neg hc5] at h
        refine go_call (r := some (.int (f_PointList_shown_16 x2))) (σc := x2) (σ1 := x2) (mi := 44) (vs := [.ref 16]) (k' := 16) (L' := [some (.ref 0), some (.int p0)]) (S' := [.int p0]) 4 (fun P9 h9 => c_PointList_shown_16 (d + 5) x2 h9) (fun n h => h) ?_
        refine go_if (c := p0 < (f_PointList_shown_16 x2)) (k1 := 19) (L1 := [some (.ref 0), some (.int p0)]) (S1 := []) (σ1 := x2) (k2 := 17) (L2 := [some (.ref 0), some (.int p0)]) (S2 := []) (σ2 := x2) 1 (fun n h => h) (fun hc6 => ?_) (fun hc6 => ?_)
        · rw [if_pos hc6] at h
          obtain ⟨x7, hx7, h⟩ := bind_of h
          refine go_call (r := some (.int x7)) (σc := x2) (σ1 := x2) (mi := 315) (vs := [.ref 16, .int p0, .ref 11, .int (2 : Int32)]) (k' := 26) (L' := [some (.ref 0), some (.int p0)]) (S' := []) 7 (fun P9 h9 => c_X_goOver_16_11 (d + 4) p0 (2 : Int32) x2 hx7 h9) (fun n h => h) ?_
          cases h
          exact go_ret 1 (fun _ => hp)
        · rw [if_neg hc6] at h
          cases h
          exact go_ret 2 (fun _ => hp)
  · rw [if_neg hc1] at h
    cases h
    exact go_ret 2 (fun _ => hp)
def f_X_bad_l49 (N : Nat) (σ : aSt) : Nat → Int32 → Int32 → Int32 → Option Int32
  | 0, _, _, _ => none
  | n + 1, v1, v3, v4 => (if v1 ≤ v4 then some (2 : Int32) else ((f_Whole_residue N (v4.toInt64 * v4.toInt64) v1).bind fun x13 => (if x13 ≠ v3 then f_X_bad_l49 N σ n v1 v3 (v4 + (1 : Int32)) else some (1 : Int32))))
set_option maxRecDepth 20000 in
set_option maxHeartbeats 4000000 in
theorem t_X_bad_l49 (d : Nat) {N : Nat} (σ : aSt) {x : Int32} {P : Option Value → aSt → Prop} (hp : P (some (.int x)) σ) : ∀ (n : Nat) (d0 d2 : Option Value) (v1 : Int32) (v3 : Int32) (v4 : Int32), f_X_bad_l49 N σ n v1 v3 v4 = some x → aGo (aCall MT (d + 3)) P mc_X_bad 49 [d0, some (.int v1), d2, some (.int v3), some (.int v4)] [] σ := by
  intro n
  induction n with
  | zero => intro d0 d2 v1 v3 v4 h; cases h
  | succ n ih =>
    intro d0 d2 v1 v3 v4 h
    rw [f_X_bad_l49] at h
    refine go_if (c := v1 ≤ v4) (k1 := 65) (L1 := [d0, some (.int v1), d2, some (.int v3), some (.int v4)]) (S1 := []) (σ1 := σ) (k2 := 52) (L2 := [d0, some (.int v1), d2, some (.int v3), some (.int v4)]) (S2 := []) (σ2 := σ) 3 (fun n h => h) (fun hc12 => ?_) (fun hc12 => ?_)
    · rw [if_pos hc12] at h
      cases h
      exact go_ret 2 (fun _ => hp)
    · rw [if_neg hc12] at h
      obtain ⟨x13, hx13, h⟩ := bind_of h
      refine go_call (r := some (.int x13)) (σc := σ) (σ1 := σ) (mi := 137) (vs := [.long (v4.toInt64 * v4.toInt64), .int v1]) (k' := 59) (L' := [d0, some (.int v1), d2, some (.int v3), some (.int v4)]) (S' := []) 7 (fun P9 h9 => c_Whole_residue (d + 2) (v4.toInt64 * v4.toInt64) v1 σ hx13 h9) (fun n h => h) ?_
      refine go_if (c := x13 ≠ v3) (k1 := 63) (L1 := [d0, some (.int v1), d2, some (.int v3), some (.int v4)]) (S1 := []) (σ1 := σ) (k2 := 61) (L2 := [d0, some (.int v1), d2, some (.int v3), some (.int v4)]) (S2 := []) (σ2 := σ) 2 (fun n h => h) (fun hc14 => ?_) (fun hc14 => ?_)
      · rw [if_pos hc14] at h
        refine go_st (k' := 49) (L' := [d0, some (.int v1), d2, some (.int v3), some (.int (v4 + (1 : Int32)))]) (S' := []) (σ' := σ) 2 (fun n h => h) ?_
        exact ih _ _ v1 v3 (v4 + (1 : Int32)) h
      · rw [if_neg hc14] at h
        cases h
        exact go_ret 2 (fun _ => hp)
def f_X_bad_b40 (N : Nat) (v1 : Int32) (s0 : Int64) (σ : aSt) : Option Int32 :=
  ((f_Whole_residue N s0 v1).bind fun x10 => (if x10 ≠ 0 then f_X_bad_l49 N σ N v1 x10 (1 : Int32) else some (3 : Int32)))
set_option maxRecDepth 20000 in
set_option maxHeartbeats 4000000 in
theorem t_X_bad_b40 (d : Nat) {N : Nat} (d0 d2 d3 d4 : Option Value) (v1 : Int32) (s0 : Int64) (σ : aSt) {P : Option Value → aSt → Prop} {x : Int32} (h : f_X_bad_b40 N v1 s0 σ = some x) (hp : P (some (.int x)) σ) : aGo (aCall MT (d + 3)) P mc_X_bad 40 [d0, some (.int v1), d2, d3, d4] [.long s0] σ := by
  unfold f_X_bad_b40 at h
  obtain ⟨x10, hx10, h⟩ := bind_of h
  refine go_call (r := some (.int x10)) (σc := σ) (σ1 := σ) (mi := 137) (vs := [.long s0, .int v1]) (k' := 42) (L' := [d0, some (.int v1), d2, d3, d4]) (S' := []) 2 (fun P9 h9 => c_Whole_residue (d + 2) s0 v1 σ hx10 h9) (fun n h => h) ?_
  refine go_if (c := x10 ≠ 0) (k1 := 47) (L1 := [d0, some (.int v1), none, some (.int x10), d4]) (S1 := []) (σ1 := σ) (k2 := 45) (L2 := [d0, some (.int v1), none, some (.int x10), d4]) (S2 := []) (σ2 := σ) 3 (fun n h => h) (fun hc11 => ?_) (fun hc11 => ?_)
  · rw [if_pos hc11] at h
    refine go_st (k' := 49) (L' := [d0, some (.int v1), none, some (.int x10), some (.int (1 : Int32))]) (S' := []) (σ' := σ) 2 (fun n h => h) ?_
    exact t_X_bad_l49 d σ hp N _ _ v1 x10 (1 : Int32) h
  · rw [if_neg hc11] at h
    cases h
    exact go_ret 2 (fun _ => hp)
def f_X_bad_b26 (N : Nat) (v1 : Int32) (s0 : Int32) (σ : aSt) : Option Int32 :=
  (if s0 = 0 then f_X_bad_b40 N v1 ((-2 : Int64) * (f_PointList_a_11 σ).toInt64) σ else f_X_bad_b40 N v1 (f_PointList_a_11 σ).toInt64 σ)
set_option maxRecDepth 20000 in
set_option maxHeartbeats 4000000 in
theorem t_X_bad_b26 (d : Nat) {N : Nat} (d2 d3 d4 : Option Value) (v1 : Int32) (s0 : Int32) (σ : aSt) {P : Option Value → aSt → Prop} {x : Int32} (h : f_X_bad_b26 N v1 s0 σ = some x) (hp : P (some (.int x)) σ) : aGo (aCall MT (d + 3)) P mc_X_bad 26 [some (.ref 0), some (.int v1), d2, d3, d4] [.int s0] σ := by
  unfold f_X_bad_b26 at h
  refine go_if (c := s0 = 0) (k1 := 34) (L1 := [some (.ref 0), some (.int v1), some (.int s0), d3, d4]) (S1 := []) (σ1 := σ) (k2 := 29) (L2 := [some (.ref 0), some (.int v1), some (.int s0), d3, d4]) (S2 := []) (σ2 := σ) 3 (fun n h => h) (fun hc9 => ?_) (fun hc9 => ?_)
  · rw [if_pos hc9] at h
    refine go_call (r := some (.int (f_PointList_a_11 σ))) (σc := σ) (σ1 := σ) (mi := 26) (vs := [.ref 11]) (k' := 38) (L' := [some (.ref 0), some (.int v1), some (.int s0), d3, d4]) (S' := [.long (-2 : Int64)]) 4 (fun P9 h9 => c_PointList_a_11 (d + 2) σ h9) (fun n h => h) ?_
    refine go_st (k' := 40) (L' := [some (.ref 0), some (.int v1), some (.int s0), d3, d4]) (S' := [.long ((-2 : Int64) * (f_PointList_a_11 σ).toInt64)]) (σ' := σ) 2 (fun n h => h) ?_
    exact t_X_bad_b40 d _ _ _ _ v1 ((-2 : Int64) * (f_PointList_a_11 σ).toInt64) σ h hp
  · rw [if_neg hc9] at h
    refine go_call (r := some (.int (f_PointList_a_11 σ))) (σc := σ) (σ1 := σ) (mi := 26) (vs := [.ref 11]) (k' := 32) (L' := [some (.ref 0), some (.int v1), some (.int s0), d3, d4]) (S' := []) 3 (fun P9 h9 => c_PointList_a_11 (d + 2) σ h9) (fun n h => h) ?_
    refine go_st (k' := 40) (L' := [some (.ref 0), some (.int v1), some (.int s0), d3, d4]) (S' := [.long (f_PointList_a_11 σ).toInt64]) (σ' := σ) 2 (fun n h => h) ?_
    exact t_X_bad_b40 d _ _ _ _ v1 (f_PointList_a_11 σ).toInt64 σ h hp
def f_X_bad (N : Nat) (p0 : Int32) (σ : aSt) : Option Int32 :=
  (if (σ.2.2 0 13) = true then (if p0 = (2 : Int32) then some (-2 : Int32) else ((f_X_primeIndex N p0 σ).bind fun x3 => (if x3 = (-1 : Int32) then some (-2 : Int32) else ((f_X_isByPrime N p0 σ).bind fun x5 => (if x5 = true then some (-2 : Int32) else ((f_Whole_residue N (f_PointList_b_11 σ).toInt64 p0).bind fun x7 => (if x7 ≠ 0 then f_X_bad_b26 N p0 (0 : Int32) σ else f_X_bad_b26 N p0 (1 : Int32) σ))))))) else some (-2 : Int32))
set_option maxRecDepth 20000 in
set_option maxHeartbeats 4000000 in
theorem c_X_bad (d : Nat) {N : Nat} (p0 : Int32) (σ : aSt) {P : Option Value → aSt → Prop} {x : Int32} (h : f_X_bad N p0 σ = some x) (hp : P (some (.int x)) σ) : aCall MT (d + 4) 322 [.ref 0, .int p0] σ P := by
  unfold f_X_bad at h
  refine call_of (code := mc_X_bad) (L := [some (.ref 0), some (.int p0), none, none, none]) rfl rfl rfl rfl ?_
  refine go_ifz (b := (σ.2.2 0 13)) (k1 := 14) (L1 := [some (.ref 0), some (.int p0), none, none, none]) (S1 := []) (σ1 := σ) (k2 := 3) (L2 := [some (.ref 0), some (.int p0), none, none, none]) (S2 := []) (σ2 := σ) 3 (fun n h => h) (fun hc1 => ?_) (fun hc1 => ?_)
  · rw [if_neg hc1] at h
    cases h
    exact go_ret 2 (fun _ => hp)
  · rw [if_pos hc1] at h
    refine go_if (c := p0 = (2 : Int32)) (k1 := 14) (L1 := [some (.ref 0), some (.int p0), none, none, none]) (S1 := []) (σ1 := σ) (k2 := 6) (L2 := [some (.ref 0), some (.int p0), none, none, none]) (S2 := []) (σ2 := σ) 3 (fun n h => h) (fun hc2 => ?_) (fun hc2 => ?_)
    · rw [if_pos hc2] at h
      cases h
      exact go_ret 2 (fun _ => hp)
    · rw [if_neg hc2] at h
      obtain ⟨x3, hx3, h⟩ := bind_of h
      refine go_call (r := some (.int x3)) (σc := σ) (σ1 := σ) (mi := 136) (vs := [.int p0]) (k' := 8) (L' := [some (.ref 0), some (.int p0), none, none, none]) (S' := []) 2 (fun P9 h9 => c_X_primeIndex (d + 2) p0 σ hx3 h9) (fun n h => h) ?_
      refine go_if (c := x3 = (-1 : Int32)) (k1 := 14) (L1 := [some (.ref 0), some (.int p0), none, none, none]) (S1 := []) (σ1 := σ) (k2 := 10) (L2 := [some (.ref 0), some (.int p0), none, none, none]) (S2 := []) (σ2 := σ) 2 (fun n h => h) (fun hc4 => ?_) (fun hc4 => ?_)
      · rw [if_pos hc4] at h
        cases h
        exact go_ret 2 (fun _ => hp)
      · rw [if_neg hc4] at h
        obtain ⟨x5, hx5, h⟩ := bind_of h
        refine go_call (r := some (.int (b2i x5))) (σc := σ) (σ1 := σ) (mi := 139) (vs := [.ref 0, .int p0]) (k' := 13) (L' := [some (.ref 0), some (.int p0), none, none, none]) (S' := []) 3 (fun P9 h9 => c_X_isByPrime (d + 0) p0 σ hx5 h9) (fun n h => h) ?_
        refine go_ifz (b := x5) (k1 := 16) (L1 := [some (.ref 0), some (.int p0), none, none, none]) (S1 := []) (σ1 := σ) (k2 := 14) (L2 := [some (.ref 0), some (.int p0), none, none, none]) (S2 := []) (σ2 := σ) 1 (fun n h => h) (fun hc6 => ?_) (fun hc6 => ?_)
        · rw [if_neg hc6] at h
          refine go_call (r := some (.int (f_PointList_b_11 σ))) (σc := σ) (σ1 := σ) (mi := 27) (vs := [.ref 11]) (k' := 19) (L' := [some (.ref 0), some (.int p0), none, none, none]) (S' := []) 3 (fun P9 h9 => c_PointList_b_11 (d + 2) σ h9) (fun n h => h) ?_
          obtain ⟨x7, hx7, h⟩ := bind_of h
          refine go_call (r := some (.int x7)) (σc := σ) (σ1 := σ) (mi := 137) (vs := [.long (f_PointList_b_11 σ).toInt64, .int p0]) (k' := 22) (L' := [some (.ref 0), some (.int p0), none, none, none]) (S' := []) 3 (fun P9 h9 => c_Whole_residue (d + 2) (f_PointList_b_11 σ).toInt64 p0 σ hx7 h9) (fun n h => h) ?_
          refine go_if (c := x7 ≠ 0) (k1 := 25) (L1 := [some (.ref 0), some (.int p0), none, none, none]) (S1 := []) (σ1 := σ) (k2 := 23) (L2 := [some (.ref 0), some (.int p0), none, none, none]) (S2 := []) (σ2 := σ) 1 (fun n h => h) (fun hc8 => ?_) (fun hc8 => ?_)
          · rw [if_pos hc8] at h
            refine go_st (k' := 26) (L' := [some (.ref 0), some (.int p0), none, none, none]) (S' := [.int (0 : Int32)]) (σ' := σ) 1 (fun n h => h) ?_
            exact t_X_bad_b26 d _ _ _ p0 (0 : Int32) σ h hp
          · rw [if_neg hc8] at h
            refine go_st (k' := 26) (L' := [some (.ref 0), some (.int p0), none, none, none]) (S' := [.int (1 : Int32)]) (σ' := σ) 2 (fun n h => h) ?_
            exact t_X_bad_b26 d _ _ _ p0 (1 : Int32) σ h hp
        · rw [if_pos hc6] at h
          cases h
          exact go_ret 2 (fun _ => hp)
