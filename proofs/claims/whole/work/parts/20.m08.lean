def f_M_termHere (N : Nat) (σ : aSt) : Option (Int32 × aSt) :=
  ((f_M_isWord_202 N σ).bind fun x1 => (if x1 = true then ((f_M_advance N σ).bind fun x3 => some ((1000 : Int32), x3)) else (if (f_M_good σ) = true then (if (σ.1 66 16) ≠ (2 : Int32) then ((f_M_pointHere N (1 : Int32) σ).bind fun x6 => some (x6.1, x6.2)) else ((f_M_number N (0 : Int32) (20 : Int32) σ).bind fun x7 => ((f_M_pointHere N x7.1 x7.2).bind fun x8 => some (x8.1, x8.2)))) else ((f_M_pointHere N (1 : Int32) σ).bind fun x9 => some (x9.1, x9.2)))))
set_option maxRecDepth 20000 in
set_option maxHeartbeats 4000000 in
theorem c_M_termHere (d : Nat) {N : Nat} (σ : aSt) {P : Option Value → aSt → Prop} {x : (Int32 × aSt)} (h : f_M_termHere N σ = some x) (hp : P (some (.int x.1)) x.2) : aCall MT (d + 7) 133 [.ref 66] σ P := by
  unfold f_M_termHere at h
  refine call_of (code := mc_M_termHere) (L := [some (.ref 66)]) rfl rfl rfl rfl ?_
  obtain ⟨x1, hx1, h⟩ := bind_of h
  refine go_call (r := some (.int (b2i x1))) (σc := σ) (σ1 := σ) (mi := 51) (vs := [.ref 66, .ref 202]) (k' := 3) (L' := [some (.ref 66)]) (S' := []) 3 (fun P9 h9 => c_M_isWord_202 (d + 4) σ hx1 h9) (fun n h => h) ?_
  refine go_ifz (b := x1) (k1 := 8) (L1 := [some (.ref 66)]) (S1 := []) (σ1 := σ) (k2 := 4) (L2 := [some (.ref 66)]) (S2 := []) (σ2 := σ) 1 (fun n h => h) (fun hc2 => ?_) (fun hc2 => ?_)
  · rw [if_neg hc2] at h
    refine go_call (r := some (.int (b2i (f_M_good σ)))) (σc := σ) (σ1 := σ) (mi := 50) (vs := [.ref 66]) (k' := 11) (L' := [some (.ref 66)]) (S' := [.ref 66]) 3 (fun P9 h9 => c_M_good (d + 5) σ h9) (fun n h => h) ?_
    refine go_ifz (b := (f_M_good σ)) (k1 := 21) (L1 := [some (.ref 66)]) (S1 := [.ref 66]) (σ1 := σ) (k2 := 12) (L2 := [some (.ref 66)]) (S2 := [.ref 66]) (σ2 := σ) 1 (fun n h => h) (fun hc4 => ?_) (fun hc4 => ?_)
    · rw [if_neg hc4] at h
      obtain ⟨x9, hx9, h⟩ := bind_of h
      refine go_call (r := some (.int x9.1)) (σc := σ) (σ1 := x9.2) (mi := 132) (vs := [.ref 66, .int (1 : Int32)]) (k' := 23) (L' := [some (.ref 66)]) (S' := []) 2 (fun P9 h9 => c_M_pointHere (d + 0) (1 : Int32) σ hx9 h9) (fun n h => h) ?_
      cases h
      exact go_ret 1 (fun _ => hp)
    · rw [if_pos hc4] at h
      refine go_if (c := (σ.1 66 16) ≠ (2 : Int32)) (k1 := 21) (L1 := [some (.ref 66)]) (S1 := [.ref 66]) (σ1 := σ) (k2 := 16) (L2 := [some (.ref 66)]) (S2 := [.ref 66]) (σ2 := σ) 4 (fun n h => h) (fun hc5 => ?_) (fun hc5 => ?_)
      · rw [if_pos hc5] at h
        obtain ⟨x6, hx6, h⟩ := bind_of h
        refine go_call (r := some (.int x6.1)) (σc := σ) (σ1 := x6.2) (mi := 132) (vs := [.ref 66, .int (1 : Int32)]) (k' := 23) (L' := [some (.ref 66)]) (S' := []) 2 (fun P9 h9 => c_M_pointHere (d + 0) (1 : Int32) σ hx6 h9) (fun n h => h) ?_
        cases h
        exact go_ret 1 (fun _ => hp)
      · rw [if_neg hc5] at h
        obtain ⟨x7, hx7, h⟩ := bind_of h
        refine go_call (r := some (.int x7.1)) (σc := σ) (σ1 := x7.2) (mi := 54) (vs := [.ref 66, .int (0 : Int32), .int (20 : Int32)]) (k' := 20) (L' := [some (.ref 66)]) (S' := [.ref 66]) 4 (fun P9 h9 => c_M_number (d + 3) (0 : Int32) (20 : Int32) σ hx7 h9) (fun n h => h) ?_
        obtain ⟨x8, hx8, h⟩ := bind_of h
        refine go_call (r := some (.int x8.1)) (σc := x7.2) (σ1 := x8.2) (mi := 132) (vs := [.ref 66, .int x7.1]) (k' := 23) (L' := [some (.ref 66)]) (S' := []) 2 (fun P9 h9 => c_M_pointHere (d + 0) x7.1 x7.2 hx8 h9) (fun n h => h) ?_
        cases h
        exact go_ret 1 (fun _ => hp)
  · rw [if_pos hc2] at h
    obtain ⟨x3, hx3, h⟩ := bind_of h
    refine go_call (r := none) (σc := σ) (σ1 := x3) (mi := 48) (vs := [.ref 66]) (k' := 6) (L' := [some (.ref 66)]) (S' := []) 2 (fun P9 h9 => c_M_advance (d + 4) σ hx3 h9) (fun n h => h) ?_
    cases h
    exact go_ret 2 (fun _ => hp)
def f_M_sumSigned (N : Nat) (p0 : Int32) (p1 : Int32) (p2 : Int32) (σ : aSt) : Option (Int32 × aSt) :=
  (if (f_M_good σ) = true then (if 0 ≤ p2 then (if (f_M_good σ) = true then ((f_M_sumOf N p0 p1 (1 : Int32) σ).bind fun x4 => some (x4.1, x4.2)) else some ((1000 : Int32), σ)) else (if p1 = (-6 : Int32) then (if (f_M_good σ) = true then ((f_M_sumOf N p0 p1 (1 : Int32) σ).bind fun x7 => some (x7.1, x7.2)) else some ((1000 : Int32), σ)) else ((f_M_turnedOf N p1 σ).bind fun x8 => (if (f_M_good σ) = true then ((f_M_sumOf N p0 x8 (1 : Int32) σ).bind fun x10 => some (x10.1, x10.2)) else some ((1000 : Int32), σ))))) else (if (f_M_good σ) = true then ((f_M_sumOf N p0 p1 (1 : Int32) σ).bind fun x12 => some (x12.1, x12.2)) else some ((1000 : Int32), σ)))
set_option maxRecDepth 20000 in
set_option maxHeartbeats 4000000 in
theorem c_M_sumSigned (d : Nat) {N : Nat} (p0 : Int32) (p1 : Int32) (p2 : Int32) (σ : aSt) {P : Option Value → aSt → Prop} {x : (Int32 × aSt)} (h : f_M_sumSigned N p0 p1 p2 σ = some x) (hp : P (some (.int x.1)) x.2) : aCall MT (d + 5) 134 [.ref 66, .int p0, .int p1, .int p2] σ P := by
  unfold f_M_sumSigned at h
  refine call_of (code := mc_M_sumSigned) (L := [some (.ref 66), some (.int p0), some (.int p1), some (.int p2), none]) rfl rfl rfl rfl ?_
  refine go_call (r := some (.int (b2i (f_M_good σ)))) (σc := σ) (σ1 := σ) (mi := 50) (vs := [.ref 66]) (k' := 2) (L' := [some (.ref 66), some (.int p0), some (.int p1), some (.int p2), none]) (S' := []) 2 (fun P9 h9 => c_M_good (d + 3) σ h9) (fun n h => h) ?_
  refine go_ifz (b := (f_M_good σ)) (k1 := 12) (L1 := [some (.ref 66), some (.int p0), some (.int p1), some (.int p2), none]) (S1 := []) (σ1 := σ) (k2 := 3) (L2 := [some (.ref 66), some (.int p0), some (.int p1), some (.int p2), none]) (S2 := []) (σ2 := σ) 1 (fun n h => h) (fun hc1 => ?_) (fun hc1 => ?_)
  · rw [if_neg hc1] at h
    refine go_call (r := some (.int (b2i (f_M_good σ)))) (σc := σ) (σ1 := σ) (mi := 50) (vs := [.ref 66]) (k' := 16) (L' := [some (.ref 66), some (.int p0), some (.int p1), none, some (.int p1)]) (S' := []) 4 (fun P9 h9 => c_M_good (d + 3) σ h9) (fun n h => h) ?_
    refine go_ifz (b := (f_M_good σ)) (k1 := 23) (L1 := [some (.ref 66), some (.int p0), some (.int p1), none, some (.int p1)]) (S1 := []) (σ1 := σ) (k2 := 17) (L2 := [some (.ref 66), some (.int p0), some (.int p1), none, some (.int p1)]) (S2 := []) (σ2 := σ) 1 (fun n h => h) (fun hc11 => ?_) (fun hc11 => ?_)
    · rw [if_neg hc11] at h
      cases h
      exact go_ret 2 (fun _ => hp)
    · rw [if_pos hc11] at h
      obtain ⟨x12, hx12, h⟩ := bind_of h
      refine go_call (r := some (.int x12.1)) (σc := σ) (σ1 := x12.2) (mi := 105) (vs := [.ref 66, .int p0, .int p1, .int (1 : Int32)]) (k' := 22) (L' := [some (.ref 66), some (.int p0), some (.int p1), none, some (.int p1)]) (S' := []) 5 (fun P9 h9 => c_M_sumOf (d + 0) p0 p1 (1 : Int32) σ hx12 h9) (fun n h => h) ?_
      cases h
      exact go_ret 2 (fun _ => hp)
  · rw [if_pos hc1] at h
    refine go_if (c := 0 ≤ p2) (k1 := 12) (L1 := [some (.ref 66), some (.int p0), some (.int p1), some (.int p2), none]) (S1 := []) (σ1 := σ) (k2 := 5) (L2 := [some (.ref 66), some (.int p0), some (.int p1), some (.int p2), none]) (S2 := []) (σ2 := σ) 2 (fun n h => h) (fun hc2 => ?_) (fun hc2 => ?_)
    · rw [if_pos hc2] at h
      refine go_call (r := some (.int (b2i (f_M_good σ)))) (σc := σ) (σ1 := σ) (mi := 50) (vs := [.ref 66]) (k' := 16) (L' := [some (.ref 66), some (.int p0), some (.int p1), none, some (.int p1)]) (S' := []) 4 (fun P9 h9 => c_M_good (d + 3) σ h9) (fun n h => h) ?_
      refine go_ifz (b := (f_M_good σ)) (k1 := 23) (L1 := [some (.ref 66), some (.int p0), some (.int p1), none, some (.int p1)]) (S1 := []) (σ1 := σ) (k2 := 17) (L2 := [some (.ref 66), some (.int p0), some (.int p1), none, some (.int p1)]) (S2 := []) (σ2 := σ) 1 (fun n h => h) (fun hc3 => ?_) (fun hc3 => ?_)
      · rw [if_neg hc3] at h
        cases h
        exact go_ret 2 (fun _ => hp)
      · rw [if_pos hc3] at h
        obtain ⟨x4, hx4, h⟩ := bind_of h
        refine go_call (r := some (.int x4.1)) (σc := σ) (σ1 := x4.2) (mi := 105) (vs := [.ref 66, .int p0, .int p1, .int (1 : Int32)]) (k' := 22) (L' := [some (.ref 66), some (.int p0), some (.int p1), none, some (.int p1)]) (S' := []) 5 (fun P9 h9 => c_M_sumOf (d + 0) p0 p1 (1 : Int32) σ hx4 h9) (fun n h => h) ?_
        cases h
        exact go_ret 2 (fun _ => hp)
    · rw [if_neg hc2] at h
      refine go_if (c := p1 = (-6 : Int32)) (k1 := 12) (L1 := [some (.ref 66), some (.int p0), some (.int p1), some (.int p2), none]) (S1 := []) (σ1 := σ) (k2 := 8) (L2 := [some (.ref 66), some (.int p0), some (.int p1), some (.int p2), none]) (S2 := []) (σ2 := σ) 3 (fun n h => h) (fun hc5 => ?_) (fun hc5 => ?_)
      · rw [if_pos hc5] at h
        refine go_call (r := some (.int (b2i (f_M_good σ)))) (σc := σ) (σ1 := σ) (mi := 50) (vs := [.ref 66]) (k' := 16) (L' := [some (.ref 66), some (.int p0), some (.int p1), none, some (.int p1)]) (S' := []) 4 (fun P9 h9 => c_M_good (d + 3) σ h9) (fun n h => h) ?_
        refine go_ifz (b := (f_M_good σ)) (k1 := 23) (L1 := [some (.ref 66), some (.int p0), some (.int p1), none, some (.int p1)]) (S1 := []) (σ1 := σ) (k2 := 17) (L2 := [some (.ref 66), some (.int p0), some (.int p1), none, some (.int p1)]) (S2 := []) (σ2 := σ) 1 (fun n h => h) (fun hc6 => ?_) (fun hc6 => ?_)
        · rw [if_neg hc6] at h
          cases h
          exact go_ret 2 (fun _ => hp)
        · rw [if_pos hc6] at h
          obtain ⟨x7, hx7, h⟩ := bind_of h
          refine go_call (r := some (.int x7.1)) (σc := σ) (σ1 := x7.2) (mi := 105) (vs := [.ref 66, .int p0, .int p1, .int (1 : Int32)]) (k' := 22) (L' := [some (.ref 66), some (.int p0), some (.int p1), none, some (.int p1)]) (S' := []) 5 (fun P9 h9 => c_M_sumOf (d + 0) p0 p1 (1 : Int32) σ hx7 h9) (fun n h => h) ?_
          cases h
          exact go_ret 2 (fun _ => hp)
      · rw [if_neg hc5] at h
        obtain ⟨x8, hx8, h⟩ := bind_of h
        refine go_call (r := some (.int x8)) (σc := σ) (σ1 := σ) (mi := 92) (vs := [.ref 66, .int p1]) (k' := 11) (L' := [some (.ref 66), some (.int p0), some (.int p1), some (.int p2), none]) (S' := []) 3 (fun P9 h9 => c_M_turnedOf (d + 2) p1 σ hx8 h9) (fun n h => h) ?_
        refine go_call (r := some (.int (b2i (f_M_good σ)))) (σc := σ) (σ1 := σ) (mi := 50) (vs := [.ref 66]) (k' := 16) (L' := [some (.ref 66), some (.int p0), some (.int p1), none, some (.int x8)]) (S' := []) 4 (fun P9 h9 => c_M_good (d + 3) σ h9) (fun n h => h) ?_
        refine go_ifz (b := (f_M_good σ)) (k1 := 23) (L1 := [some (.ref 66), some (.int p0), some (.int p1), none, some (.int x8)]) (S1 := []) (σ1 := σ) (k2 := 17) (L2 := [some (.ref 66), some (.int p0), some (.int p1), none, some (.int x8)]) (S2 := []) (σ2 := σ) 1 (fun n h => h) (fun hc9 => ?_) (fun hc9 => ?_)
        · rw [if_neg hc9] at h
          cases h
          exact go_ret 2 (fun _ => hp)
        · rw [if_pos hc9] at h
          obtain ⟨x10, hx10, h⟩ := bind_of h
          refine go_call (r := some (.int x10.1)) (σc := σ) (σ1 := x10.2) (mi := 105) (vs := [.ref 66, .int p0, .int x8, .int (1 : Int32)]) (k' := 22) (L' := [some (.ref 66), some (.int p0), some (.int p1), none, some (.int x8)]) (S' := []) 5 (fun P9 h9 => c_M_sumOf (d + 0) p0 x8 (1 : Int32) σ hx10 h9) (fun n h => h) ?_
          cases h
          exact go_ret 2 (fun _ => hp)
def f_M_formula_l25 (N : Nat) : Nat → aSt → Option (Int32 × aSt)
  | 0, _ => none
  | n + 1, σ => (if (f_M_isSign (43 : Int32) σ) = true then (if (f_M_isSign (43 : Int32) σ) = true then ((f_M_advance N σ).bind fun x9 => ((f_M_termHere N x9).bind fun x10 => ((f_M_sumSigned N (x9.1 66 28) x10.1 (1 : Int32) x10.2).bind fun x11 => f_M_formula_l25 N n (s_i x11.2 66 28 x11.1)))) else ((f_M_advance N σ).bind fun x12 => ((f_M_termHere N x12).bind fun x13 => ((f_M_sumSigned N (x12.1 66 28) x13.1 (-1 : Int32) x13.2).bind fun x14 => f_M_formula_l25 N n (s_i x14.2 66 28 x14.1))))) else (if (f_M_isSign (45 : Int32) σ) = true then (if (f_M_isSign (43 : Int32) σ) = true then ((f_M_advance N σ).bind fun x17 => ((f_M_termHere N x17).bind fun x18 => ((f_M_sumSigned N (x17.1 66 28) x18.1 (1 : Int32) x18.2).bind fun x19 => f_M_formula_l25 N n (s_i x19.2 66 28 x19.1)))) else ((f_M_advance N σ).bind fun x20 => ((f_M_termHere N x20).bind fun x21 => ((f_M_sumSigned N (x20.1 66 28) x21.1 (-1 : Int32) x21.2).bind fun x22 => f_M_formula_l25 N n (s_i x22.2 66 28 x22.1))))) else (if (f_M_good σ) = true then (if (σ.1 66 16) = 0 then (if (f_M_good σ) = true then some ((σ.1 66 28), σ) else some ((-4 : Int32), σ)) else (lt (f_M_errs (1 : Int32) (σ.1 66 15) σ) fun x26 => (if (f_M_good x26) = true then some ((x26.1 66 28), x26) else some ((-4 : Int32), x26)))) else (if (f_M_good σ) = true then some ((σ.1 66 28), σ) else some ((-4 : Int32), σ)))))
set_option maxRecDepth 20000 in
set_option maxHeartbeats 4000000 in
theorem t_M_formula_l25 (d : Nat) {N : Nat} {x : (Int32 × aSt)} {P : Option Value → aSt → Prop} (hp : P (some (.int x.1)) x.2) : ∀ (n : Nat) (d1 : Option Value) (σ : aSt), f_M_formula_l25 N n σ = some x → aGo (aCall MT (d + 7)) P mc_M_formula 25 [some (.ref 66), d1] [] σ := by
  intro n
  induction n with
  | zero => intro d1 σ h; cases h
  | succ n ih =>
    intro d1 σ h
    rw [f_M_formula_l25] at h
    refine go_call (r := some (.int (b2i (f_M_isSign (43 : Int32) σ)))) (σc := σ) (σ1 := σ) (mi := 53) (vs := [.ref 66, .int (43 : Int32)]) (k' := 28) (L' := [some (.ref 66), d1]) (S' := []) 3 (fun P9 h9 => c_M_isSign (d + 5) (43 : Int32) σ h9) (fun n h => h) ?_
    refine go_ifn (b := (f_M_isSign (43 : Int32) σ)) (k1 := 33) (L1 := [some (.ref 66), d1]) (S1 := []) (σ1 := σ) (k2 := 29) (L2 := [some (.ref 66), d1]) (S2 := []) (σ2 := σ) 1 (fun n h => h) (fun hc7 => ?_) (fun hc7 => ?_)
    · rw [if_pos hc7] at h
      refine go_call (r := some (.int (b2i (f_M_isSign (43 : Int32) σ)))) (σc := σ) (σ1 := σ) (mi := 53) (vs := [.ref 66, .int (43 : Int32)]) (k' := 36) (L' := [some (.ref 66), d1]) (S' := []) 3 (fun P9 h9 => c_M_isSign (d + 5) (43 : Int32) σ h9) (fun n h => h) ?_
      refine go_ifz (b := (f_M_isSign (43 : Int32) σ)) (k1 := 39) (L1 := [some (.ref 66), d1]) (S1 := []) (σ1 := σ) (k2 := 37) (L2 := [some (.ref 66), d1]) (S2 := []) (σ2 := σ) 1 (fun n h => h) (fun hc8 => ?_) (fun hc8 => ?_)
      · rw [if_neg hc8] at h
        obtain ⟨x12, hx12, h⟩ := bind_of h
        refine go_call (r := none) (σc := σ) (σ1 := x12) (mi := 48) (vs := [.ref 66]) (k' := 43) (L' := [some (.ref 66), some (.int (-1 : Int32))]) (S' := []) 4 (fun P9 h9 => c_M_advance (d + 5) σ hx12 h9) (fun n h => h) ?_
        obtain ⟨x13, hx13, h⟩ := bind_of h
        refine go_call (r := some (.int x13.1)) (σc := x12) (σ1 := x13.2) (mi := 133) (vs := [.ref 66]) (k' := 49) (L' := [some (.ref 66), some (.int (-1 : Int32))]) (S' := [.int (x12.1 66 28), .ref 66, .ref 66]) 6 (fun P9 h9 => c_M_termHere (d + 0) x12 hx13 h9) (fun n h => h) ?_
        obtain ⟨x14, hx14, h⟩ := bind_of h
        refine go_call (r := some (.int x14.1)) (σc := x13.2) (σ1 := x14.2) (mi := 134) (vs := [.ref 66, .int (x12.1 66 28), .int x13.1, .int (-1 : Int32)]) (k' := 51) (L' := [some (.ref 66), some (.int (-1 : Int32))]) (S' := [.ref 66]) 2 (fun P9 h9 => c_M_sumSigned (d + 2) (x12.1 66 28) x13.1 (-1 : Int32) x13.2 hx14 h9) (fun n h => h) ?_
        refine go_st (k' := 25) (L' := [some (.ref 66), some (.int (-1 : Int32))]) (S' := []) (σ' := (s_i x14.2 66 28 x14.1)) 2 (fun n h => h) ?_
        exact ih _ (s_i x14.2 66 28 x14.1) h
      · rw [if_pos hc8] at h
        obtain ⟨x9, hx9, h⟩ := bind_of h
        refine go_call (r := none) (σc := σ) (σ1 := x9) (mi := 48) (vs := [.ref 66]) (k' := 43) (L' := [some (.ref 66), some (.int (1 : Int32))]) (S' := []) 5 (fun P9 h9 => c_M_advance (d + 5) σ hx9 h9) (fun n h => h) ?_
        obtain ⟨x10, hx10, h⟩ := bind_of h
        refine go_call (r := some (.int x10.1)) (σc := x9) (σ1 := x10.2) (mi := 133) (vs := [.ref 66]) (k' := 49) (L' := [some (.ref 66), some (.int (1 : Int32))]) (S' := [.int (x9.1 66 28), .ref 66, .ref 66]) 6 (fun P9 h9 => c_M_termHere (d + 0) x9 hx10 h9) (fun n h => h) ?_
        obtain ⟨x11, hx11, h⟩ := bind_of h
        refine go_call (r := some (.int x11.1)) (σc := x10.2) (σ1 := x11.2) (mi := 134) (vs := [.ref 66, .int (x9.1 66 28), .int x10.1, .int (1 : Int32)]) (k' := 51) (L' := [some (.ref 66), some (.int (1 : Int32))]) (S' := [.ref 66]) 2 (fun P9 h9 => c_M_sumSigned (d + 2) (x9.1 66 28) x10.1 (1 : Int32) x10.2 hx11 h9) (fun n h => h) ?_
        refine go_st (k' := 25) (L' := [some (.ref 66), some (.int (1 : Int32))]) (S' := []) (σ' := (s_i x11.2 66 28 x11.1)) 2 (fun n h => h) ?_
        exact ih _ (s_i x11.2 66 28 x11.1) h
    · rw [if_neg hc7] at h
      refine go_call (r := some (.int (b2i (f_M_isSign (45 : Int32) σ)))) (σc := σ) (σ1 := σ) (mi := 53) (vs := [.ref 66, .int (45 : Int32)]) (k' := 32) (L' := [some (.ref 66), d1]) (S' := []) 3 (fun P9 h9 => c_M_isSign (d + 5) (45 : Int32) σ h9) (fun n h => h) ?_
      refine go_ifz (b := (f_M_isSign (45 : Int32) σ)) (k1 := 53) (L1 := [some (.ref 66), d1]) (S1 := []) (σ1 := σ) (k2 := 33) (L2 := [some (.ref 66), d1]) (S2 := []) (σ2 := σ) 1 (fun n h => h) (fun hc15 => ?_) (fun hc15 => ?_)
      · rw [if_neg hc15] at h
        refine go_call (r := some (.int (b2i (f_M_good σ)))) (σc := σ) (σ1 := σ) (mi := 50) (vs := [.ref 66]) (k' := 55) (L' := [some (.ref 66), d1]) (S' := []) 2 (fun P9 h9 => c_M_good (d + 6) σ h9) (fun n h => h) ?_
        refine go_ifz (b := (f_M_good σ)) (k1 := 64) (L1 := [some (.ref 66), d1]) (S1 := []) (σ1 := σ) (k2 := 56) (L2 := [some (.ref 66), d1]) (S2 := []) (σ2 := σ) 1 (fun n h => h) (fun hc23 => ?_) (fun hc23 => ?_)
        · rw [if_neg hc23] at h
          refine go_call (r := some (.int (b2i (f_M_good σ)))) (σc := σ) (σ1 := σ) (mi := 50) (vs := [.ref 66]) (k' := 66) (L' := [some (.ref 66), d1]) (S' := []) 2 (fun P9 h9 => c_M_good (d + 6) σ h9) (fun n h => h) ?_
          refine go_ifz (b := (f_M_good σ)) (k1 := 70) (L1 := [some (.ref 66), d1]) (S1 := []) (σ1 := σ) (k2 := 67) (L2 := [some (.ref 66), d1]) (S2 := []) (σ2 := σ) 1 (fun n h => h) (fun hc28 => ?_) (fun hc28 => ?_)
          · rw [if_neg hc28] at h
            cases h
            exact go_ret 2 (fun _ => hp)
          · rw [if_pos hc28] at h
            cases h
            exact go_ret 4 (fun _ => hp)
        · rw [if_pos hc23] at h
          refine go_if (c := (σ.1 66 16) = 0) (k1 := 64) (L1 := [some (.ref 66), d1]) (S1 := []) (σ1 := σ) (k2 := 59) (L2 := [some (.ref 66), d1]) (S2 := []) (σ2 := σ) 3 (fun n h => h) (fun hc24 => ?_) (fun hc24 => ?_)
          · rw [if_pos hc24] at h
            refine go_call (r := some (.int (b2i (f_M_good σ)))) (σc := σ) (σ1 := σ) (mi := 50) (vs := [.ref 66]) (k' := 66) (L' := [some (.ref 66), d1]) (S' := []) 2 (fun P9 h9 => c_M_good (d + 6) σ h9) (fun n h => h) ?_
            refine go_ifz (b := (f_M_good σ)) (k1 := 70) (L1 := [some (.ref 66), d1]) (S1 := []) (σ1 := σ) (k2 := 67) (L2 := [some (.ref 66), d1]) (S2 := []) (σ2 := σ) 1 (fun n h => h) (fun hc25 => ?_) (fun hc25 => ?_)
            · rw [if_neg hc25] at h
              cases h
              exact go_ret 2 (fun _ => hp)
            · rw [if_pos hc25] at h
              cases h
              exact go_ret 4 (fun _ => hp)
          · rw [if_neg hc24] at h
            obtain ⟨x26, hx26, h⟩ := lt_of h
            refine go_call (r := none) (σc := σ) (σ1 := x26) (mi := 52) (vs := [.ref 66, .int (1 : Int32), .int (σ.1 66 15)]) (k' := 64) (L' := [some (.ref 66), d1]) (S' := []) 5 (fun P9 h9 => c_M_errs (d + 5) (1 : Int32) (σ.1 66 15) σ (by rw [← hx26]; exact h9)) (fun n h => h) ?_
            refine go_call (r := some (.int (b2i (f_M_good x26)))) (σc := x26) (σ1 := x26) (mi := 50) (vs := [.ref 66]) (k' := 66) (L' := [some (.ref 66), d1]) (S' := []) 2 (fun P9 h9 => c_M_good (d + 6) x26 h9) (fun n h => h) ?_
            refine go_ifz (b := (f_M_good x26)) (k1 := 70) (L1 := [some (.ref 66), d1]) (S1 := []) (σ1 := x26) (k2 := 67) (L2 := [some (.ref 66), d1]) (S2 := []) (σ2 := x26) 1 (fun n h => h) (fun hc27 => ?_) (fun hc27 => ?_)
            · rw [if_neg hc27] at h
              cases h
              exact go_ret 2 (fun _ => hp)
            · rw [if_pos hc27] at h
              cases h
              exact go_ret 4 (fun _ => hp)
      · rw [if_pos hc15] at h
        refine go_call (r := some (.int (b2i (f_M_isSign (43 : Int32) σ)))) (σc := σ) (σ1 := σ) (mi := 53) (vs := [.ref 66, .int (43 : Int32)]) (k' := 36) (L' := [some (.ref 66), d1]) (S' := []) 3 (fun P9 h9 => c_M_isSign (d + 5) (43 : Int32) σ h9) (fun n h => h) ?_
        refine go_ifz (b := (f_M_isSign (43 : Int32) σ)) (k1 := 39) (L1 := [some (.ref 66), d1]) (S1 := []) (σ1 := σ) (k2 := 37) (L2 := [some (.ref 66), d1]) (S2 := []) (σ2 := σ) 1 (fun n h => h) (fun hc16 => ?_) (fun hc16 => ?_)
        · rw [if_neg hc16] at h
          obtain ⟨x20, hx20, h⟩ := bind_of h
          refine go_call (r := none) (σc := σ) (σ1 := x20) (mi := 48) (vs := [.ref 66]) (k' := 43) (L' := [some (.ref 66), some (.int (-1 : Int32))]) (S' := []) 4 (fun P9 h9 => c_M_advance (d + 5) σ hx20 h9) (fun n h => h) ?_
          obtain ⟨x21, hx21, h⟩ := bind_of h
          refine go_call (r := some (.int x21.1)) (σc := x20) (σ1 := x21.2) (mi := 133) (vs := [.ref 66]) (k' := 49) (L' := [some (.ref 66), some (.int (-1 : Int32))]) (S' := [.int (x20.1 66 28), .ref 66, .ref 66]) 6 (fun P9 h9 => c_M_termHere (d + 0) x20 hx21 h9) (fun n h => h) ?_
          obtain ⟨x22, hx22, h⟩ := bind_of h
          refine go_call (r := some (.int x22.1)) (σc := x21.2) (σ1 := x22.2) (mi := 134) (vs := [.ref 66, .int (x20.1 66 28), .int x21.1, .int (-1 : Int32)]) (k' := 51) (L' := [some (.ref 66), some (.int (-1 : Int32))]) (S' := [.ref 66]) 2 (fun P9 h9 => c_M_sumSigned (d + 2) (x20.1 66 28) x21.1 (-1 : Int32) x21.2 hx22 h9) (fun n h => h) ?_
          refine go_st (k' := 25) (L' := [some (.ref 66), some (.int (-1 : Int32))]) (S' := []) (σ' := (s_i x22.2 66 28 x22.1)) 2 (fun n h => h) ?_
          exact ih _ (s_i x22.2 66 28 x22.1) h
        · rw [if_pos hc16] at h
          obtain ⟨x17, hx17, h⟩ := bind_of h
          refine go_call (r := none) (σc := σ) (σ1 := x17) (mi := 48) (vs := [.ref 66]) (k' := 43) (L' := [some (.ref 66), some (.int (1 : Int32))]) (S' := []) 5 (fun P9 h9 => c_M_advance (d + 5) σ hx17 h9) (fun n h => h) ?_
          obtain ⟨x18, hx18, h⟩ := bind_of h
          refine go_call (r := some (.int x18.1)) (σc := x17) (σ1 := x18.2) (mi := 133) (vs := [.ref 66]) (k' := 49) (L' := [some (.ref 66), some (.int (1 : Int32))]) (S' := [.int (x17.1 66 28), .ref 66, .ref 66]) 6 (fun P9 h9 => c_M_termHere (d + 0) x17 hx18 h9) (fun n h => h) ?_
          obtain ⟨x19, hx19, h⟩ := bind_of h
          refine go_call (r := some (.int x19.1)) (σc := x18.2) (σ1 := x19.2) (mi := 134) (vs := [.ref 66, .int (x17.1 66 28), .int x18.1, .int (1 : Int32)]) (k' := 51) (L' := [some (.ref 66), some (.int (1 : Int32))]) (S' := [.ref 66]) 2 (fun P9 h9 => c_M_sumSigned (d + 2) (x17.1 66 28) x18.1 (1 : Int32) x18.2 hx19 h9) (fun n h => h) ?_
          refine go_st (k' := 25) (L' := [some (.ref 66), some (.int (1 : Int32))]) (S' := []) (σ' := (s_i x19.2 66 28 x19.1)) 2 (fun n h => h) ?_
          exact ih _ (s_i x19.2 66 28 x19.1) h
def f_M_formula_b17 (N : Nat) (v1 : Int32) (σ : aSt) : Option (Int32 × aSt) :=
  ((f_M_termHere N σ).bind fun x5 => ((f_M_sumSigned N (1000 : Int32) x5.1 v1 x5.2).bind fun x6 => f_M_formula_l25 N N (s_i x6.2 66 28 x6.1)))
set_option maxRecDepth 20000 in
set_option maxHeartbeats 4000000 in
theorem t_M_formula_b17 (d : Nat) {N : Nat} (v1 : Int32) (σ : aSt) {P : Option Value → aSt → Prop} {x : (Int32 × aSt)} (h : f_M_formula_b17 N v1 σ = some x) (hp : P (some (.int x.1)) x.2) : aGo (aCall MT (d + 7)) P mc_M_formula 17 [some (.ref 66), some (.int v1)] [] σ := by
  unfold f_M_formula_b17 at h
  obtain ⟨x5, hx5, h⟩ := bind_of h
  refine go_call (r := some (.int x5.1)) (σc := σ) (σ1 := x5.2) (mi := 133) (vs := [.ref 66]) (k' := 22) (L' := [some (.ref 66), some (.int v1)]) (S' := [.int (1000 : Int32), .ref 66, .ref 66]) 5 (fun P9 h9 => c_M_termHere (d + 0) σ hx5 h9) (fun n h => h) ?_
  obtain ⟨x6, hx6, h⟩ := bind_of h
  refine go_call (r := some (.int x6.1)) (σc := x5.2) (σ1 := x6.2) (mi := 134) (vs := [.ref 66, .int (1000 : Int32), .int x5.1, .int v1]) (k' := 24) (L' := [some (.ref 66), some (.int v1)]) (S' := [.ref 66]) 2 (fun P9 h9 => c_M_sumSigned (d + 2) (1000 : Int32) x5.1 v1 x5.2 hx6 h9) (fun n h => h) ?_
  refine go_st (k' := 25) (L' := [some (.ref 66), some (.int v1)]) (S' := []) (σ' := (s_i x6.2 66 28 x6.1)) 1 (fun n h => h) ?_
  exact t_M_formula_l25 d hp N _ (s_i x6.2 66 28 x6.1) h
def f_M_formula (N : Nat) (σ : aSt) : Option (Int32 × aSt) :=
  (if (σ.2.2 66 1) = true then ((f_M_begins N σ).bind fun x2 => (if (f_M_isSign (45 : Int32) x2) = true then ((f_M_advance N x2).bind fun x4 => f_M_formula_b17 N (-1 : Int32) x4) else f_M_formula_b17 N (1 : Int32) x2)) else some ((-2 : Int32), σ))
set_option maxRecDepth 20000 in
set_option maxHeartbeats 4000000 in
theorem c_M_formula (d : Nat) {N : Nat} (σ : aSt) {P : Option Value → aSt → Prop} {x : (Int32 × aSt)} (h : f_M_formula N σ = some x) (hp : P (some (.int x.1)) x.2) : aCall MT (d + 8) 135 [.ref 66] σ P := by
  unfold f_M_formula at h
  refine call_of (code := mc_M_formula) (L := [some (.ref 66), none]) rfl rfl rfl rfl ?_
  refine go_ifn (b := (σ.2.2 66 1)) (k1 := 5) (L1 := [some (.ref 66), none]) (S1 := []) (σ1 := σ) (k2 := 3) (L2 := [some (.ref 66), none]) (S2 := []) (σ2 := σ) 3 (fun n h => h) (fun hc1 => ?_) (fun hc1 => ?_)
  · rw [if_pos hc1] at h
    obtain ⟨x2, hx2, h⟩ := bind_of h
    refine go_call (r := none) (σc := σ) (σ1 := x2) (mi := 49) (vs := [.ref 66]) (k' := 7) (L' := [some (.ref 66), none]) (S' := []) 2 (fun P9 h9 => c_M_begins (d + 4) σ hx2 h9) (fun n h => h) ?_
    refine go_call (r := some (.int (b2i (f_M_isSign (45 : Int32) x2)))) (σc := x2) (σ1 := x2) (mi := 53) (vs := [.ref 66, .int (45 : Int32)]) (k' := 12) (L' := [some (.ref 66), some (.int (1 : Int32))]) (S' := []) 5 (fun P9 h9 => c_M_isSign (d + 5) (45 : Int32) x2 h9) (fun n h => h) ?_
    refine go_ifz (b := (f_M_isSign (45 : Int32) x2)) (k1 := 17) (L1 := [some (.ref 66), some (.int (1 : Int32))]) (S1 := []) (σ1 := x2) (k2 := 13) (L2 := [some (.ref 66), some (.int (1 : Int32))]) (S2 := []) (σ2 := x2) 1 (fun n h => h) (fun hc3 => ?_) (fun hc3 => ?_)
    · rw [if_neg hc3] at h
      exact t_M_formula_b17 d (1 : Int32) x2 h hp
    · rw [if_pos hc3] at h
      obtain ⟨x4, hx4, h⟩ := bind_of h
      refine go_call (r := none) (σc := x2) (σ1 := x4) (mi := 48) (vs := [.ref 66]) (k' := 17) (L' := [some (.ref 66), some (.int (-1 : Int32))]) (S' := []) 4 (fun P9 h9 => c_M_advance (d + 5) x2 hx4 h9) (fun n h => h) ?_
      exact t_M_formula_b17 d (-1 : Int32) x4 h hp
  · rw [if_neg hc1] at h
    cases h
    exact go_ret 2 (fun _ => hp)
def f_M_isPrime_l10 (N : Nat) : Nat → Int32 → Int32 → Option Bool
  | 0, _, _ => none
  | n + 1, v0, v1 => (if v0 < (v1 * v1) then some true else (if ¬ v1 = 0 then (if (irem v0 v1) ≠ 0 then f_M_isPrime_l10 N n v0 (v1 + (1 : Int32)) else some false) else none))
set_option maxRecDepth 20000 in
set_option maxHeartbeats 4000000 in
theorem t_M_isPrime_l10 (d : Nat) {N : Nat} (σ : aSt) {x : Bool} {P : Option Value → aSt → Prop} (hp : P (some (.int (b2i x))) σ) : ∀ (n : Nat) (v0 : Int32) (v1 : Int32), f_M_isPrime_l10 N n v0 v1 = some x → aGo (aCall MT (d + 0)) P mc_M_isPrime 10 [some (.int v0), some (.int v1)] [] σ := by
  intro n
  induction n with
  | zero => intro v0 v1 h; cases h
  | succ n ih =>
    intro v0 v1 h
    rw [f_M_isPrime_l10] at h
    refine go_if (c := v0 < (v1 * v1)) (k1 := 23) (L1 := [some (.int v0), some (.int v1)]) (S1 := []) (σ1 := σ) (k2 := 15) (L2 := [some (.int v0), some (.int v1)]) (S2 := []) (σ2 := σ) 5 (fun n h => h) (fun hc3 => ?_) (fun hc3 => ?_)
    · rw [if_pos hc3] at h
      cases h
      exact go_ret 2 (fun _ => And.intro (Or.inr rfl) hp)
    · rw [if_neg hc3] at h
      obtain ⟨hc4, h⟩ := ite_of h
      refine go_q (Q := ¬ v1 = 0) (k' := 18) (L' := [some (.int v0), some (.int v1)]) (S' := [.int (irem v0 v1)]) (σ' := σ) 3 hc4 (fun n h => h) ?_
      refine go_if (c := (irem v0 v1) ≠ 0) (k1 := 21) (L1 := [some (.int v0), some (.int v1)]) (S1 := []) (σ1 := σ) (k2 := 19) (L2 := [some (.int v0), some (.int v1)]) (S2 := []) (σ2 := σ) 1 (fun n h => h) (fun hc5 => ?_) (fun hc5 => ?_)
      · rw [if_pos hc5] at h
        refine go_st (k' := 10) (L' := [some (.int v0), some (.int (v1 + (1 : Int32)))]) (S' := []) (σ' := σ) 2 (fun n h => h) ?_
        exact ih v0 (v1 + (1 : Int32)) h
      · rw [if_neg hc5] at h
        cases h
        exact go_ret 2 (fun _ => And.intro (Or.inl rfl) hp)
def f_M_isPrime (N : Nat) (p0 : Int32) : Option Bool :=
  (if p0 < (3 : Int32) then some false else (if p0 ≤ (97 : Int32) then f_M_isPrime_l10 N N p0 (2 : Int32) else some false))
set_option maxRecDepth 20000 in
set_option maxHeartbeats 4000000 in
theorem c_M_isPrime (d : Nat) {N : Nat} (p0 : Int32) (σ : aSt) {P : Option Value → aSt → Prop} {x : Bool} (h : f_M_isPrime N p0 = some x) (hp : P (some (.int (b2i x))) σ) : aCall MT (d + 1) 145 [.int p0] σ P := by
  unfold f_M_isPrime at h
  refine call_of (code := mc_M_isPrime) (L := [some (.int p0), none]) rfl rfl rfl rfl ?_
  refine go_if (c := p0 < (3 : Int32)) (k1 := 6) (L1 := [some (.int p0), none]) (S1 := []) (σ1 := σ) (k2 := 3) (L2 := [some (.int p0), none]) (S2 := []) (σ2 := σ) 3 (fun n h => h) (fun hc1 => ?_) (fun hc1 => ?_)
  · rw [if_pos hc1] at h
    cases h
    exact go_ret 2 (fun _ => And.intro (Or.inl rfl) hp)
  · rw [if_neg hc1] at h
    refine go_if (c := p0 ≤ (97 : Int32)) (k1 := 8) (L1 := [some (.int p0), none]) (S1 := []) (σ1 := σ) (k2 := 6) (L2 := [some (.int p0), none]) (S2 := []) (σ2 := σ) 3 (fun n h => h) (fun hc2 => ?_) (fun hc2 => ?_)
    · rw [if_pos hc2] at h
      refine go_st (k' := 10) (L' := [some (.int p0), some (.int (2 : Int32))]) (S' := []) (σ' := σ) 2 (fun n h => h) ?_
      exact t_M_isPrime_l10 d σ hp N p0 (2 : Int32) h
    · rw [if_neg hc2] at h
      cases h
      exact go_ret 2 (fun _ => And.intro (Or.inl rfl) hp)
def f_M_isGoodPrime (N : Nat) (p0 : Int32) (σ : aSt) : Option Bool :=
  (if (σ.2.2 66 1) = true then ((f_M_isPrime N p0).bind fun x2 => (if x2 = true then (if ¬ p0 = 0 then (if (irem (σ.1 66 3) p0) = 0 then some false else (if (irem (((σ.1 66 2) * (σ.1 66 2)) - ((4 : Int32) * (σ.1 66 3))) p0) = 0 then some false else some true)) else none) else some false)) else some false)
set_option maxRecDepth 20000 in
set_option maxHeartbeats 4000000 in
theorem c_M_isGoodPrime (d : Nat) {N : Nat} (p0 : Int32) (σ : aSt) {P : Option Value → aSt → Prop} {x : Bool} (h : f_M_isGoodPrime N p0 σ = some x) (hp : P (some (.int (b2i x))) σ) : aCall MT (d + 2) 146 [.ref 66, .int p0] σ P := by
  unfold f_M_isGoodPrime at h
  refine call_of (code := mc_M_isGoodPrime) (L := [some (.ref 66), some (.int p0)]) rfl rfl rfl rfl ?_
  refine go_ifz (b := (σ.2.2 66 1)) (k1 := 26) (L1 := [some (.ref 66), some (.int p0)]) (S1 := []) (σ1 := σ) (k2 := 3) (L2 := [some (.ref 66), some (.int p0)]) (S2 := []) (σ2 := σ) 3 (fun n h => h) (fun hc1 => ?_) (fun hc1 => ?_)
  · rw [if_neg hc1] at h
    cases h
    exact go_ret 2 (fun _ => And.intro (Or.inl rfl) hp)
  · rw [if_pos hc1] at h
    obtain ⟨x2, hx2, h⟩ := bind_of h
    refine go_call (r := some (.int (b2i x2))) (σc := σ) (σ1 := σ) (mi := 145) (vs := [.int p0]) (k' := 5) (L' := [some (.ref 66), some (.int p0)]) (S' := []) 2 (fun P9 h9 => c_M_isPrime (d + 0) p0 σ hx2 h9) (fun n h => h) ?_
    refine go_ifz (b := x2) (k1 := 26) (L1 := [some (.ref 66), some (.int p0)]) (S1 := []) (σ1 := σ) (k2 := 6) (L2 := [some (.ref 66), some (.int p0)]) (S2 := []) (σ2 := σ) 1 (fun n h => h) (fun hc3 => ?_) (fun hc3 => ?_)
    · rw [if_neg hc3] at h
      cases h
      exact go_ret 2 (fun _ => And.intro (Or.inl rfl) hp)
    · rw [if_pos hc3] at h
      obtain ⟨hc4, h⟩ := ite_of h
      refine go_q (Q := ¬ p0 = 0) (k' := 10) (L' := [some (.ref 66), some (.int p0)]) (S' := [.int (irem (σ.1 66 3) p0)]) (σ' := σ) 4 hc4 (fun n h => h) ?_
      refine go_if (c := (irem (σ.1 66 3) p0) = 0) (k1 := 26) (L1 := [some (.ref 66), some (.int p0)]) (S1 := []) (σ1 := σ) (k2 := 11) (L2 := [some (.ref 66), some (.int p0)]) (S2 := []) (σ2 := σ) 1 (fun n h => h) (fun hc5 => ?_) (fun hc5 => ?_)
      · rw [if_pos hc5] at h
        cases h
        exact go_ret 2 (fun _ => And.intro (Or.inl rfl) hp)
      · rw [if_neg hc5] at h
        refine go_q (Q := ¬ p0 = 0) (k' := 23) (L' := [some (.ref 66), some (.int p0)]) (S' := [.int (irem (((σ.1 66 2) * (σ.1 66 2)) - ((4 : Int32) * (σ.1 66 3))) p0)]) (σ' := σ) 12 (hc4) (fun n h => h) ?_
        refine go_if (c := (irem (((σ.1 66 2) * (σ.1 66 2)) - ((4 : Int32) * (σ.1 66 3))) p0) = 0) (k1 := 26) (L1 := [some (.ref 66), some (.int p0)]) (S1 := []) (σ1 := σ) (k2 := 24) (L2 := [some (.ref 66), some (.int p0)]) (S2 := []) (σ2 := σ) 1 (fun n h => h) (fun hc6 => ?_) (fun hc6 => ?_)
        · rw [if_pos hc6] at h
          cases h
          exact go_ret 2 (fun _ => And.intro (Or.inl rfl) hp)
        · rw [if_neg hc6] at h
          cases h
          exact go_ret 3 (fun _ => And.intro (Or.inr rfl) hp)
def f_M_mod (N : Nat) (p0 : Int64) (p1 : Int32) : Option Int32 :=
  (if ¬ p1.toInt64 = 0 then some (lrem ((lrem p0 p1.toInt64) + p1.toInt64) p1.toInt64).toInt32 else none)
set_option maxRecDepth 20000 in
set_option maxHeartbeats 4000000 in
theorem c_M_mod (d : Nat) {N : Nat} (p0 : Int64) (p1 : Int32) (σ : aSt) {P : Option Value → aSt → Prop} {x : Int32} (h : f_M_mod N p0 p1 = some x) (hp : P (some (.int x)) σ) : aCall MT (d + 1) 147 [.long p0, .int p1] σ P := by
  unfold f_M_mod at h
  refine call_of (code := mc_M_mod) (L := [some (.long p0), none, some (.int p1)]) rfl rfl rfl rfl ?_
  obtain ⟨hc1, h⟩ := ite_of h
  refine go_q (Q := ¬ p1.toInt64 = 0) (k' := 4) (L' := [some (.long p0), none, some (.int p1)]) (S' := [.long (lrem p0 p1.toInt64)]) (σ' := σ) 4 hc1 (fun n h => h) ?_
  refine go_q (Q := ¬ p1.toInt64 = 0) (k' := 10) (L' := [some (.long p0), none, some (.int p1)]) (S' := [.long (lrem ((lrem p0 p1.toInt64) + p1.toInt64) p1.toInt64)]) (σ' := σ) 6 (hc1) (fun n h => h) ?_
  cases h
  exact go_ret 2 (fun _ => hp)
def f_M_manyOf_l37 (N : Nat) (σ : aSt) (k55 : Int32 → Int32 → Int32 → Option Int32) : Nat → Int32 → Int32 → Int32 → Int32 → Int32 → Option Int32
  | 0, _, _, _, _, _ => none
  | n + 1, v1, v2, v3, v4, v5 => (if v1 ≤ v5 then k55 v1 v2 v3 else (if ¬ v1 = 0 then (if (irem (v5 * v5) v1) ≠ v4 then f_M_manyOf_l37 N σ k55 n v1 (v2 + (0 : Int32)) v3 v4 (v5 + (1 : Int32)) else f_M_manyOf_l37 N σ k55 n v1 (v2 + (1 : Int32)) v3 v4 (v5 + (1 : Int32))) else none))
set_option maxRecDepth 20000 in
set_option maxHeartbeats 4000000 in
theorem t_M_manyOf_l37 (d : Nat) {N : Nat} (σ : aSt) (k55 : Int32 → Int32 → Int32 → Option Int32) {x : Int32} {P : Option Value → aSt → Prop} (hp : P (some (.int x)) σ) (hk55 : ∀ (d4 d5 : Option Value) (v1 : Int32) (v2 : Int32) (v3 : Int32), k55 v1 v2 v3 = some x → aGo (aCall MT (d + 1)) P mc_M_manyOf 55 [some (.ref 66), some (.int v1), some (.int v2), some (.int v3), d4, d5] [] σ) : ∀ (n : Nat) (v1 : Int32) (v2 : Int32) (v3 : Int32) (v4 : Int32) (v5 : Int32), f_M_manyOf_l37 N σ k55 n v1 v2 v3 v4 v5 = some x → aGo (aCall MT (d + 1)) P mc_M_manyOf 37 [some (.ref 66), some (.int v1), some (.int v2), some (.int v3), some (.int v4), some (.int v5)] [] σ := by
  intro n
  induction n with
  | zero => intro v1 v2 v3 v4 v5 h; cases h
  | succ n ih =>
    intro v1 v2 v3 v4 v5 h
    rw [f_M_manyOf_l37] at h
    refine go_if (c := v1 ≤ v5) (k1 := 55) (L1 := [some (.ref 66), some (.int v1), some (.int v2), some (.int v3), some (.int v4), some (.int v5)]) (S1 := []) (σ1 := σ) (k2 := 40) (L2 := [some (.ref 66), some (.int v1), some (.int v2), some (.int v3), some (.int v4), some (.int v5)]) (S2 := []) (σ2 := σ) 3 (fun n h => h) (fun hc3 => ?_) (fun hc3 => ?_)
    · rw [if_pos hc3] at h
      exact hk55 _ _ v1 v2 v3 h
    · rw [if_neg hc3] at h
      obtain ⟨hc4, h⟩ := ite_of h
      refine go_q (Q := ¬ v1 = 0) (k' := 46) (L' := [some (.ref 66), some (.int v1), some (.int v2), some (.int v3), some (.int v4), some (.int v5)]) (S' := [.int (irem (v5 * v5) v1), .int v2]) (σ' := σ) 6 hc4 (fun n h => h) ?_
      refine go_if (c := (irem (v5 * v5) v1) ≠ v4) (k1 := 50) (L1 := [some (.ref 66), some (.int v1), some (.int v2), some (.int v3), some (.int v4), some (.int v5)]) (S1 := [.int v2]) (σ1 := σ) (k2 := 48) (L2 := [some (.ref 66), some (.int v1), some (.int v2), some (.int v3), some (.int v4), some (.int v5)]) (S2 := [.int v2]) (σ2 := σ) 2 (fun n h => h) (fun hc5 => ?_) (fun hc5 => ?_)
      · rw [if_pos hc5] at h
        refine go_st (k' := 37) (L' := [some (.ref 66), some (.int v1), some (.int (v2 + (0 : Int32))), some (.int v3), some (.int v4), some (.int (v5 + (1 : Int32)))]) (S' := []) (σ' := σ) 5 (fun n h => h) ?_
        exact ih v1 (v2 + (0 : Int32)) v3 v4 (v5 + (1 : Int32)) h
      · rw [if_neg hc5] at h
        refine go_st (k' := 37) (L' := [some (.ref 66), some (.int v1), some (.int (v2 + (1 : Int32))), some (.int v3), some (.int v4), some (.int (v5 + (1 : Int32)))]) (S' := []) (σ' := σ) 6 (fun n h => h) ?_
        exact ih v1 (v2 + (1 : Int32)) v3 v4 (v5 + (1 : Int32)) h
def f_M_manyOf_l4 (N : Nat) (σ : aSt) : Nat → Int32 → Int32 → Int32 → Option Int32
  | 0, _, _, _ => none
  | n + 1, v1, v2, v3 => (if v1 ≤ v3 then some v2 else ((f_M_mod N ((((v3.toInt64 * v3.toInt64) * v3.toInt64) + (((σ.1 66 2).toInt64 * v3.toInt64) * v3.toInt64)) + ((σ.1 66 3).toInt64 * v3.toInt64)) v1).bind fun x2 => f_M_manyOf_l37 N σ (fun (y6 : Int32) (y7 : Int32) (y8 : Int32) => f_M_manyOf_l4 N σ n y6 y7 (y8 + (1 : Int32))) N v1 v2 v3 x2 (0 : Int32)))
set_option maxRecDepth 20000 in
set_option maxHeartbeats 4000000 in
theorem t_M_manyOf_l4 (d : Nat) {N : Nat} (σ : aSt) {x : Int32} {P : Option Value → aSt → Prop} (hp : P (some (.int x)) σ) : ∀ (n : Nat) (d4 d5 : Option Value) (v1 : Int32) (v2 : Int32) (v3 : Int32), f_M_manyOf_l4 N σ n v1 v2 v3 = some x → aGo (aCall MT (d + 1)) P mc_M_manyOf 4 [some (.ref 66), some (.int v1), some (.int v2), some (.int v3), d4, d5] [] σ := by
  intro n
  induction n with
  | zero => intro d4 d5 v1 v2 v3 h; cases h
  | succ n ih =>
    intro d4 d5 v1 v2 v3 h
    rw [f_M_manyOf_l4] at h
    refine go_if (c := v1 ≤ v3) (k1 := 57) (L1 := [some (.ref 66), some (.int v1), some (.int v2), some (.int v3), d4, d5]) (S1 := []) (σ1 := σ) (k2 := 7) (L2 := [some (.ref 66), some (.int v1), some (.int v2), some (.int v3), d4, d5]) (S2 := []) (σ2 := σ) 3 (fun n h => h) (fun hc1 => ?_) (fun hc1 => ?_)
    · rw [if_pos hc1] at h
      cases h
      exact go_ret 2 (fun _ => hp)
    · rw [if_neg hc1] at h
      obtain ⟨x2, hx2, h⟩ := bind_of h
      refine go_call (r := some (.int x2)) (σc := σ) (σ1 := σ) (mi := 147) (vs := [.long ((((v3.toInt64 * v3.toInt64) * v3.toInt64) + (((σ.1 66 2).toInt64 * v3.toInt64) * v3.toInt64)) + ((σ.1 66 3).toInt64 * v3.toInt64)), .int v1]) (k' := 34) (L' := [some (.ref 66), some (.int v1), some (.int v2), some (.int v3), d4, d5]) (S' := []) 27 (fun P9 h9 => c_M_mod (d + 0) ((((v3.toInt64 * v3.toInt64) * v3.toInt64) + (((σ.1 66 2).toInt64 * v3.toInt64) * v3.toInt64)) + ((σ.1 66 3).toInt64 * v3.toInt64)) v1 σ hx2 h9) (fun n h => h) ?_
      refine go_st (k' := 37) (L' := [some (.ref 66), some (.int v1), some (.int v2), some (.int v3), some (.int x2), some (.int (0 : Int32))]) (S' := []) (σ' := σ) 3 (fun n h => h) ?_
      refine t_M_manyOf_l37 d σ _ hp (fun d4 d5 y6 y7 y8 h => ?_) N v1 v2 v3 x2 (0 : Int32) h
      · refine go_st (k' := 4) (L' := [some (.ref 66), some (.int y6), some (.int y7), some (.int (y8 + (1 : Int32))), d4, d5]) (S' := []) (σ' := σ) 2 (fun n h => h) ?_
        exact ih _ _ y6 y7 (y8 + (1 : Int32)) h
def f_M_manyOf (N : Nat) (p0 : Int32) (σ : aSt) : Option Int32 :=
  f_M_manyOf_l4 N σ N p0 (1 : Int32) (0 : Int32)
set_option maxRecDepth 20000 in
set_option maxHeartbeats 4000000 in
theorem c_M_manyOf (d : Nat) {N : Nat} (p0 : Int32) (σ : aSt) {P : Option Value → aSt → Prop} {x : Int32} (h : f_M_manyOf N p0 σ = some x) (hp : P (some (.int x)) σ) : aCall MT (d + 2) 148 [.ref 66, .int p0] σ P := by
  unfold f_M_manyOf at h
  refine call_of (code := mc_M_manyOf) (L := [some (.ref 66), some (.int p0), none, none, none, none]) rfl rfl rfl rfl ?_
  refine go_st (k' := 4) (L' := [some (.ref 66), some (.int p0), some (.int (1 : Int32)), some (.int (0 : Int32)), none, none]) (S' := []) (σ' := σ) 4 (fun n h => h) ?_
  exact t_M_manyOf_l4 d σ hp N _ _ p0 (1 : Int32) (0 : Int32) h
def f_M_many (N : Nat) (p0 : Int32) (σ : aSt) : Option Int32 :=
  ((f_M_isGoodPrime N p0 σ).bind fun x1 => (if x1 = true then ((f_M_manyOf N p0 σ).bind fun x3 => some x3) else some (-2 : Int32)))
set_option maxRecDepth 20000 in
set_option maxHeartbeats 4000000 in
theorem c_M_many (d : Nat) {N : Nat} (p0 : Int32) (σ : aSt) {P : Option Value → aSt → Prop} {x : Int32} (h : f_M_many N p0 σ = some x) (hp : P (some (.int x)) σ) : aCall MT (d + 3) 149 [.ref 66, .int p0] σ P := by
  unfold f_M_many at h
  refine call_of (code := mc_M_many) (L := [some (.ref 66), some (.int p0)]) rfl rfl rfl rfl ?_
  obtain ⟨x1, hx1, h⟩ := bind_of h
  refine go_call (r := some (.int (b2i x1))) (σc := σ) (σ1 := σ) (mi := 146) (vs := [.ref 66, .int p0]) (k' := 3) (L' := [some (.ref 66), some (.int p0)]) (S' := []) 3 (fun P9 h9 => c_M_isGoodPrime (d + 0) p0 σ hx1 h9) (fun n h => h) ?_
  refine go_ifz (b := x1) (k1 := 8) (L1 := [some (.ref 66), some (.int p0)]) (S1 := []) (σ1 := σ) (k2 := 4) (L2 := [some (.ref 66), some (.int p0)]) (S2 := []) (σ2 := σ) 1 (fun n h => h) (fun hc2 => ?_) (fun hc2 => ?_)
  · rw [if_neg hc2] at h
    cases h
    exact go_ret 2 (fun _ => hp)
  · rw [if_pos hc2] at h
    obtain ⟨x3, hx3, h⟩ := bind_of h
    refine go_call (r := some (.int x3)) (σc := σ) (σ1 := σ) (mi := 148) (vs := [.ref 66, .int p0]) (k' := 7) (L' := [some (.ref 66), some (.int p0)]) (S' := []) 3 (fun P9 h9 => c_M_manyOf (d + 0) p0 σ hx3 h9) (fun n h => h) ?_
    cases h
    exact go_ret 2 (fun _ => hp)
def f_M_power_l4 (N : Nat) : Nat → Int32 → Int32 → Int32 → Int32 → Int32 → Option Int32
  | 0, _, _, _, _, _ => none
  | n + 1, v0, v1, v2, v3, v4 => (if v1 ≤ v4 then some v3 else (if ¬ v2 = 0 then f_M_power_l4 N n v0 v1 v2 (irem (v3 * v0) v2) (v4 + (1 : Int32)) else none))
set_option maxRecDepth 20000 in
set_option maxHeartbeats 4000000 in
theorem t_M_power_l4 (d : Nat) {N : Nat} (σ : aSt) {x : Int32} {P : Option Value → aSt → Prop} (hp : P (some (.int x)) σ) : ∀ (n : Nat) (v0 : Int32) (v1 : Int32) (v2 : Int32) (v3 : Int32) (v4 : Int32), f_M_power_l4 N n v0 v1 v2 v3 v4 = some x → aGo (aCall MT (d + 0)) P mc_M_power 4 [some (.int v0), some (.int v1), some (.int v2), some (.int v3), some (.int v4)] [] σ := by
  intro n
  induction n with
  | zero => intro v0 v1 v2 v3 v4 h; cases h
  | succ n ih =>
    intro v0 v1 v2 v3 v4 h
    rw [f_M_power_l4] at h
    refine go_if (c := v1 ≤ v4) (k1 := 15) (L1 := [some (.int v0), some (.int v1), some (.int v2), some (.int v3), some (.int v4)]) (S1 := []) (σ1 := σ) (k2 := 7) (L2 := [some (.int v0), some (.int v1), some (.int v2), some (.int v3), some (.int v4)]) (S2 := []) (σ2 := σ) 3 (fun n h => h) (fun hc1 => ?_) (fun hc1 => ?_)
    · rw [if_pos hc1] at h
      cases h
      exact go_ret 2 (fun _ => hp)
    · rw [if_neg hc1] at h
      obtain ⟨hc2, h⟩ := ite_of h
      refine go_q (Q := ¬ v2 = 0) (k' := 12) (L' := [some (.int v0), some (.int v1), some (.int v2), some (.int v3), some (.int v4)]) (S' := [.int (irem (v3 * v0) v2)]) (σ' := σ) 5 hc2 (fun n h => h) ?_
      refine go_st (k' := 4) (L' := [some (.int v0), some (.int v1), some (.int v2), some (.int (irem (v3 * v0) v2)), some (.int (v4 + (1 : Int32)))]) (S' := []) (σ' := σ) 3 (fun n h => h) ?_
      exact ih v0 v1 v2 (irem (v3 * v0) v2) (v4 + (1 : Int32)) h
def f_M_power (N : Nat) (p0 : Int32) (p1 : Int32) (p2 : Int32) : Option Int32 :=
  f_M_power_l4 N N p0 p1 p2 (1 : Int32) (0 : Int32)
set_option maxRecDepth 20000 in
set_option maxHeartbeats 4000000 in
theorem c_M_power (d : Nat) {N : Nat} (p0 : Int32) (p1 : Int32) (p2 : Int32) (σ : aSt) {P : Option Value → aSt → Prop} {x : Int32} (h : f_M_power N p0 p1 p2 = some x) (hp : P (some (.int x)) σ) : aCall MT (d + 1) 155 [.int p0, .int p1, .int p2] σ P := by
  unfold f_M_power at h
  refine call_of (code := mc_M_power) (L := [some (.int p0), some (.int p1), some (.int p2), none, none]) rfl rfl rfl rfl ?_
  refine go_st (k' := 4) (L' := [some (.int p0), some (.int p1), some (.int p2), some (.int (1 : Int32)), some (.int (0 : Int32))]) (S' := []) (σ' := σ) 4 (fun n h => h) ?_
  exact t_M_power_l4 d σ hp N p0 p1 p2 (1 : Int32) (0 : Int32) h
def f_M_starts_b14 (N : Nat) (v1 : Int32) (v2 : Int32) (s1 : Bool) (σ : aSt) : Option aSt :=
  (if s1 = true then some (s_b σ 66 34 s1) else (if 0 ≤ v1 ∧ v1 < (120 : Int32) then (if ¬ v2 = 0 then ((f_M_power N (irem (σ.1 69 v1.toNatClampNeg) v2) (v2 - (2 : Int32)) v2).bind fun x5 => ((f_M_mod N (σ.1 67 v1.toNatClampNeg).toInt64 v2).bind fun x6 => (if ¬ v2.toInt64 = 0 then ((f_M_mod N ((lrem (x6.toInt64 * x5.toInt64) v2.toInt64) * x5.toInt64) v2).bind fun x8 => ((f_M_mod N (σ.2.1 68 v1.toNatClampNeg) v2).bind fun x9 => ((f_M_mod N ((lrem ((lrem (x9.toInt64 * x5.toInt64) v2.toInt64) * x5.toInt64) v2.toInt64) * x5.toInt64) v2).bind fun x10 => some (s_i (s_i (s_b σ 66 34 s1) 66 32 x8) 66 33 x10)))) else none))) else none) else none))
set_option maxRecDepth 20000 in
set_option maxHeartbeats 4000000 in
theorem t_M_starts_b14 (d : Nat) {N : Nat} (d3 : Option Value) (v1 : Int32) (v2 : Int32) (s1 : Bool) (σ : aSt) {P : Option Value → aSt → Prop} {x : aSt} (h : f_M_starts_b14 N v1 v2 s1 σ = some x) (hp : P none x) : aGo (aCall MT (d + 1)) P mc_M_starts 14 [some (.ref 66), some (.int v1), some (.int v2), d3] [.int (b2i s1), .ref 66] σ := by
  unfold f_M_starts_b14 at h
  refine go_q (Q := b2i s1 = 0 ∨ b2i s1 = 1) (k' := 15) (L' := [some (.ref 66), some (.int v1), some (.int v2), d3]) (S' := []) (σ' := s_b σ 66 34 (b2i s1 != 0)) 1 (b2i_01 _) (fun n h => h) ?_
  rw [b2i_nz]
  refine go_ifz (b := s1) (k1 := 19) (L1 := [some (.ref 66), some (.int v1), some (.int v2), d3]) (S1 := []) (σ1 := (s_b σ 66 34 s1)) (k2 := 18) (L2 := [some (.ref 66), some (.int v1), some (.int v2), d3]) (S2 := []) (σ2 := (s_b σ 66 34 s1)) 3 (fun n h => h) (fun hc2 => ?_) (fun hc2 => ?_)
  · rw [if_neg hc2] at h
    obtain ⟨hc3, h⟩ := ite_of h
    refine go_q (Q := inb 0 (s_b σ 66 34 s1) 69 v1) (k' := 23) (L' := [some (.ref 66), some (.int v1), some (.int v2), d3]) (S' := [.int (σ.1 69 v1.toNatClampNeg)]) (σ' := (s_b σ 66 34 s1)) 4 (inb_mk rfl hc3.1 hc3.2) (fun n h => h) ?_
    obtain ⟨hc4, h⟩ := ite_of h
    refine go_q (Q := ¬ v2 = 0) (k' := 25) (L' := [some (.ref 66), some (.int v1), some (.int v2), d3]) (S' := [.int (irem (σ.1 69 v1.toNatClampNeg) v2)]) (σ' := (s_b σ 66 34 s1)) 2 hc4 (fun n h => h) ?_
    obtain ⟨x5, hx5, h⟩ := bind_of h
    refine go_call (r := some (.int x5)) (σc := (s_b σ 66 34 s1)) (σ1 := (s_b σ 66 34 s1)) (mi := 155) (vs := [.int (irem (σ.1 69 v1.toNatClampNeg) v2), .int (v2 - (2 : Int32)), .int v2]) (k' := 30) (L' := [some (.ref 66), some (.int v1), some (.int v2), d3]) (S' := []) 5 (fun P9 h9 => c_M_power (d + 0) (irem (σ.1 69 v1.toNatClampNeg) v2) (v2 - (2 : Int32)) v2 (s_b σ 66 34 s1) hx5 h9) (fun n h => h) ?_
    refine go_q (Q := inb 0 (s_b σ 66 34 s1) 67 v1) (k' := 36) (L' := [some (.ref 66), some (.int v1), some (.int v2), some (.int x5)]) (S' := [.int (σ.1 67 v1.toNatClampNeg), .ref 66]) (σ' := (s_b σ 66 34 s1)) 6 (inb_mk rfl hc3.1 hc3.2) (fun n h => h) ?_
    obtain ⟨x6, hx6, h⟩ := bind_of h
    refine go_call (r := some (.int x6)) (σc := (s_b σ 66 34 s1)) (σ1 := (s_b σ 66 34 s1)) (mi := 147) (vs := [.long (σ.1 67 v1.toNatClampNeg).toInt64, .int v2]) (k' := 39) (L' := [some (.ref 66), some (.int v1), some (.int v2), some (.int x5)]) (S' := [.ref 66]) 3 (fun P9 h9 => c_M_mod (d + 0) (σ.1 67 v1.toNatClampNeg).toInt64 v2 (s_b σ 66 34 s1) hx6 h9) (fun n h => h) ?_
    obtain ⟨hc7, h⟩ := ite_of h
    refine go_q (Q := ¬ v2.toInt64 = 0) (k' := 46) (L' := [some (.ref 66), some (.int v1), some (.int v2), some (.int x5)]) (S' := [.long (lrem (x6.toInt64 * x5.toInt64) v2.toInt64), .ref 66]) (σ' := (s_b σ 66 34 s1)) 7 hc7 (fun n h => h) ?_
    obtain ⟨x8, hx8, h⟩ := bind_of h
    refine go_call (r := some (.int x8)) (σc := (s_b σ 66 34 s1)) (σ1 := (s_b σ 66 34 s1)) (mi := 147) (vs := [.long ((lrem (x6.toInt64 * x5.toInt64) v2.toInt64) * x5.toInt64), .int v2]) (k' := 51) (L' := [some (.ref 66), some (.int v1), some (.int v2), some (.int x5)]) (S' := [.ref 66]) 5 (fun P9 h9 => c_M_mod (d + 0) ((lrem (x6.toInt64 * x5.toInt64) v2.toInt64) * x5.toInt64) v2 (s_b σ 66 34 s1) hx8 h9) (fun n h => h) ?_
    refine go_q (Q := inb 1 (s_i (s_b σ 66 34 s1) 66 32 x8) 68 v1) (k' := 57) (L' := [some (.ref 66), some (.int v1), some (.int v2), some (.int x5)]) (S' := [.long (σ.2.1 68 v1.toNatClampNeg), .ref 66]) (σ' := (s_i (s_b σ 66 34 s1) 66 32 x8)) 6 (inb_mk rfl hc3.1 hc3.2) (fun n h => h) ?_
    obtain ⟨x9, hx9, h⟩ := bind_of h
    refine go_call (r := some (.int x9)) (σc := (s_i (s_b σ 66 34 s1) 66 32 x8)) (σ1 := (s_i (s_b σ 66 34 s1) 66 32 x8)) (mi := 147) (vs := [.long (σ.2.1 68 v1.toNatClampNeg), .int v2]) (k' := 59) (L' := [some (.ref 66), some (.int v1), some (.int v2), some (.int x5)]) (S' := [.ref 66]) 2 (fun P9 h9 => c_M_mod (d + 0) (σ.2.1 68 v1.toNatClampNeg) v2 (s_i (s_b σ 66 34 s1) 66 32 x8) hx9 h9) (fun n h => h) ?_
    refine go_q (Q := ¬ v2.toInt64 = 0) (k' := 66) (L' := [some (.ref 66), some (.int v1), some (.int v2), some (.int x5)]) (S' := [.long (lrem (x9.toInt64 * x5.toInt64) v2.toInt64), .ref 66]) (σ' := (s_i (s_b σ 66 34 s1) 66 32 x8)) 7 (hc7) (fun n h => h) ?_
    refine go_q (Q := ¬ v2.toInt64 = 0) (k' := 72) (L' := [some (.ref 66), some (.int v1), some (.int v2), some (.int x5)]) (S' := [.long (lrem ((lrem (x9.toInt64 * x5.toInt64) v2.toInt64) * x5.toInt64) v2.toInt64), .ref 66]) (σ' := (s_i (s_b σ 66 34 s1) 66 32 x8)) 6 (hc7) (fun n h => h) ?_
    obtain ⟨x10, hx10, h⟩ := bind_of h
    refine go_call (r := some (.int x10)) (σc := (s_i (s_b σ 66 34 s1) 66 32 x8)) (σ1 := (s_i (s_b σ 66 34 s1) 66 32 x8)) (mi := 147) (vs := [.long ((lrem ((lrem (x9.toInt64 * x5.toInt64) v2.toInt64) * x5.toInt64) v2.toInt64) * x5.toInt64), .int v2]) (k' := 77) (L' := [some (.ref 66), some (.int v1), some (.int v2), some (.int x5)]) (S' := [.ref 66]) 5 (fun P9 h9 => c_M_mod (d + 0) ((lrem ((lrem (x9.toInt64 * x5.toInt64) v2.toInt64) * x5.toInt64) v2.toInt64) * x5.toInt64) v2 (s_i (s_b σ 66 34 s1) 66 32 x8) hx10 h9) (fun n h => h) ?_
    cases h
    exact go_ret 2 (fun _ => hp)
  · rw [if_pos hc2] at h
    cases h
    exact go_ret 1 (fun _ => hp)
def f_M_starts_b11 (N : Nat) (v1 : Int32) (v2 : Int32) (σ : aSt) : Option aSt :=
  f_M_starts_b14 N v1 v2 true σ
set_option maxRecDepth 20000 in
set_option maxHeartbeats 4000000 in
theorem t_M_starts_b11 (d : Nat) {N : Nat} (d3 : Option Value) (v1 : Int32) (v2 : Int32) (σ : aSt) {P : Option Value → aSt → Prop} {x : aSt} (h : f_M_starts_b11 N v1 v2 σ = some x) (hp : P none x) : aGo (aCall MT (d + 1)) P mc_M_starts 11 [some (.ref 66), some (.int v1), some (.int v2), d3] [.ref 66] σ := by
  unfold f_M_starts_b11 at h
  refine go_st (k' := 14) (L' := [some (.ref 66), some (.int v1), some (.int v2), d3]) (S' := [.int (1 : Int32), .ref 66]) (σ' := σ) 2 (fun n h => h) ?_
  exact t_M_starts_b14 d _ v1 v2 true σ h hp
def f_M_starts (N : Nat) (p0 : Int32) (p1 : Int32) (σ : aSt) : Option aSt :=
  (if p0 = (1000 : Int32) then f_M_starts_b11 N p0 p1 σ else (if 0 ≤ p0 ∧ p0 < (120 : Int32) then (if ¬ p1 = 0 then (if (irem (σ.1 69 p0.toNatClampNeg) p1) ≠ 0 then f_M_starts_b14 N p0 p1 false σ else f_M_starts_b11 N p0 p1 σ) else none) else none))
set_option maxRecDepth 20000 in
set_option maxHeartbeats 4000000 in
theorem c_M_starts (d : Nat) {N : Nat} (p0 : Int32) (p1 : Int32) (σ : aSt) {P : Option Value → aSt → Prop} {x : aSt} (h : f_M_starts N p0 p1 σ = some x) (hp : P none x) : aCall MT (d + 2) 156 [.ref 66, .int p0, .int p1] σ P := by
  unfold f_M_starts at h
  refine call_of (code := mc_M_starts) (L := [some (.ref 66), some (.int p0), some (.int p1), none]) rfl rfl rfl rfl ?_
  refine go_if (c := p0 = (1000 : Int32)) (k1 := 11) (L1 := [some (.ref 66), some (.int p0), some (.int p1), none]) (S1 := [.ref 66]) (σ1 := σ) (k2 := 4) (L2 := [some (.ref 66), some (.int p0), some (.int p1), none]) (S2 := [.ref 66]) (σ2 := σ) 4 (fun n h => h) (fun hc1 => ?_) (fun hc1 => ?_)
  · rw [if_pos hc1] at h
    exact t_M_starts_b11 d _ p0 p1 σ h hp
  · rw [if_neg hc1] at h
    obtain ⟨hc11, h⟩ := ite_of h
    refine go_q (Q := inb 0 σ 69 p0) (k' := 8) (L' := [some (.ref 66), some (.int p0), some (.int p1), none]) (S' := [.int (σ.1 69 p0.toNatClampNeg), .ref 66]) (σ' := σ) 4 (inb_mk rfl hc11.1 hc11.2) (fun n h => h) ?_
    obtain ⟨hc12, h⟩ := ite_of h
    refine go_q (Q := ¬ p1 = 0) (k' := 10) (L' := [some (.ref 66), some (.int p0), some (.int p1), none]) (S' := [.int (irem (σ.1 69 p0.toNatClampNeg) p1), .ref 66]) (σ' := σ) 2 hc12 (fun n h => h) ?_
    refine go_if (c := (irem (σ.1 69 p0.toNatClampNeg) p1) ≠ 0) (k1 := 13) (L1 := [some (.ref 66), some (.int p0), some (.int p1), none]) (S1 := [.ref 66]) (σ1 := σ) (k2 := 11) (L2 := [some (.ref 66), some (.int p0), some (.int p1), none]) (S2 := [.ref 66]) (σ2 := σ) 1 (fun n h => h) (fun hc13 => ?_) (fun hc13 => ?_)
    · rw [if_pos hc13] at h
      refine go_st (k' := 14) (L' := [some (.ref 66), some (.int p0), some (.int p1), none]) (S' := [.int (0 : Int32), .ref 66]) (σ' := σ) 1 (fun n h => h) ?_
      exact t_M_starts_b14 d _ p0 p1 false σ h hp
    · rw [if_neg hc13] at h
      exact t_M_starts_b11 d _ p0 p1 σ h hp
def f_M_addsBy_b82 (N : Nat) (v1 : Int32) (v3 : Int32) (v5 : Int32) (s0 : Int32) (σ : aSt) : Option aSt :=
  ((f_M_power N s0 (v3 - (2 : Int32)) v3).bind fun x8 => (if ¬ v3 = 0 then ((f_M_mod N (((((irem (v5 * x8) v3).toInt64 * (irem (v5 * x8) v3).toInt64) - (σ.1 66 2).toInt64) - (σ.1 66 29).toInt64) - v1.toInt64) v3).bind fun x10 => ((f_M_mod N (((irem (v5 * x8) v3).toInt64 * ((σ.1 66 29) - x10).toInt64) - (σ.1 66 30).toInt64) v3).bind fun x11 => some (s_i (s_i σ 66 30 x11) 66 29 x10))) else none))
set_option maxRecDepth 20000 in
set_option maxHeartbeats 4000000 in
theorem t_M_addsBy_b82 (d : Nat) {N : Nat} (d2 d4 d6 d7 d8 : Option Value) (v1 : Int32) (v3 : Int32) (v5 : Int32) (s0 : Int32) (σ : aSt) {P : Option Value → aSt → Prop} {x : aSt} (h : f_M_addsBy_b82 N v1 v3 v5 s0 σ = some x) (hp : P none x) : aGo (aCall MT (d + 1)) P mc_M_addsBy 82 [some (.ref 66), some (.int v1), d2, some (.int v3), d4, some (.int v5), d6, d7, d8] [.int s0] σ := by
  unfold f_M_addsBy_b82 at h
  obtain ⟨x8, hx8, h⟩ := bind_of h
  refine go_call (r := some (.int x8)) (σc := σ) (σ1 := σ) (mi := 155) (vs := [.int s0, .int (v3 - (2 : Int32)), .int v3]) (k' := 90) (L' := [some (.ref 66), some (.int v1), d2, some (.int v3), d4, some (.int v5), some (.int s0), d7, d8]) (S' := [.int v5]) 8 (fun P9 h9 => c_M_power (d + 0) s0 (v3 - (2 : Int32)) v3 σ hx8 h9) (fun n h => h) ?_
  obtain ⟨hc9, h⟩ := ite_of h
  refine go_q (Q := ¬ v3 = 0) (k' := 93) (L' := [some (.ref 66), some (.int v1), d2, some (.int v3), d4, some (.int v5), some (.int s0), d7, d8]) (S' := [.int (irem (v5 * x8) v3)]) (σ' := σ) 3 hc9 (fun n h => h) ?_
  obtain ⟨x10, hx10, h⟩ := bind_of h
  refine go_call (r := some (.int x10)) (σc := σ) (σ1 := σ) (mi := 147) (vs := [.long (((((irem (v5 * x8) v3).toInt64 * (irem (v5 * x8) v3).toInt64) - (σ.1 66 2).toInt64) - (σ.1 66 29).toInt64) - v1.toInt64), .int v3]) (k' := 112) (L' := [some (.ref 66), some (.int v1), d2, some (.int v3), d4, some (.int v5), none, some (.int (irem (v5 * x8) v3)), d8]) (S' := []) 19 (fun P9 h9 => c_M_mod (d + 0) (((((irem (v5 * x8) v3).toInt64 * (irem (v5 * x8) v3).toInt64) - (σ.1 66 2).toInt64) - (σ.1 66 29).toInt64) - v1.toInt64) v3 σ hx10 h9) (fun n h => h) ?_
  obtain ⟨x11, hx11, h⟩ := bind_of h
  refine go_call (r := some (.int x11)) (σc := σ) (σ1 := σ) (mi := 147) (vs := [.long (((irem (v5 * x8) v3).toInt64 * ((σ.1 66 29) - x10).toInt64) - (σ.1 66 30).toInt64), .int v3]) (k' := 128) (L' := [some (.ref 66), some (.int v1), d2, some (.int v3), d4, some (.int v5), none, some (.int (irem (v5 * x8) v3)), some (.int x10)]) (S' := [.ref 66]) 16 (fun P9 h9 => c_M_mod (d + 0) (((irem (v5 * x8) v3).toInt64 * ((σ.1 66 29) - x10).toInt64) - (σ.1 66 30).toInt64) v3 σ hx11 h9) (fun n h => h) ?_
  cases h
  exact go_ret 5 (fun _ => hp)
def f_M_addsBy_b66 (N : Nat) (v1 : Int32) (v2 : Int32) (v3 : Int32) (v4 : Int32) (s0 : Int32) (σ : aSt) : Option aSt :=
  (if v4 = 0 then ((f_M_mod N (v1 - (σ.1 66 29)).toInt64 v3).bind fun x7 => f_M_addsBy_b82 N v1 v3 s0 x7 σ) else (if ¬ v3 = 0 then f_M_addsBy_b82 N v1 v3 s0 (irem ((2 : Int32) * v2) v3) σ else none))
set_option maxRecDepth 20000 in
set_option maxHeartbeats 4000000 in
theorem t_M_addsBy_b66 (d : Nat) {N : Nat} (d5 d6 d7 d8 : Option Value) (v1 : Int32) (v2 : Int32) (v3 : Int32) (v4 : Int32) (s0 : Int32) (σ : aSt) {P : Option Value → aSt → Prop} {x : aSt} (h : f_M_addsBy_b66 N v1 v2 v3 v4 s0 σ = some x) (hp : P none x) : aGo (aCall MT (d + 1)) P mc_M_addsBy 66 [some (.ref 66), some (.int v1), some (.int v2), some (.int v3), some (.int v4), d5, d6, d7, d8] [.int s0] σ := by
  unfold f_M_addsBy_b66 at h
  refine go_if (c := v4 = 0) (k1 := 75) (L1 := [some (.ref 66), some (.int v1), some (.int v2), some (.int v3), some (.int v4), some (.int s0), d6, d7, d8]) (S1 := []) (σ1 := σ) (k2 := 69) (L2 := [some (.ref 66), some (.int v1), some (.int v2), some (.int v3), some (.int v4), some (.int s0), d6, d7, d8]) (S2 := []) (σ2 := σ) 3 (fun n h => h) (fun hc6 => ?_) (fun hc6 => ?_)
  · rw [if_pos hc6] at h
    obtain ⟨x7, hx7, h⟩ := bind_of h
    refine go_call (r := some (.int x7)) (σc := σ) (σ1 := σ) (mi := 147) (vs := [.long (v1 - (σ.1 66 29)).toInt64, .int v3]) (k' := 82) (L' := [some (.ref 66), some (.int v1), some (.int v2), some (.int v3), some (.int v4), some (.int s0), d6, d7, d8]) (S' := []) 7 (fun P9 h9 => c_M_mod (d + 0) (v1 - (σ.1 66 29)).toInt64 v3 σ hx7 h9) (fun n h => h) ?_
    exact t_M_addsBy_b82 d _ _ _ _ _ v1 v3 s0 x7 σ h hp
  · rw [if_neg hc6] at h
    obtain ⟨hc12, h⟩ := ite_of h
    refine go_q (Q := ¬ v3 = 0) (k' := 74) (L' := [some (.ref 66), some (.int v1), some (.int v2), some (.int v3), some (.int v4), some (.int s0), d6, d7, d8]) (S' := [.int (irem ((2 : Int32) * v2) v3)]) (σ' := σ) 5 hc12 (fun n h => h) ?_
    refine go_st (k' := 82) (L' := [some (.ref 66), some (.int v1), some (.int v2), some (.int v3), some (.int v4), some (.int s0), d6, d7, d8]) (S' := [.int (irem ((2 : Int32) * v2) v3)]) (σ' := σ) 1 (fun n h => h) ?_
    exact t_M_addsBy_b82 d _ _ _ _ _ v1 v3 s0 (irem ((2 : Int32) * v2) v3) σ h hp
def f_M_addsBy_b34 (N : Nat) (v1 : Int32) (v2 : Int32) (v3 : Int32) (v4 : Int32) (σ : aSt) : Option aSt :=
  (if v4 = 0 then ((f_M_mod N (v2 - (σ.1 66 30)).toInt64 v3).bind fun x5 => f_M_addsBy_b66 N v1 v2 v3 v4 x5 σ) else ((f_M_mod N (((((3 : Int64) * v1.toInt64) * v1.toInt64) + (((2 : Int64) * (σ.1 66 2).toInt64) * v1.toInt64)) + (σ.1 66 3).toInt64) v3).bind fun x13 => f_M_addsBy_b66 N v1 v2 v3 v4 x13 σ))
set_option maxRecDepth 20000 in
set_option maxHeartbeats 4000000 in
theorem t_M_addsBy_b34 (d : Nat) {N : Nat} (d5 d6 d7 d8 : Option Value) (v1 : Int32) (v2 : Int32) (v3 : Int32) (v4 : Int32) (σ : aSt) {P : Option Value → aSt → Prop} {x : aSt} (h : f_M_addsBy_b34 N v1 v2 v3 v4 σ = some x) (hp : P none x) : aGo (aCall MT (d + 1)) P mc_M_addsBy 34 [some (.ref 66), some (.int v1), some (.int v2), some (.int v3), some (.int v4), d5, d6, d7, d8] [] σ := by
  unfold f_M_addsBy_b34 at h
  refine go_if (c := v4 = 0) (k1 := 59) (L1 := [some (.ref 66), some (.int v1), some (.int v2), some (.int v3), some (.int v4), d5, d6, d7, d8]) (S1 := []) (σ1 := σ) (k2 := 36) (L2 := [some (.ref 66), some (.int v1), some (.int v2), some (.int v3), some (.int v4), d5, d6, d7, d8]) (S2 := []) (σ2 := σ) 2 (fun n h => h) (fun hc4 => ?_) (fun hc4 => ?_)
  · rw [if_pos hc4] at h
    obtain ⟨x5, hx5, h⟩ := bind_of h
    refine go_call (r := some (.int x5)) (σc := σ) (σ1 := σ) (mi := 147) (vs := [.long (v2 - (σ.1 66 30)).toInt64, .int v3]) (k' := 66) (L' := [some (.ref 66), some (.int v1), some (.int v2), some (.int v3), some (.int v4), d5, d6, d7, d8]) (S' := []) 7 (fun P9 h9 => c_M_mod (d + 0) (v2 - (σ.1 66 30)).toInt64 v3 σ hx5 h9) (fun n h => h) ?_
    exact t_M_addsBy_b66 d _ _ _ _ v1 v2 v3 v4 x5 σ h hp
  · rw [if_neg hc4] at h
    obtain ⟨x13, hx13, h⟩ := bind_of h
    refine go_call (r := some (.int x13)) (σc := σ) (σ1 := σ) (mi := 147) (vs := [.long (((((3 : Int64) * v1.toInt64) * v1.toInt64) + (((2 : Int64) * (σ.1 66 2).toInt64) * v1.toInt64)) + (σ.1 66 3).toInt64), .int v3]) (k' := 58) (L' := [some (.ref 66), some (.int v1), some (.int v2), some (.int v3), some (.int v4), d5, d6, d7, d8]) (S' := []) 22 (fun P9 h9 => c_M_mod (d + 0) (((((3 : Int64) * v1.toInt64) * v1.toInt64) + (((2 : Int64) * (σ.1 66 2).toInt64) * v1.toInt64)) + (σ.1 66 3).toInt64) v3 σ hx13 h9) (fun n h => h) ?_
    refine go_st (k' := 66) (L' := [some (.ref 66), some (.int v1), some (.int v2), some (.int v3), some (.int v4), d5, d6, d7, d8]) (S' := [.int x13]) (σ' := σ) 1 (fun n h => h) ?_
    exact t_M_addsBy_b66 d _ _ _ _ v1 v2 v3 v4 x13 σ h hp
def f_M_addsBy_b20 (N : Nat) (v1 : Int32) (v2 : Int32) (v3 : Int32) (s0 : Int32) (σ : aSt) : Option aSt :=
  (if s0 = 0 then f_M_addsBy_b34 N v1 v2 v3 s0 σ else (if ¬ v3 = 0 then (if (irem ((σ.1 66 30) + v2) v3) ≠ 0 then f_M_addsBy_b34 N v1 v2 v3 s0 σ else some (s_b σ 66 31 true)) else none))
set_option maxRecDepth 20000 in
set_option maxHeartbeats 4000000 in
theorem t_M_addsBy_b20 (d : Nat) {N : Nat} (d4 d5 d6 d7 d8 : Option Value) (v1 : Int32) (v2 : Int32) (v3 : Int32) (s0 : Int32) (σ : aSt) {P : Option Value → aSt → Prop} {x : aSt} (h : f_M_addsBy_b20 N v1 v2 v3 s0 σ = some x) (hp : P none x) : aGo (aCall MT (d + 1)) P mc_M_addsBy 20 [some (.ref 66), some (.int v1), some (.int v2), some (.int v3), d4, d5, d6, d7, d8] [.int s0] σ := by
  unfold f_M_addsBy_b20 at h
  refine go_if (c := s0 = 0) (k1 := 34) (L1 := [some (.ref 66), some (.int v1), some (.int v2), some (.int v3), some (.int s0), d5, d6, d7, d8]) (S1 := []) (σ1 := σ) (k2 := 23) (L2 := [some (.ref 66), some (.int v1), some (.int v2), some (.int v3), some (.int s0), d5, d6, d7, d8]) (S2 := []) (σ2 := σ) 3 (fun n h => h) (fun hc3 => ?_) (fun hc3 => ?_)
  · rw [if_pos hc3] at h
    exact t_M_addsBy_b34 d _ _ _ _ v1 v2 v3 s0 σ h hp
  · rw [if_neg hc3] at h
    obtain ⟨hc14, h⟩ := ite_of h
    refine go_q (Q := ¬ v3 = 0) (k' := 29) (L' := [some (.ref 66), some (.int v1), some (.int v2), some (.int v3), some (.int s0), d5, d6, d7, d8]) (S' := [.int (irem ((σ.1 66 30) + v2) v3)]) (σ' := σ) 6 hc14 (fun n h => h) ?_
    refine go_if (c := (irem ((σ.1 66 30) + v2) v3) ≠ 0) (k1 := 34) (L1 := [some (.ref 66), some (.int v1), some (.int v2), some (.int v3), some (.int s0), d5, d6, d7, d8]) (S1 := []) (σ1 := σ) (k2 := 30) (L2 := [some (.ref 66), some (.int v1), some (.int v2), some (.int v3), some (.int s0), d5, d6, d7, d8]) (S2 := []) (σ2 := σ) 1 (fun n h => h) (fun hc15 => ?_) (fun hc15 => ?_)
    · rw [if_pos hc15] at h
      exact t_M_addsBy_b34 d _ _ _ _ v1 v2 v3 s0 σ h hp
    · rw [if_neg hc15] at h
      refine go_q (Q := (1 : Int32) = 0 ∨ (1 : Int32) = 1) (k' := 33) (L' := [some (.ref 66), some (.int v1), some (.int v2), some (.int v3), some (.int s0), d5, d6, d7, d8]) (S' := []) (σ' := (s_b σ 66 31 true)) 3 (Or.inr rfl) (fun n h => h) ?_
      cases h
      exact go_ret 1 (fun _ => hp)
def f_M_addsBy (N : Nat) (p0 : Int32) (p1 : Int32) (p2 : Int32) (σ : aSt) : Option aSt :=
  (if (σ.2.2 66 31) = true then some (s_i (s_i (s_b σ 66 31 false) 66 29 p0) 66 30 p1) else (if (σ.1 66 29) ≠ p0 then f_M_addsBy_b20 N p0 p1 p2 (0 : Int32) σ else f_M_addsBy_b20 N p0 p1 p2 (1 : Int32) σ))
set_option maxRecDepth 20000 in
set_option maxHeartbeats 4000000 in
theorem c_M_addsBy (d : Nat) {N : Nat} (p0 : Int32) (p1 : Int32) (p2 : Int32) (σ : aSt) {P : Option Value → aSt → Prop} {x : aSt} (h : f_M_addsBy N p0 p1 p2 σ = some x) (hp : P none x) : aCall MT (d + 2) 157 [.ref 66, .int p0, .int p1, .int p2] σ P := by
  unfold f_M_addsBy at h
  refine call_of (code := mc_M_addsBy) (L := [some (.ref 66), some (.int p0), some (.int p1), some (.int p2), none, none, none, none, none]) rfl rfl rfl rfl ?_
  refine go_ifz (b := (σ.2.2 66 31)) (k1 := 13) (L1 := [some (.ref 66), some (.int p0), some (.int p1), some (.int p2), none, none, none, none, none]) (S1 := []) (σ1 := σ) (k2 := 3) (L2 := [some (.ref 66), some (.int p0), some (.int p1), some (.int p2), none, none, none, none, none]) (S2 := []) (σ2 := σ) 3 (fun n h => h) (fun hc1 => ?_) (fun hc1 => ?_)
  · rw [if_neg hc1] at h
    refine go_if (c := (σ.1 66 29) ≠ p0) (k1 := 19) (L1 := [some (.ref 66), some (.int p0), some (.int p1), some (.int p2), none, none, none, none, none]) (S1 := []) (σ1 := σ) (k2 := 17) (L2 := [some (.ref 66), some (.int p0), some (.int p1), some (.int p2), none, none, none, none, none]) (S2 := []) (σ2 := σ) 4 (fun n h => h) (fun hc2 => ?_) (fun hc2 => ?_)
    · rw [if_pos hc2] at h
      refine go_st (k' := 20) (L' := [some (.ref 66), some (.int p0), some (.int p1), some (.int p2), none, none, none, none, none]) (S' := [.int (0 : Int32)]) (σ' := σ) 1 (fun n h => h) ?_
      exact t_M_addsBy_b20 d _ _ _ _ _ p0 p1 p2 (0 : Int32) σ h hp
    · rw [if_neg hc2] at h
      refine go_st (k' := 20) (L' := [some (.ref 66), some (.int p0), some (.int p1), some (.int p2), none, none, none, none, none]) (S' := [.int (1 : Int32)]) (σ' := σ) 2 (fun n h => h) ?_
      exact t_M_addsBy_b20 d _ _ _ _ _ p0 p1 p2 (1 : Int32) σ h hp
  · rw [if_pos hc1] at h
    refine go_q (Q := (0 : Int32) = 0 ∨ (0 : Int32) = 1) (k' := 6) (L' := [some (.ref 66), some (.int p0), some (.int p1), some (.int p2), none, none, none, none, none]) (S' := []) (σ' := (s_b σ 66 31 false)) 3 (Or.inl rfl) (fun n h => h) ?_
    cases h
    exact go_ret 7 (fun _ => hp)
def f_M_orderFrom_l5 (N : Nat) : Nat → Int32 → Int32 → Int32 → Int32 → aSt → Option (Int32 × aSt)
  | 0, _, _, _, _, _ => none
  | n + 1, v1, v2, v3, v4, σ => ((f_M_addsBy N v1 v2 v3 σ).bind fun x1 => (if (x1.2.2 66 31) = true then some ((v4 + (1 : Int32)), x1) else f_M_orderFrom_l5 N n v1 v2 v3 (v4 + (1 : Int32)) x1))
set_option maxRecDepth 20000 in
set_option maxHeartbeats 4000000 in
theorem t_M_orderFrom_l5 (d : Nat) {N : Nat} {x : (Int32 × aSt)} {P : Option Value → aSt → Prop} (hp : P (some (.int x.1)) x.2) : ∀ (n : Nat) (v1 : Int32) (v2 : Int32) (v3 : Int32) (v4 : Int32) (σ : aSt), f_M_orderFrom_l5 N n v1 v2 v3 v4 σ = some x → aGo (aCall MT (d + 2)) P mc_M_orderFrom 5 [some (.ref 66), some (.int v1), some (.int v2), some (.int v3), some (.int v4)] [] σ := by
  intro n
  induction n with
  | zero => intro v1 v2 v3 v4 σ h; cases h
  | succ n ih =>
    intro v1 v2 v3 v4 σ h
    rw [f_M_orderFrom_l5] at h
    obtain ⟨x1, hx1, h⟩ := bind_of h
    refine go_call (r := none) (σc := σ) (σ1 := x1) (mi := 157) (vs := [.ref 66, .int v1, .int v2, .int v3]) (k' := 10) (L' := [some (.ref 66), some (.int v1), some (.int v2), some (.int v3), some (.int v4)]) (S' := []) 5 (fun P9 h9 => c_M_addsBy (d + 0) v1 v2 v3 σ hx1 h9) (fun n h => h) ?_
    refine go_ifz (b := (x1.2.2 66 31)) (k1 := 5) (L1 := [some (.ref 66), some (.int v1), some (.int v2), some (.int v3), some (.int (v4 + (1 : Int32)))]) (S1 := []) (σ1 := x1) (k2 := 14) (L2 := [some (.ref 66), some (.int v1), some (.int v2), some (.int v3), some (.int (v4 + (1 : Int32)))]) (S2 := []) (σ2 := x1) 4 (fun n h => h) (fun hc2 => ?_) (fun hc2 => ?_)
    · rw [if_neg hc2] at h
      exact ih v1 v2 v3 (v4 + (1 : Int32)) x1 h
    · rw [if_pos hc2] at h
      cases h
      exact go_ret 2 (fun _ => hp)
def f_M_orderFrom (N : Nat) (p0 : Int32) (p1 : Int32) (p2 : Int32) (σ : aSt) : Option (Int32 × aSt) :=
  f_M_orderFrom_l5 N N p0 p1 p2 (0 : Int32) (s_b σ 66 31 true)
set_option maxRecDepth 20000 in
set_option maxHeartbeats 4000000 in
theorem c_M_orderFrom (d : Nat) {N : Nat} (p0 : Int32) (p1 : Int32) (p2 : Int32) (σ : aSt) {P : Option Value → aSt → Prop} {x : (Int32 × aSt)} (h : f_M_orderFrom N p0 p1 p2 σ = some x) (hp : P (some (.int x.1)) x.2) : aCall MT (d + 3) 158 [.ref 66, .int p0, .int p1, .int p2] σ P := by
  unfold f_M_orderFrom at h
  refine call_of (code := mc_M_orderFrom) (L := [some (.ref 66), some (.int p0), some (.int p1), some (.int p2), none]) rfl rfl rfl rfl ?_
  refine go_q (Q := (1 : Int32) = 0 ∨ (1 : Int32) = 1) (k' := 3) (L' := [some (.ref 66), some (.int p0), some (.int p1), some (.int p2), none]) (S' := []) (σ' := (s_b σ 66 31 true)) 3 (Or.inr rfl) (fun n h => h) ?_
  refine go_st (k' := 5) (L' := [some (.ref 66), some (.int p0), some (.int p1), some (.int p2), some (.int (0 : Int32))]) (S' := []) (σ' := (s_b σ 66 31 true)) 2 (fun n h => h) ?_
  exact t_M_orderFrom_l5 d hp N p0 p1 p2 (0 : Int32) (s_b σ 66 31 true) h
def f_M_orderBy (N : Nat) (p0 : Int32) (p1 : Int32) (σ : aSt) : Option (Int32 × aSt) :=
  (if (f_M_isPoint p0 σ) = true then ((f_M_isGoodPrime N p1 σ).bind fun x2 => (if x2 = true then ((f_M_starts N p0 p1 σ).bind fun x4 => (if (x4.2.2 66 34) = true then some ((1 : Int32), x4) else ((f_M_orderFrom N (x4.1 66 32) (x4.1 66 33) p1 x4).bind fun x6 => some (x6.1, x6.2)))) else some ((-2 : Int32), σ))) else some ((-2 : Int32), σ))
set_option maxRecDepth 20000 in
set_option maxHeartbeats 4000000 in
theorem c_M_orderBy (d : Nat) {N : Nat} (p0 : Int32) (p1 : Int32) (σ : aSt) {P : Option Value → aSt → Prop} {x : (Int32 × aSt)} (h : f_M_orderBy N p0 p1 σ = some x) (hp : P (some (.int x.1)) x.2) : aCall MT (d + 4) 159 [.ref 66, .int p0, .int p1] σ P := by
  unfold f_M_orderBy at h
  refine call_of (code := mc_M_orderBy) (L := [some (.ref 66), some (.int p0), some (.int p1)]) rfl rfl rfl rfl ?_
  refine go_call (r := some (.int (b2i (f_M_isPoint p0 σ)))) (σc := σ) (σ1 := σ) (mi := 90) (vs := [.ref 66, .int p0]) (k' := 3) (L' := [some (.ref 66), some (.int p0), some (.int p1)]) (S' := []) 3 (fun P9 h9 => c_M_isPoint (d + 0) p0 σ h9) (fun n h => h) ?_
  refine go_ifz (b := (f_M_isPoint p0 σ)) (k1 := 8) (L1 := [some (.ref 66), some (.int p0), some (.int p1)]) (S1 := []) (σ1 := σ) (k2 := 4) (L2 := [some (.ref 66), some (.int p0), some (.int p1)]) (S2 := []) (σ2 := σ) 1 (fun n h => h) (fun hc1 => ?_) (fun hc1 => ?_)
  · rw [if_neg hc1] at h
    cases h
    exact go_ret 2 (fun _ => hp)
  · rw [if_pos hc1] at h
    obtain ⟨x2, hx2, h⟩ := bind_of h
    refine go_call (r := some (.int (b2i x2))) (σc := σ) (σ1 := σ) (mi := 146) (vs := [.ref 66, .int p1]) (k' := 7) (L' := [some (.ref 66), some (.int p0), some (.int p1)]) (S' := []) 3 (fun P9 h9 => c_M_isGoodPrime (d + 1) p1 σ hx2 h9) (fun n h => h) ?_
    refine go_ifn (b := x2) (k1 := 10) (L1 := [some (.ref 66), some (.int p0), some (.int p1)]) (S1 := []) (σ1 := σ) (k2 := 8) (L2 := [some (.ref 66), some (.int p0), some (.int p1)]) (S2 := []) (σ2 := σ) 1 (fun n h => h) (fun hc3 => ?_) (fun hc3 => ?_)
    · rw [if_pos hc3] at h
      obtain ⟨x4, hx4, h⟩ := bind_of h
      refine go_call (r := none) (σc := σ) (σ1 := x4) (mi := 156) (vs := [.ref 66, .int p0, .int p1]) (k' := 14) (L' := [some (.ref 66), some (.int p0), some (.int p1)]) (S' := []) 4 (fun P9 h9 => c_M_starts (d + 1) p0 p1 σ hx4 h9) (fun n h => h) ?_
      refine go_ifz (b := (x4.2.2 66 34)) (k1 := 19) (L1 := [some (.ref 66), some (.int p0), some (.int p1)]) (S1 := []) (σ1 := x4) (k2 := 17) (L2 := [some (.ref 66), some (.int p0), some (.int p1)]) (S2 := []) (σ2 := x4) 3 (fun n h => h) (fun hc5 => ?_) (fun hc5 => ?_)
      · rw [if_neg hc5] at h
        obtain ⟨x6, hx6, h⟩ := bind_of h
        refine go_call (r := some (.int x6.1)) (σc := x4) (σ1 := x6.2) (mi := 158) (vs := [.ref 66, .int (x4.1 66 32), .int (x4.1 66 33), .int p1]) (k' := 26) (L' := [some (.ref 66), some (.int p0), some (.int p1)]) (S' := []) 7 (fun P9 h9 => c_M_orderFrom (d + 0) (x4.1 66 32) (x4.1 66 33) p1 x4 hx6 h9) (fun n h => h) ?_
        cases h
        exact go_ret 1 (fun _ => hp)
      · rw [if_pos hc5] at h
        cases h
        exact go_ret 3 (fun _ => hp)
    · rw [if_neg hc3] at h
      cases h
      exact go_ret 2 (fun _ => hp)
def f_M_bound_l9 (N : Nat) (σ : aSt) : Nat → Int32 → Int32 → Option Int32
  | 0, _, _ => none
  | n + 1, v1, v2 => (if (97 : Int32) < v2 then some v1 else ((f_M_isGoodPrime N v2 σ).bind fun x3 => (if x3 = true then ((f_M_manyOf N v2 σ).bind fun x5 => ((f_M_common N v1.toInt64 x5.toInt64).bind fun x6 => f_M_bound_l9 N σ n x6.toInt32 (v2 + (1 : Int32)))) else f_M_bound_l9 N σ n v1 (v2 + (1 : Int32)))))
set_option maxRecDepth 20000 in
set_option maxHeartbeats 4000000 in
theorem t_M_bound_l9 (d : Nat) {N : Nat} (σ : aSt) {x : Int32} {P : Option Value → aSt → Prop} (hp : P (some (.int x)) σ) : ∀ (n : Nat) (v1 : Int32) (v2 : Int32), f_M_bound_l9 N σ n v1 v2 = some x → aGo (aCall MT (d + 2)) P mc_M_bound 9 [some (.ref 66), some (.int v1), some (.int v2)] [] σ := by
  intro n
  induction n with
  | zero => intro v1 v2 h; cases h
  | succ n ih =>
    intro v1 v2 h
    rw [f_M_bound_l9] at h
    refine go_if (c := (97 : Int32) < v2) (k1 := 27) (L1 := [some (.ref 66), some (.int v1), some (.int v2)]) (S1 := []) (σ1 := σ) (k2 := 12) (L2 := [some (.ref 66), some (.int v1), some (.int v2)]) (S2 := []) (σ2 := σ) 3 (fun n h => h) (fun hc2 => ?_) (fun hc2 => ?_)
    · rw [if_pos hc2] at h
      cases h
      exact go_ret 2 (fun _ => hp)
    · rw [if_neg hc2] at h
      obtain ⟨x3, hx3, h⟩ := bind_of h
      refine go_call (r := some (.int (b2i x3))) (σc := σ) (σ1 := σ) (mi := 146) (vs := [.ref 66, .int v2]) (k' := 15) (L' := [some (.ref 66), some (.int v1), some (.int v2)]) (S' := []) 3 (fun P9 h9 => c_M_isGoodPrime (d + 0) v2 σ hx3 h9) (fun n h => h) ?_
      refine go_ifz (b := x3) (k1 := 25) (L1 := [some (.ref 66), some (.int v1), some (.int v2)]) (S1 := []) (σ1 := σ) (k2 := 16) (L2 := [some (.ref 66), some (.int v1), some (.int v2)]) (S2 := []) (σ2 := σ) 1 (fun n h => h) (fun hc4 => ?_) (fun hc4 => ?_)
      · rw [if_neg hc4] at h
        refine go_st (k' := 9) (L' := [some (.ref 66), some (.int v1), some (.int (v2 + (1 : Int32)))]) (S' := []) (σ' := σ) 2 (fun n h => h) ?_
        exact ih v1 (v2 + (1 : Int32)) h
      · rw [if_pos hc4] at h
        obtain ⟨x5, hx5, h⟩ := bind_of h
        refine go_call (r := some (.int x5)) (σc := σ) (σ1 := σ) (mi := 148) (vs := [.ref 66, .int v2]) (k' := 21) (L' := [some (.ref 66), some (.int v1), some (.int v2)]) (S' := [.long v1.toInt64]) 5 (fun P9 h9 => c_M_manyOf (d + 0) v2 σ hx5 h9) (fun n h => h) ?_
        obtain ⟨x6, hx6, h⟩ := bind_of h
        refine go_call (r := some (.long x6)) (σc := σ) (σ1 := σ) (mi := 57) (vs := [.long v1.toInt64, .long x5.toInt64]) (k' := 23) (L' := [some (.ref 66), some (.int v1), some (.int v2)]) (S' := []) 2 (fun P9 h9 => c_M_common (d + 1) v1.toInt64 x5.toInt64 σ hx6 h9) (fun n h => h) ?_
        refine go_st (k' := 9) (L' := [some (.ref 66), some (.int x6.toInt32), some (.int (v2 + (1 : Int32)))]) (S' := []) (σ' := σ) 4 (fun n h => h) ?_
        exact ih x6.toInt32 (v2 + (1 : Int32)) h
def f_M_bound (N : Nat) (σ : aSt) : Option Int32 :=
  (if (σ.2.2 66 1) = true then f_M_bound_l9 N σ N (0 : Int32) (3 : Int32) else some (-2 : Int32))
set_option maxRecDepth 20000 in
set_option maxHeartbeats 4000000 in
theorem c_M_bound (d : Nat) {N : Nat} (σ : aSt) {P : Option Value → aSt → Prop} {x : Int32} (h : f_M_bound N σ = some x) (hp : P (some (.int x)) σ) : aCall MT (d + 3) 161 [.ref 66] σ P := by
  unfold f_M_bound at h
  refine call_of (code := mc_M_bound) (L := [some (.ref 66), none, none]) rfl rfl rfl rfl ?_
  refine go_ifn (b := (σ.2.2 66 1)) (k1 := 5) (L1 := [some (.ref 66), none, none]) (S1 := []) (σ1 := σ) (k2 := 3) (L2 := [some (.ref 66), none, none]) (S2 := []) (σ2 := σ) 3 (fun n h => h) (fun hc1 => ?_) (fun hc1 => ?_)
  · rw [if_pos hc1] at h
    refine go_st (k' := 9) (L' := [some (.ref 66), some (.int (0 : Int32)), some (.int (3 : Int32))]) (S' := []) (σ' := σ) 4 (fun n h => h) ?_
    exact t_M_bound_l9 d σ hp N (0 : Int32) (3 : Int32) h
  · rw [if_neg hc1] at h
    cases h
    exact go_ret 2 (fun _ => hp)
def f_M_trace (N : Nat) (p0 : Int32) (σ : aSt) : Option Int64 :=
  ((f_M_isGoodPrime N p0 σ).bind fun x1 => (if x1 = true then ((f_M_manyOf N p0 σ).bind fun x3 => some ((p0.toInt64 + (1 : Int64)) - x3.toInt64)) else some (-9223372036854775808 : Int64)))
set_option maxRecDepth 20000 in
set_option maxHeartbeats 4000000 in
theorem c_M_trace (d : Nat) {N : Nat} (p0 : Int32) (σ : aSt) {P : Option Value → aSt → Prop} {x : Int64} (h : f_M_trace N p0 σ = some x) (hp : P (some (.long x)) σ) : aCall MT (d + 3) 163 [.ref 66, .int p0] σ P := by
  unfold f_M_trace at h
  refine call_of (code := mc_M_trace) (L := [some (.ref 66), some (.int p0)]) rfl rfl rfl rfl ?_
  obtain ⟨x1, hx1, h⟩ := bind_of h
  refine go_call (r := some (.int (b2i x1))) (σc := σ) (σ1 := σ) (mi := 146) (vs := [.ref 66, .int p0]) (k' := 3) (L' := [some (.ref 66), some (.int p0)]) (S' := []) 3 (fun P9 h9 => c_M_isGoodPrime (d + 0) p0 σ hx1 h9) (fun n h => h) ?_
  refine go_ifz (b := x1) (k1 := 14) (L1 := [some (.ref 66), some (.int p0)]) (S1 := []) (σ1 := σ) (k2 := 4) (L2 := [some (.ref 66), some (.int p0)]) (S2 := []) (σ2 := σ) 1 (fun n h => h) (fun hc2 => ?_) (fun hc2 => ?_)
  · rw [if_neg hc2] at h
    cases h
    exact go_ret 2 (fun _ => hp)
  · rw [if_pos hc2] at h
    obtain ⟨x3, hx3, h⟩ := bind_of h
    refine go_call (r := some (.int x3)) (σc := σ) (σ1 := σ) (mi := 148) (vs := [.ref 66, .int p0]) (k' := 11) (L' := [some (.ref 66), some (.int p0)]) (S' := [.long (p0.toInt64 + (1 : Int64))]) 7 (fun P9 h9 => c_M_manyOf (d + 0) p0 σ hx3 h9) (fun n h => h) ?_
    cases h
    exact go_ret 4 (fun _ => hp)
def f_M_productOf (N : Nat) (p0 : Int64) (p1 : Int64) : Option Int64 :=
  ((f_M_common N p0 p1).bind fun x1 => (if ¬ x1 = 0 then some ((p0 / x1) * (p1 / x1)) else none))
set_option maxRecDepth 20000 in
set_option maxHeartbeats 4000000 in
theorem c_M_productOf (d : Nat) {N : Nat} (p0 : Int64) (p1 : Int64) (σ : aSt) {P : Option Value → aSt → Prop} {x : Int64} (h : f_M_productOf N p0 p1 = some x) (hp : P (some (.long x)) σ) : aCall MT (d + 2) 187 [.long p0, .long p1] σ P := by
  unfold f_M_productOf at h
  refine call_of (code := mc_M_productOf) (L := [some (.long p0), none, some (.long p1), none, none, none]) rfl rfl rfl rfl ?_
  obtain ⟨x1, hx1, h⟩ := bind_of h
  refine go_call (r := some (.long x1)) (σc := σ) (σ1 := σ) (mi := 57) (vs := [.long p0, .long p1]) (k' := 3) (L' := [some (.long p0), none, some (.long p1), none, none, none]) (S' := []) 3 (fun P9 h9 => c_M_common (d + 0) p0 p1 σ hx1 h9) (fun n h => h) ?_
  obtain ⟨hc2, h⟩ := ite_of h
  refine go_q (Q := ¬ x1 = 0) (k' := 7) (L' := [some (.long p0), none, some (.long p1), none, some (.long x1), none]) (S' := [.long (p0 / x1)]) (σ' := σ) 4 hc2 (fun n h => h) ?_
  refine go_q (Q := ¬ x1 = 0) (k' := 10) (L' := [some (.long p0), none, some (.long p1), none, some (.long x1), none]) (S' := [.long (p1 / x1), .long (p0 / x1)]) (σ' := σ) 3 (hc2) (fun n h => h) ?_
  cases h
  exact go_ret 2 (fun _ => hp)
def f_M_classFor_l2 (N : Nat) (σ : aSt) : Nat → Int64 → Int32 → Option Int32
  | 0, _, _ => none
  | n + 1, v1, v3 => (if (σ.1 66 46) ≤ v3 then some (-1 : Int32) else (if 0 ≤ v3 ∧ v3 < (64 : Int32) then (if (σ.1 73 v3.toNatClampNeg).toInt64 ≠ v1 then f_M_classFor_l2 N σ n v1 (v3 + (1 : Int32)) else some v3) else none))
set_option maxRecDepth 20000 in
set_option maxHeartbeats 4000000 in
theorem t_M_classFor_l2 (d : Nat) {N : Nat} (σ : aSt) {x : Int32} {P : Option Value → aSt → Prop} (hp : P (some (.int x)) σ) : ∀ (n : Nat) (v1 : Int64) (v3 : Int32), f_M_classFor_l2 N σ n v1 v3 = some x → aGo (aCall MT (d + 0)) P mc_M_classFor 2 [some (.ref 66), some (.long v1), none, some (.int v3)] [] σ := by
  intro n
  induction n with
  | zero => intro v1 v3 h; cases h
  | succ n ih =>
    intro v1 v3 h
    rw [f_M_classFor_l2] at h
    refine go_if (c := (σ.1 66 46) ≤ v3) (k1 := 18) (L1 := [some (.ref 66), some (.long v1), none, some (.int v3)]) (S1 := []) (σ1 := σ) (k2 := 6) (L2 := [some (.ref 66), some (.long v1), none, some (.int v3)]) (S2 := []) (σ2 := σ) 4 (fun n h => h) (fun hc1 => ?_) (fun hc1 => ?_)
    · rw [if_pos hc1] at h
      cases h
      exact go_ret 2 (fun _ => hp)
    · rw [if_neg hc1] at h
      obtain ⟨hc2, h⟩ := ite_of h
      refine go_q (Q := inb 0 σ 73 v3) (k' := 10) (L' := [some (.ref 66), some (.long v1), none, some (.int v3)]) (S' := [.int (σ.1 73 v3.toNatClampNeg)]) (σ' := σ) 4 (inb_mk rfl hc2.1 hc2.2) (fun n h => h) ?_
      refine go_iff (lcmp_ne (σ.1 73 v3.toNatClampNeg).toInt64 v1) (k1 := 16) (L1 := [some (.ref 66), some (.long v1), none, some (.int v3)]) (S1 := []) (σ1 := σ) (k2 := 14) (L2 := [some (.ref 66), some (.long v1), none, some (.int v3)]) (S2 := []) (σ2 := σ) 4 (fun n h => h) (fun hc3 => ?_) (fun hc3 => ?_)
      · rw [if_pos hc3] at h
        refine go_st (k' := 2) (L' := [some (.ref 66), some (.long v1), none, some (.int (v3 + (1 : Int32)))]) (S' := []) (σ' := σ) 2 (fun n h => h) ?_
        exact ih v1 (v3 + (1 : Int32)) h
      · rw [if_neg hc3] at h
        cases h
        exact go_ret 2 (fun _ => hp)
def f_M_classFor (N : Nat) (p0 : Int64) (σ : aSt) : Option Int32 :=
  f_M_classFor_l2 N σ N p0 (0 : Int32)
set_option maxRecDepth 20000 in
set_option maxHeartbeats 4000000 in
theorem c_M_classFor (d : Nat) {N : Nat} (p0 : Int64) (σ : aSt) {P : Option Value → aSt → Prop} {x : Int32} (h : f_M_classFor N p0 σ = some x) (hp : P (some (.int x)) σ) : aCall MT (d + 1) 188 [.ref 66, .long p0] σ P := by
  unfold f_M_classFor at h
  refine call_of (code := mc_M_classFor) (L := [some (.ref 66), some (.long p0), none, none]) rfl rfl rfl rfl ?_
  refine go_st (k' := 2) (L' := [some (.ref 66), some (.long p0), none, some (.int (0 : Int32))]) (S' := []) (σ' := σ) 2 (fun n h => h) ?_
  exact t_M_classFor_l2 d σ hp N p0 (0 : Int32) h
def f_M_laysMade_l40 (N : Nat) (k87 : Int32 → Int32 → aSt → Option aSt) : Nat → Int32 → Int32 → Int32 → aSt → Option aSt
  | 0, _, _, _, _ => none
  | n + 1, v1, v2, v3, σ => (if (σ.1 66 46) ≤ v3 then k87 v1 v2 σ else (if 0 ≤ v2 ∧ v2 < (64 : Int32) then (if (σ.2.2 78 v2.toNatClampNeg) = true then (if 0 ≤ v3 ∧ v3 < (64 : Int32) then (if (σ.2.2 78 v3.toNatClampNeg) = true then ((f_M_productOf N (σ.1 73 v2.toNatClampNeg).toInt64 (σ.1 73 v3.toNatClampNeg).toInt64).bind fun x9 => ((f_M_classFor N x9 σ).bind fun x10 => (if x10 = (-1 : Int32) then f_M_laysMade_l40 N k87 n v1 v2 (v3 + (1 : Int32)) σ else (if 0 ≤ x10 ∧ x10 < (64 : Int32) then (if (σ.2.2 78 x10.toNatClampNeg) = true then f_M_laysMade_l40 N k87 n v1 v2 (v3 + (1 : Int32)) σ else f_M_laysMade_l40 N k87 n (1 : Int32) v2 (v3 + (1 : Int32)) (s_b σ 78 x10.toNatClampNeg true)) else none)))) else f_M_laysMade_l40 N k87 n v1 v2 (v3 + (1 : Int32)) σ) else none) else f_M_laysMade_l40 N k87 n v1 v2 (v3 + (1 : Int32)) σ) else none))
set_option maxRecDepth 20000 in
set_option maxHeartbeats 4000000 in
theorem t_M_laysMade_l40 (d : Nat) {N : Nat} (k87 : Int32 → Int32 → aSt → Option aSt) {x : aSt} {P : Option Value → aSt → Prop} (hp : P none x) (hk87 : ∀ (d3 d4 : Option Value) (v1 : Int32) (v2 : Int32) (σ : aSt), k87 v1 v2 σ = some x → aGo (aCall MT (d + 2)) P mc_M_laysMade 87 [some (.ref 66), some (.int v1), some (.int v2), d3, d4] [] σ) : ∀ (n : Nat) (d4 : Option Value) (v1 : Int32) (v2 : Int32) (v3 : Int32) (σ : aSt), f_M_laysMade_l40 N k87 n v1 v2 v3 σ = some x → aGo (aCall MT (d + 2)) P mc_M_laysMade 40 [some (.ref 66), some (.int v1), some (.int v2), some (.int v3), d4] [] σ := by
  intro n
  induction n with
  | zero => intro d4 v1 v2 v3 σ h; cases h
  | succ n ih =>
    intro d4 v1 v2 v3 σ h
    rw [f_M_laysMade_l40] at h
    refine go_if (c := (σ.1 66 46) ≤ v3) (k1 := 87) (L1 := [some (.ref 66), some (.int v1), some (.int v2), some (.int v3), d4]) (S1 := []) (σ1 := σ) (k2 := 44) (L2 := [some (.ref 66), some (.int v1), some (.int v2), some (.int v3), d4]) (S2 := []) (σ2 := σ) 4 (fun n h => h) (fun hc4 => ?_) (fun hc4 => ?_)
    · rw [if_pos hc4] at h
      exact hk87 _ _ v1 v2 σ h
    · rw [if_neg hc4] at h
      obtain ⟨hc5, h⟩ := ite_of h
      refine go_q (Q := inb 3 σ 78 v2) (k' := 48) (L' := [some (.ref 66), some (.int v1), some (.int v2), some (.int v3), d4]) (S' := [.int (b2i (σ.2.2 78 v2.toNatClampNeg))]) (σ' := σ) 4 (inb_mk rfl hc5.1 hc5.2) (fun n h => h) ?_
      refine go_ifz (b := (σ.2.2 78 v2.toNatClampNeg)) (k1 := 85) (L1 := [some (.ref 66), some (.int v1), some (.int v2), some (.int v3), d4]) (S1 := []) (σ1 := σ) (k2 := 49) (L2 := [some (.ref 66), some (.int v1), some (.int v2), some (.int v3), d4]) (S2 := []) (σ2 := σ) 1 (fun n h => h) (fun hc6 => ?_) (fun hc6 => ?_)
      · rw [if_neg hc6] at h
        refine go_st (k' := 40) (L' := [some (.ref 66), some (.int v1), some (.int v2), some (.int (v3 + (1 : Int32))), d4]) (S' := []) (σ' := σ) 2 (fun n h => h) ?_
        exact ih _ v1 v2 (v3 + (1 : Int32)) σ h
      · rw [if_pos hc6] at h
        obtain ⟨hc7, h⟩ := ite_of h
        refine go_q (Q := inb 3 σ 78 v3) (k' := 53) (L' := [some (.ref 66), some (.int v1), some (.int v2), some (.int v3), d4]) (S' := [.int (b2i (σ.2.2 78 v3.toNatClampNeg))]) (σ' := σ) 4 (inb_mk rfl hc7.1 hc7.2) (fun n h => h) ?_
        refine go_ifn (b := (σ.2.2 78 v3.toNatClampNeg)) (k1 := 55) (L1 := [some (.ref 66), some (.int v1), some (.int v2), some (.int v3), d4]) (S1 := []) (σ1 := σ) (k2 := 54) (L2 := [some (.ref 66), some (.int v1), some (.int v2), some (.int v3), d4]) (S2 := []) (σ2 := σ) 1 (fun n h => h) (fun hc8 => ?_) (fun hc8 => ?_)
        · rw [if_pos hc8] at h
          refine go_q (Q := inb 0 σ 73 v2) (k' := 60) (L' := [some (.ref 66), some (.int v1), some (.int v2), some (.int v3), d4]) (S' := [.int (σ.1 73 v2.toNatClampNeg), .ref 66]) (σ' := σ) 5 (inb_mk rfl hc5.1 hc5.2) (fun n h => h) ?_
          refine go_q (Q := inb 0 σ 73 v3) (k' := 65) (L' := [some (.ref 66), some (.int v1), some (.int v2), some (.int v3), d4]) (S' := [.int (σ.1 73 v3.toNatClampNeg), .long (σ.1 73 v2.toNatClampNeg).toInt64, .ref 66]) (σ' := σ) 5 (inb_mk rfl hc7.1 hc7.2) (fun n h => h) ?_
          obtain ⟨x9, hx9, h⟩ := bind_of h
          refine go_call (r := some (.long x9)) (σc := σ) (σ1 := σ) (mi := 187) (vs := [.long (σ.1 73 v2.toNatClampNeg).toInt64, .long (σ.1 73 v3.toNatClampNeg).toInt64]) (k' := 67) (L' := [some (.ref 66), some (.int v1), some (.int v2), some (.int v3), d4]) (S' := [.ref 66]) 2 (fun P9 h9 => c_M_productOf (d + 0) (σ.1 73 v2.toNatClampNeg).toInt64 (σ.1 73 v3.toNatClampNeg).toInt64 σ hx9 h9) (fun n h => h) ?_
          obtain ⟨x10, hx10, h⟩ := bind_of h
          refine go_call (r := some (.int x10)) (σc := σ) (σ1 := σ) (mi := 188) (vs := [.ref 66, .long x9]) (k' := 68) (L' := [some (.ref 66), some (.int v1), some (.int v2), some (.int v3), d4]) (S' := []) 1 (fun P9 h9 => c_M_classFor (d + 1) x9 σ hx10 h9) (fun n h => h) ?_
          refine go_if (c := x10 = (-1 : Int32)) (k1 := 85) (L1 := [some (.ref 66), some (.int v1), some (.int v2), some (.int v3), some (.int x10)]) (S1 := []) (σ1 := σ) (k2 := 72) (L2 := [some (.ref 66), some (.int v1), some (.int v2), some (.int v3), some (.int x10)]) (S2 := []) (σ2 := σ) 4 (fun n h => h) (fun hc11 => ?_) (fun hc11 => ?_)
          · rw [if_pos hc11] at h
            refine go_st (k' := 40) (L' := [some (.ref 66), some (.int v1), some (.int v2), some (.int (v3 + (1 : Int32))), some (.int x10)]) (S' := []) (σ' := σ) 2 (fun n h => h) ?_
            exact ih _ v1 v2 (v3 + (1 : Int32)) σ h
          · rw [if_neg hc11] at h
            obtain ⟨hc12, h⟩ := ite_of h
            refine go_q (Q := inb 3 σ 78 x10) (k' := 76) (L' := [some (.ref 66), some (.int v1), some (.int v2), some (.int v3), some (.int x10)]) (S' := [.int (b2i (σ.2.2 78 x10.toNatClampNeg))]) (σ' := σ) 4 (inb_mk rfl hc12.1 hc12.2) (fun n h => h) ?_
            refine go_ifz (b := (σ.2.2 78 x10.toNatClampNeg)) (k1 := 78) (L1 := [some (.ref 66), some (.int v1), some (.int v2), some (.int v3), some (.int x10)]) (S1 := []) (σ1 := σ) (k2 := 77) (L2 := [some (.ref 66), some (.int v1), some (.int v2), some (.int v3), some (.int x10)]) (S2 := []) (σ2 := σ) 1 (fun n h => h) (fun hc13 => ?_) (fun hc13 => ?_)
            · rw [if_neg hc13] at h
              refine go_q2 (Q := inb 3 σ 78 x10) (Q2 := (1 : Int32) = 0 ∨ (1 : Int32) = 1) (k' := 83) (L' := [some (.ref 66), some (.int v1), some (.int v2), some (.int v3), some (.int x10)]) (S' := []) (σ' := (s_b σ 78 x10.toNatClampNeg true)) 5 (inb_mk rfl hc12.1 hc12.2) (Or.inr rfl) (fun n h => h) ?_
              refine go_st (k' := 40) (L' := [some (.ref 66), some (.int (1 : Int32)), some (.int v2), some (.int (v3 + (1 : Int32))), some (.int x10)]) (S' := []) (σ' := (s_b σ 78 x10.toNatClampNeg true)) 4 (fun n h => h) ?_
              exact ih _ (1 : Int32) v2 (v3 + (1 : Int32)) (s_b σ 78 x10.toNatClampNeg true) h
            · rw [if_pos hc13] at h
              refine go_st (k' := 40) (L' := [some (.ref 66), some (.int v1), some (.int v2), some (.int (v3 + (1 : Int32))), some (.int x10)]) (S' := []) (σ' := σ) 3 (fun n h => h) ?_
              exact ih _ v1 v2 (v3 + (1 : Int32)) σ h
        · rw [if_neg hc8] at h
          refine go_st (k' := 40) (L' := [some (.ref 66), some (.int v1), some (.int v2), some (.int (v3 + (1 : Int32))), d4]) (S' := []) (σ' := σ) 3 (fun n h => h) ?_
          exact ih _ v1 v2 (v3 + (1 : Int32)) σ h
def f_M_laysMade_l34 (N : Nat) (k89 : Int32 → aSt → Option aSt) : Nat → Int32 → Int32 → aSt → Option aSt
  | 0, _, _, _ => none
  | n + 1, v1, v2, σ => (if (σ.1 66 46) ≤ v2 then k89 v1 σ else f_M_laysMade_l40 N (fun (y14 : Int32) (y15 : Int32) σ16 => f_M_laysMade_l34 N k89 n y14 (y15 + (1 : Int32)) σ16) N v1 v2 (0 : Int32) σ)
set_option maxRecDepth 20000 in
set_option maxHeartbeats 4000000 in
theorem t_M_laysMade_l34 (d : Nat) {N : Nat} (k89 : Int32 → aSt → Option aSt) {x : aSt} {P : Option Value → aSt → Prop} (hp : P none x) (hk89 : ∀ (d2 d3 d4 : Option Value) (v1 : Int32) (σ : aSt), k89 v1 σ = some x → aGo (aCall MT (d + 2)) P mc_M_laysMade 89 [some (.ref 66), some (.int v1), d2, d3, d4] [] σ) : ∀ (n : Nat) (d3 d4 : Option Value) (v1 : Int32) (v2 : Int32) (σ : aSt), f_M_laysMade_l34 N k89 n v1 v2 σ = some x → aGo (aCall MT (d + 2)) P mc_M_laysMade 34 [some (.ref 66), some (.int v1), some (.int v2), d3, d4] [] σ := by
  intro n
  induction n with
  | zero => intro d3 d4 v1 v2 σ h; cases h
  | succ n ih =>
    intro d3 d4 v1 v2 σ h
    rw [f_M_laysMade_l34] at h
    refine go_if (c := (σ.1 66 46) ≤ v2) (k1 := 89) (L1 := [some (.ref 66), some (.int v1), some (.int v2), d3, d4]) (S1 := []) (σ1 := σ) (k2 := 38) (L2 := [some (.ref 66), some (.int v1), some (.int v2), d3, d4]) (S2 := []) (σ2 := σ) 4 (fun n h => h) (fun hc3 => ?_) (fun hc3 => ?_)
    · rw [if_pos hc3] at h
      exact hk89 _ _ _ v1 σ h
    · rw [if_neg hc3] at h
      refine go_st (k' := 40) (L' := [some (.ref 66), some (.int v1), some (.int v2), some (.int (0 : Int32)), d4]) (S' := []) (σ' := σ) 2 (fun n h => h) ?_
      refine t_M_laysMade_l40 d _ hp (fun d3 d4 y14 y15 σ16 h => ?_) N _ v1 v2 (0 : Int32) σ h
      · refine go_st (k' := 34) (L' := [some (.ref 66), some (.int y14), some (.int (y15 + (1 : Int32))), d3, d4]) (S' := []) (σ' := σ16) 2 (fun n h => h) ?_
        exact ih _ _ y14 (y15 + (1 : Int32)) σ16 h
def f_M_laysMade_l28 (N : Nat) : Nat → Int32 → aSt → Option aSt
  | 0, _, _ => none
  | n + 1, v1, σ => (if v1 = 0 then some σ else f_M_laysMade_l34 N (fun (y17 : Int32) σ18 => f_M_laysMade_l28 N n y17 σ18) N (0 : Int32) (0 : Int32) σ)
set_option maxRecDepth 20000 in
set_option maxHeartbeats 4000000 in
theorem t_M_laysMade_l28 (d : Nat) {N : Nat} {x : aSt} {P : Option Value → aSt → Prop} (hp : P none x) : ∀ (n : Nat) (d2 d3 d4 : Option Value) (v1 : Int32) (σ : aSt), f_M_laysMade_l28 N n v1 σ = some x → aGo (aCall MT (d + 2)) P mc_M_laysMade 28 [some (.ref 66), some (.int v1), d2, d3, d4] [] σ := by
  intro n
  induction n with
  | zero => intro d2 d3 d4 v1 σ h; cases h
  | succ n ih =>
    intro d2 d3 d4 v1 σ h
    rw [f_M_laysMade_l28] at h
    refine go_if (c := v1 = 0) (k1 := 90) (L1 := [some (.ref 66), some (.int v1), d2, d3, d4]) (S1 := []) (σ1 := σ) (k2 := 30) (L2 := [some (.ref 66), some (.int v1), d2, d3, d4]) (S2 := []) (σ2 := σ) 2 (fun n h => h) (fun hc2 => ?_) (fun hc2 => ?_)
    · rw [if_pos hc2] at h
      cases h
      exact go_ret 1 (fun _ => hp)
    · rw [if_neg hc2] at h
      refine go_st (k' := 34) (L' := [some (.ref 66), some (.int (0 : Int32)), some (.int (0 : Int32)), d3, d4]) (S' := []) (σ' := σ) 4 (fun n h => h) ?_
      refine t_M_laysMade_l34 d _ hp (fun d2 d3 d4 y17 σ18 h => ?_) N _ _ (0 : Int32) (0 : Int32) σ h
      · refine go_st (k' := 28) (L' := [some (.ref 66), some (.int y17), d2, d3, d4]) (S' := []) (σ' := σ18) 1 (fun n h => h) ?_
        exact ih _ _ _ y17 σ18 h
def f_M_laysMade_l2 (N : Nat) : Nat → Int32 → aSt → Option aSt
  | 0, _, _ => none
  | n + 1, v1, σ => (if (σ.1 66 46) ≤ v1 then f_M_laysMade_l28 N N (1 : Int32) σ else (if 0 ≤ v1 ∧ v1 < (64 : Int32) then (if (σ.1 73 v1.toNatClampNeg) = (1 : Int32) then f_M_laysMade_l2 N n (v1 + (1 : Int32)) (s_b σ 78 v1.toNatClampNeg true) else (if (σ.2.2 74 v1.toNatClampNeg) = true then f_M_laysMade_l2 N n (v1 + (1 : Int32)) (s_b σ 78 v1.toNatClampNeg true) else f_M_laysMade_l2 N n (v1 + (1 : Int32)) (s_b σ 78 v1.toNatClampNeg false))) else none))
set_option maxRecDepth 20000 in
set_option maxHeartbeats 4000000 in
theorem t_M_laysMade_l2 (d : Nat) {N : Nat} {x : aSt} {P : Option Value → aSt → Prop} (hp : P none x) : ∀ (n : Nat) (d2 d3 d4 : Option Value) (v1 : Int32) (σ : aSt), f_M_laysMade_l2 N n v1 σ = some x → aGo (aCall MT (d + 2)) P mc_M_laysMade 2 [some (.ref 66), some (.int v1), d2, d3, d4] [] σ := by
  intro n
  induction n with
  | zero => intro d2 d3 d4 v1 σ h; cases h
  | succ n ih =>
    intro d2 d3 d4 v1 σ h
    rw [f_M_laysMade_l2] at h
    refine go_if (c := (σ.1 66 46) ≤ v1) (k1 := 26) (L1 := [some (.ref 66), some (.int v1), d2, d3, d4]) (S1 := []) (σ1 := σ) (k2 := 6) (L2 := [some (.ref 66), some (.int v1), d2, d3, d4]) (S2 := []) (σ2 := σ) 4 (fun n h => h) (fun hc1 => ?_) (fun hc1 => ?_)
    · rw [if_pos hc1] at h
      refine go_st (k' := 28) (L' := [some (.ref 66), some (.int (1 : Int32)), d2, d3, d4]) (S' := []) (σ' := σ) 2 (fun n h => h) ?_
      exact t_M_laysMade_l28 d hp N _ _ _ (1 : Int32) σ h
    · rw [if_neg hc1] at h
      obtain ⟨hc19, h⟩ := ite_of h
      refine go_q (Q := inb 0 σ 73 v1) (k' := 13) (L' := [some (.ref 66), some (.int v1), d2, d3, d4]) (S' := [.int (σ.1 73 v1.toNatClampNeg), .int v1, .ref 78]) (σ' := σ) 7 (inb_mk rfl hc19.1 hc19.2) (fun n h => h) ?_
      refine go_if (c := (σ.1 73 v1.toNatClampNeg) = (1 : Int32)) (k1 := 20) (L1 := [some (.ref 66), some (.int v1), d2, d3, d4]) (S1 := [.int v1, .ref 78]) (σ1 := σ) (k2 := 15) (L2 := [some (.ref 66), some (.int v1), d2, d3, d4]) (S2 := [.int v1, .ref 78]) (σ2 := σ) 2 (fun n h => h) (fun hc20 => ?_) (fun hc20 => ?_)
      · rw [if_pos hc20] at h
        refine go_q2 (Q := inb 3 σ 78 v1) (Q2 := (1 : Int32) = 0 ∨ (1 : Int32) = 1) (k' := 24) (L' := [some (.ref 66), some (.int v1), d2, d3, d4]) (S' := []) (σ' := (s_b σ 78 v1.toNatClampNeg true)) 3 (inb_mk rfl hc19.1 hc19.2) (Or.inr rfl) (fun n h => h) ?_
        refine go_st (k' := 2) (L' := [some (.ref 66), some (.int (v1 + (1 : Int32))), d2, d3, d4]) (S' := []) (σ' := (s_b σ 78 v1.toNatClampNeg true)) 2 (fun n h => h) ?_
        exact ih _ _ _ (v1 + (1 : Int32)) (s_b σ 78 v1.toNatClampNeg true) h
      · rw [if_neg hc20] at h
        refine go_q (Q := inb 3 σ 74 v1) (k' := 19) (L' := [some (.ref 66), some (.int v1), d2, d3, d4]) (S' := [.int (b2i (σ.2.2 74 v1.toNatClampNeg)), .int v1, .ref 78]) (σ' := σ) 4 (inb_mk rfl hc19.1 hc19.2) (fun n h => h) ?_
        refine go_ifz (b := (σ.2.2 74 v1.toNatClampNeg)) (k1 := 22) (L1 := [some (.ref 66), some (.int v1), d2, d3, d4]) (S1 := [.int v1, .ref 78]) (σ1 := σ) (k2 := 20) (L2 := [some (.ref 66), some (.int v1), d2, d3, d4]) (S2 := [.int v1, .ref 78]) (σ2 := σ) 1 (fun n h => h) (fun hc21 => ?_) (fun hc21 => ?_)
        · rw [if_neg hc21] at h
          refine go_q2 (Q := inb 3 σ 78 v1) (Q2 := (0 : Int32) = 0 ∨ (0 : Int32) = 1) (k' := 24) (L' := [some (.ref 66), some (.int v1), d2, d3, d4]) (S' := []) (σ' := (s_b σ 78 v1.toNatClampNeg false)) 2 (inb_mk rfl hc19.1 hc19.2) (Or.inl rfl) (fun n h => h) ?_
          refine go_st (k' := 2) (L' := [some (.ref 66), some (.int (v1 + (1 : Int32))), d2, d3, d4]) (S' := []) (σ' := (s_b σ 78 v1.toNatClampNeg false)) 2 (fun n h => h) ?_
          exact ih _ _ _ (v1 + (1 : Int32)) (s_b σ 78 v1.toNatClampNeg false) h
        · rw [if_pos hc21] at h
          refine go_q2 (Q := inb 3 σ 78 v1) (Q2 := (1 : Int32) = 0 ∨ (1 : Int32) = 1) (k' := 24) (L' := [some (.ref 66), some (.int v1), d2, d3, d4]) (S' := []) (σ' := (s_b σ 78 v1.toNatClampNeg true)) 3 (inb_mk rfl hc19.1 hc19.2) (Or.inr rfl) (fun n h => h) ?_
          refine go_st (k' := 2) (L' := [some (.ref 66), some (.int (v1 + (1 : Int32))), d2, d3, d4]) (S' := []) (σ' := (s_b σ 78 v1.toNatClampNeg true)) 2 (fun n h => h) ?_
          exact ih _ _ _ (v1 + (1 : Int32)) (s_b σ 78 v1.toNatClampNeg true) h
def f_M_laysMade (N : Nat) (σ : aSt) : Option aSt :=
  f_M_laysMade_l2 N N (0 : Int32) σ
set_option maxRecDepth 20000 in
set_option maxHeartbeats 4000000 in
theorem c_M_laysMade (d : Nat) {N : Nat} (σ : aSt) {P : Option Value → aSt → Prop} {x : aSt} (h : f_M_laysMade N σ = some x) (hp : P none x) : aCall MT (d + 3) 189 [.ref 66] σ P := by
  unfold f_M_laysMade at h
  refine call_of (code := mc_M_laysMade) (L := [some (.ref 66), none, none, none, none]) rfl rfl rfl rfl ?_
  refine go_st (k' := 2) (L' := [some (.ref 66), some (.int (0 : Int32)), none, none, none]) (S' := []) (σ' := σ) 2 (fun n h => h) ?_
  exact t_M_laysMade_l2 d hp N _ _ _ (0 : Int32) σ h
def f_M_worthOf (N : Nat) (p0 : Int64) (p1 : Int64) (p2 : Int64) (σ : aSt) : Option Int64 :=
  (if ¬ p0 = 0 then some ((((((p0 * p1) * p1) * p1) * p1) + (((((σ.2.1 66 38) * p1) * p1) * p2) * p2)) + ((((((σ.2.1 66 39) / p0) * p2) * p2) * p2) * p2)) else none)
set_option maxRecDepth 20000 in
set_option maxHeartbeats 4000000 in
theorem c_M_worthOf (d : Nat) {N : Nat} (p0 : Int64) (p1 : Int64) (p2 : Int64) (σ : aSt) {P : Option Value → aSt → Prop} {x : Int64} (h : f_M_worthOf N p0 p1 p2 σ = some x) (hp : P (some (.long x)) σ) : aCall MT (d + 1) 182 [.ref 66, .long p0, .long p1, .long p2] σ P := by
  unfold f_M_worthOf at h
  refine call_of (code := mc_M_worthOf) (L := [some (.ref 66), some (.long p0), none, some (.long p1), none, some (.long p2), none]) rfl rfl rfl rfl ?_
  obtain ⟨hc1, h⟩ := ite_of h
  refine go_q (Q := ¬ p0 = 0) (k' := 24) (L' := [some (.ref 66), some (.long p0), none, some (.long p1), none, some (.long p2), none]) (S' := [.long ((σ.2.1 66 39) / p0), .long (((((p0 * p1) * p1) * p1) * p1) + (((((σ.2.1 66 38) * p1) * p1) * p2) * p2))]) (σ' := σ) 24 hc1 (fun n h => h) ?_
  cases h
  exact go_ret 10 (fun _ => hp)
def f_M_seeks_l7 (N : Nat) (k46 : Int32 → Int32 → aSt → Option (Bool × aSt)) : Nat → Int32 → Int32 → Int32 → aSt → Option (Bool × aSt)
  | 0, _, _, _, _ => none
  | n + 1, v1, v2, v3, σ => (if (20 : Int32) < v3 then k46 v1 v2 σ else ((f_M_common N v3.toInt64 v2.toInt64).bind fun x3 => (if x3 ≠ (1 : Int64) then f_M_seeks_l7 N k46 n v1 v2 (v3 + (1 : Int32)) σ else (if 0 ≤ v1 ∧ v1 < (64 : Int32) then ((f_M_worthOf N (σ.1 73 v1.toNatClampNeg).toInt64 v3.toInt64 v2.toInt64 σ).bind fun x6 => ((f_M_isSquare N x6).bind fun x7 => (if x7 = true then some (true, (s_i (s_i σ 75 v1.toNatClampNeg v3) 76 v1.toNatClampNeg v2)) else f_M_seeks_l7 N k46 n v1 v2 (v3 + (1 : Int32)) σ))) else none))))
set_option maxRecDepth 20000 in
set_option maxHeartbeats 4000000 in
theorem t_M_seeks_l7 (d : Nat) {N : Nat} (k46 : Int32 → Int32 → aSt → Option (Bool × aSt)) {x : (Bool × aSt)} {P : Option Value → aSt → Prop} (hp : P (some (.int (b2i x.1))) x.2) (hk46 : ∀ (d3 : Option Value) (v1 : Int32) (v2 : Int32) (σ : aSt), k46 v1 v2 σ = some x → aGo (aCall MT (d + 2)) P mc_M_seeks 46 [some (.ref 66), some (.int v1), some (.int v2), d3] [] σ) : ∀ (n : Nat) (v1 : Int32) (v2 : Int32) (v3 : Int32) (σ : aSt), f_M_seeks_l7 N k46 n v1 v2 v3 σ = some x → aGo (aCall MT (d + 2)) P mc_M_seeks 7 [some (.ref 66), some (.int v1), some (.int v2), some (.int v3)] [] σ := by
  intro n
  induction n with
  | zero => intro v1 v2 v3 σ h; cases h
  | succ n ih =>
    intro v1 v2 v3 σ h
    rw [f_M_seeks_l7] at h
    refine go_if (c := (20 : Int32) < v3) (k1 := 46) (L1 := [some (.ref 66), some (.int v1), some (.int v2), some (.int v3)]) (S1 := []) (σ1 := σ) (k2 := 10) (L2 := [some (.ref 66), some (.int v1), some (.int v2), some (.int v3)]) (S2 := []) (σ2 := σ) 3 (fun n h => h) (fun hc2 => ?_) (fun hc2 => ?_)
    · rw [if_pos hc2] at h
      exact hk46 _ v1 v2 σ h
    · rw [if_neg hc2] at h
      obtain ⟨x3, hx3, h⟩ := bind_of h
      refine go_call (r := some (.long x3)) (σc := σ) (σ1 := σ) (mi := 57) (vs := [.long v3.toInt64, .long v2.toInt64]) (k' := 15) (L' := [some (.ref 66), some (.int v1), some (.int v2), some (.int v3)]) (S' := []) 5 (fun P9 h9 => c_M_common (d + 1) v3.toInt64 v2.toInt64 σ hx3 h9) (fun n h => h) ?_
      refine go_iff (lcmp_ne x3 (1 : Int64)) (k1 := 44) (L1 := [some (.ref 66), some (.int v1), some (.int v2), some (.int v3)]) (S1 := []) (σ1 := σ) (k2 := 18) (L2 := [some (.ref 66), some (.int v1), some (.int v2), some (.int v3)]) (S2 := []) (σ2 := σ) 3 (fun n h => h) (fun hc4 => ?_) (fun hc4 => ?_)
      · rw [if_pos hc4] at h
        refine go_st (k' := 7) (L' := [some (.ref 66), some (.int v1), some (.int v2), some (.int (v3 + (1 : Int32)))]) (S' := []) (σ' := σ) 2 (fun n h => h) ?_
        exact ih v1 v2 (v3 + (1 : Int32)) σ h
      · rw [if_neg hc4] at h
        obtain ⟨hc5, h⟩ := ite_of h
        refine go_q (Q := inb 0 σ 73 v1) (k' := 23) (L' := [some (.ref 66), some (.int v1), some (.int v2), some (.int v3)]) (S' := [.int (σ.1 73 v1.toNatClampNeg), .ref 66]) (σ' := σ) 5 (inb_mk rfl hc5.1 hc5.2) (fun n h => h) ?_
        obtain ⟨x6, hx6, h⟩ := bind_of h
        refine go_call (r := some (.long x6)) (σc := σ) (σ1 := σ) (mi := 182) (vs := [.ref 66, .long (σ.1 73 v1.toNatClampNeg).toInt64, .long v3.toInt64, .long v2.toInt64]) (k' := 29) (L' := [some (.ref 66), some (.int v1), some (.int v2), some (.int v3)]) (S' := []) 6 (fun P9 h9 => c_M_worthOf (d + 1) (σ.1 73 v1.toNatClampNeg).toInt64 v3.toInt64 v2.toInt64 σ hx6 h9) (fun n h => h) ?_
        obtain ⟨x7, hx7, h⟩ := bind_of h
        refine go_call (r := some (.int (b2i x7))) (σc := σ) (σ1 := σ) (mi := 59) (vs := [.long x6]) (k' := 30) (L' := [some (.ref 66), some (.int v1), some (.int v2), some (.int v3)]) (S' := []) 1 (fun P9 h9 => c_M_isSquare (d + 0) x6 σ hx7 h9) (fun n h => h) ?_
        refine go_ifn (b := x7) (k1 := 32) (L1 := [some (.ref 66), some (.int v1), some (.int v2), some (.int v3)]) (S1 := []) (σ1 := σ) (k2 := 31) (L2 := [some (.ref 66), some (.int v1), some (.int v2), some (.int v3)]) (S2 := []) (σ2 := σ) 1 (fun n h => h) (fun hc8 => ?_) (fun hc8 => ?_)
        · rw [if_pos hc8] at h
          refine go_q (Q := inb 0 σ 75 v1) (k' := 37) (L' := [some (.ref 66), some (.int v1), some (.int v2), some (.int v3)]) (S' := []) (σ' := (s_i σ 75 v1.toNatClampNeg v3)) 5 (inb_mk rfl hc5.1 hc5.2) (fun n h => h) ?_
          refine go_q (Q := inb 0 (s_i σ 75 v1.toNatClampNeg v3) 76 v1) (k' := 42) (L' := [some (.ref 66), some (.int v1), some (.int v2), some (.int v3)]) (S' := []) (σ' := (s_i (s_i σ 75 v1.toNatClampNeg v3) 76 v1.toNatClampNeg v2)) 5 (inb_mk rfl hc5.1 hc5.2) (fun n h => h) ?_
          cases h
          exact go_ret 2 (fun _ => And.intro (Or.inr rfl) hp)
        · rw [if_neg hc8] at h
          refine go_st (k' := 7) (L' := [some (.ref 66), some (.int v1), some (.int v2), some (.int (v3 + (1 : Int32)))]) (S' := []) (σ' := σ) 3 (fun n h => h) ?_
          exact ih v1 v2 (v3 + (1 : Int32)) σ h
def f_M_seeks_l2 (N : Nat) : Nat → Int32 → Int32 → aSt → Option (Bool × aSt)
  | 0, _, _, _ => none
  | n + 1, v1, v2, σ => (if (20 : Int32) < v2 then some (false, σ) else f_M_seeks_l7 N (fun (y9 : Int32) (y10 : Int32) σ11 => f_M_seeks_l2 N n y9 (y10 + (1 : Int32)) σ11) N v1 v2 (0 : Int32) σ)
set_option maxRecDepth 20000 in
set_option maxHeartbeats 4000000 in
theorem t_M_seeks_l2 (d : Nat) {N : Nat} {x : (Bool × aSt)} {P : Option Value → aSt → Prop} (hp : P (some (.int (b2i x.1))) x.2) : ∀ (n : Nat) (d3 : Option Value) (v1 : Int32) (v2 : Int32) (σ : aSt), f_M_seeks_l2 N n v1 v2 σ = some x → aGo (aCall MT (d + 2)) P mc_M_seeks 2 [some (.ref 66), some (.int v1), some (.int v2), d3] [] σ := by
  intro n
  induction n with
  | zero => intro d3 v1 v2 σ h; cases h
  | succ n ih =>
    intro d3 v1 v2 σ h
    rw [f_M_seeks_l2] at h
    refine go_if (c := (20 : Int32) < v2) (k1 := 48) (L1 := [some (.ref 66), some (.int v1), some (.int v2), d3]) (S1 := []) (σ1 := σ) (k2 := 5) (L2 := [some (.ref 66), some (.int v1), some (.int v2), d3]) (S2 := []) (σ2 := σ) 3 (fun n h => h) (fun hc1 => ?_) (fun hc1 => ?_)
    · rw [if_pos hc1] at h
      cases h
      exact go_ret 2 (fun _ => And.intro (Or.inl rfl) hp)
    · rw [if_neg hc1] at h
      refine go_st (k' := 7) (L' := [some (.ref 66), some (.int v1), some (.int v2), some (.int (0 : Int32))]) (S' := []) (σ' := σ) 2 (fun n h => h) ?_
      refine t_M_seeks_l7 d _ hp (fun d3 y9 y10 σ11 h => ?_) N v1 v2 (0 : Int32) σ h
      · refine go_st (k' := 2) (L' := [some (.ref 66), some (.int y9), some (.int (y10 + (1 : Int32))), d3]) (S' := []) (σ' := σ11) 2 (fun n h => h) ?_
        exact ih _ y9 (y10 + (1 : Int32)) σ11 h
def f_M_seeks (N : Nat) (p0 : Int32) (σ : aSt) : Option (Bool × aSt) :=
  f_M_seeks_l2 N N p0 (0 : Int32) σ
set_option maxRecDepth 20000 in
set_option maxHeartbeats 4000000 in
theorem c_M_seeks (d : Nat) {N : Nat} (p0 : Int32) (σ : aSt) {P : Option Value → aSt → Prop} {x : (Bool × aSt)} (h : f_M_seeks N p0 σ = some x) (hp : P (some (.int (b2i x.1))) x.2) : aCall MT (d + 3) 183 [.ref 66, .int p0] σ P := by
  unfold f_M_seeks at h
  refine call_of (code := mc_M_seeks) (L := [some (.ref 66), some (.int p0), none, none]) rfl rfl rfl rfl ?_
  refine go_st (k' := 2) (L' := [some (.ref 66), some (.int p0), some (.int (0 : Int32)), none]) (S' := []) (σ' := σ) 2 (fun n h => h) ?_
  exact t_M_seeks_l2 d hp N _ p0 (0 : Int32) σ h
def f_M_bySigns (N : Nat) (p0 : Int64) (σ : aSt) : Option Bool :=
  (if (0 : Int64) < p0 then some true else (if ¬ p0 = 0 then (if (0 : Int64) < ((σ.2.1 66 39) / p0) then some true else (if (σ.2.1 66 38) ≤ (0 : Int64) then some false else (if (((σ.2.1 66 38) * (σ.2.1 66 38)) - ((4 : Int64) * (σ.2.1 66 39))) ≤ (0 : Int64) then some false else some true))) else none))
set_option maxRecDepth 20000 in
set_option maxHeartbeats 4000000 in
theorem c_M_bySigns (d : Nat) {N : Nat} (p0 : Int64) (σ : aSt) {P : Option Value → aSt → Prop} {x : Bool} (h : f_M_bySigns N p0 σ = some x) (hp : P (some (.int (b2i x))) σ) : aCall MT (d + 1) 184 [.ref 66, .long p0] σ P := by
  unfold f_M_bySigns at h
  refine call_of (code := mc_M_bySigns) (L := [some (.ref 66), some (.long p0), none]) rfl rfl rfl rfl ?_
  refine go_iff (lcmp_gt p0 (0 : Int64)) (k1 := 29) (L1 := [some (.ref 66), some (.long p0), none]) (S1 := []) (σ1 := σ) (k2 := 4) (L2 := [some (.ref 66), some (.long p0), none]) (S2 := []) (σ2 := σ) 4 (fun n h => h) (fun hc1 => ?_) (fun hc1 => ?_)
  · rw [if_pos hc1] at h
    cases h
    exact go_ret 3 (fun _ => And.intro (Or.inr rfl) hp)
  · rw [if_neg hc1] at h
    obtain ⟨hc2, h⟩ := ite_of h
    refine go_q (Q := ¬ p0 = 0) (k' := 8) (L' := [some (.ref 66), some (.long p0), none]) (S' := [.long ((σ.2.1 66 39) / p0)]) (σ' := σ) 4 hc2 (fun n h => h) ?_
    refine go_iff (lcmp_gt ((σ.2.1 66 39) / p0) (0 : Int64)) (k1 := 29) (L1 := [some (.ref 66), some (.long p0), none]) (S1 := []) (σ1 := σ) (k2 := 11) (L2 := [some (.ref 66), some (.long p0), none]) (S2 := []) (σ2 := σ) 3 (fun n h => h) (fun hc3 => ?_) (fun hc3 => ?_)
    · rw [if_pos hc3] at h
      cases h
      exact go_ret 3 (fun _ => And.intro (Or.inr rfl) hp)
    · rw [if_neg hc3] at h
      refine go_iff (lcmp_le (σ.2.1 66 38) (0 : Int64)) (k1 := 31) (L1 := [some (.ref 66), some (.long p0), none]) (S1 := []) (σ1 := σ) (k2 := 16) (L2 := [some (.ref 66), some (.long p0), none]) (S2 := []) (σ2 := σ) 5 (fun n h => h) (fun hc4 => ?_) (fun hc4 => ?_)
      · rw [if_pos hc4] at h
        cases h
        exact go_ret 2 (fun _ => And.intro (Or.inl rfl) hp)
      · rw [if_neg hc4] at h
        refine go_iff (lcmp_le (((σ.2.1 66 38) * (σ.2.1 66 38)) - ((4 : Int64) * (σ.2.1 66 39))) (0 : Int64)) (k1 := 31) (L1 := [some (.ref 66), some (.long p0), none]) (S1 := []) (σ1 := σ) (k2 := 29) (L2 := [some (.ref 66), some (.long p0), none]) (S2 := []) (σ2 := σ) 13 (fun n h => h) (fun hc5 => ?_) (fun hc5 => ?_)
        · rw [if_pos hc5] at h
          cases h
          exact go_ret 2 (fun _ => And.intro (Or.inl rfl) hp)
        · rw [if_neg hc5] at h
          cases h
          exact go_ret 3 (fun _ => And.intro (Or.inr rfl) hp)
def f_M_byOne_l35 (N : Nat) (k63 : Int64 → Int32 → Int32 → Int32 → aSt → Option (Bool × aSt)) : Nat → Int64 → Int32 → Int32 → Int32 → Int32 → aSt → Option (Bool × aSt)
  | 0, _, _, _, _, _, _ => none
  | n + 1, v1, v3, v4, v5, v6, σ => (if v3 ≤ v6 then k63 v1 v3 v4 v5 σ else (if ¬ v4 = 0 then (if (irem v5 v4) ≠ 0 then ((f_M_worthOf N v1 v5.toInt64 v6.toInt64 σ).bind fun x7 => ((f_M_mod N x7 v3).bind fun x8 => (if 0 ≤ x8 ∧ x8 < (49 : Int32) then (if (σ.2.2 79 x8.toNatClampNeg) = true then some (true, σ) else f_M_byOne_l35 N k63 n v1 v3 v4 v5 (v6 + (1 : Int32)) σ) else none))) else (if (irem v6 v4) = 0 then f_M_byOne_l35 N k63 n v1 v3 v4 v5 (v6 + (1 : Int32)) σ else ((f_M_worthOf N v1 v5.toInt64 v6.toInt64 σ).bind fun x12 => ((f_M_mod N x12 v3).bind fun x13 => (if 0 ≤ x13 ∧ x13 < (49 : Int32) then (if (σ.2.2 79 x13.toNatClampNeg) = true then some (true, σ) else f_M_byOne_l35 N k63 n v1 v3 v4 v5 (v6 + (1 : Int32)) σ) else none))))) else none))
set_option maxRecDepth 20000 in
set_option maxHeartbeats 4000000 in
theorem t_M_byOne_l35 (d : Nat) {N : Nat} (k63 : Int64 → Int32 → Int32 → Int32 → aSt → Option (Bool × aSt)) {x : (Bool × aSt)} {P : Option Value → aSt → Prop} (hp : P (some (.int (b2i x.1))) x.2) (hk63 : ∀ (d6 : Option Value) (v1 : Int64) (v3 : Int32) (v4 : Int32) (v5 : Int32) (σ : aSt), k63 v1 v3 v4 v5 σ = some x → aGo (aCall MT (d + 1)) P mc_M_byOne 63 [some (.ref 66), some (.long v1), none, some (.int v3), some (.int v4), some (.int v5), d6] [] σ) : ∀ (n : Nat) (v1 : Int64) (v3 : Int32) (v4 : Int32) (v5 : Int32) (v6 : Int32) (σ : aSt), f_M_byOne_l35 N k63 n v1 v3 v4 v5 v6 σ = some x → aGo (aCall MT (d + 1)) P mc_M_byOne 35 [some (.ref 66), some (.long v1), none, some (.int v3), some (.int v4), some (.int v5), some (.int v6)] [] σ := by
  intro n
  induction n with
  | zero => intro v1 v3 v4 v5 v6 σ h; cases h
  | succ n ih =>
    intro v1 v3 v4 v5 v6 σ h
    rw [f_M_byOne_l35] at h
    refine go_if (c := v3 ≤ v6) (k1 := 63) (L1 := [some (.ref 66), some (.long v1), none, some (.int v3), some (.int v4), some (.int v5), some (.int v6)]) (S1 := []) (σ1 := σ) (k2 := 38) (L2 := [some (.ref 66), some (.long v1), none, some (.int v3), some (.int v4), some (.int v5), some (.int v6)]) (S2 := []) (σ2 := σ) 3 (fun n h => h) (fun hc4 => ?_) (fun hc4 => ?_)
    · rw [if_pos hc4] at h
      exact hk63 _ v1 v3 v4 v5 σ h
    · rw [if_neg hc4] at h
      obtain ⟨hc5, h⟩ := ite_of h
      refine go_q (Q := ¬ v4 = 0) (k' := 41) (L' := [some (.ref 66), some (.long v1), none, some (.int v3), some (.int v4), some (.int v5), some (.int v6)]) (S' := [.int (irem v5 v4)]) (σ' := σ) 3 hc5 (fun n h => h) ?_
      refine go_if (c := (irem v5 v4) ≠ 0) (k1 := 46) (L1 := [some (.ref 66), some (.long v1), none, some (.int v3), some (.int v4), some (.int v5), some (.int v6)]) (S1 := []) (σ1 := σ) (k2 := 42) (L2 := [some (.ref 66), some (.long v1), none, some (.int v3), some (.int v4), some (.int v5), some (.int v6)]) (S2 := []) (σ2 := σ) 1 (fun n h => h) (fun hc6 => ?_) (fun hc6 => ?_)
      · rw [if_pos hc6] at h
        obtain ⟨x7, hx7, h⟩ := bind_of h
        refine go_call (r := some (.long x7)) (σc := σ) (σ1 := σ) (mi := 182) (vs := [.ref 66, .long v1, .long v5.toInt64, .long v6.toInt64]) (k' := 55) (L' := [some (.ref 66), some (.long v1), none, some (.int v3), some (.int v4), some (.int v5), some (.int v6)]) (S' := [.ref 79]) 9 (fun P9 h9 => c_M_worthOf (d + 0) v1 v5.toInt64 v6.toInt64 σ hx7 h9) (fun n h => h) ?_
        obtain ⟨x8, hx8, h⟩ := bind_of h
        refine go_call (r := some (.int x8)) (σc := σ) (σ1 := σ) (mi := 147) (vs := [.long x7, .int v3]) (k' := 57) (L' := [some (.ref 66), some (.long v1), none, some (.int v3), some (.int v4), some (.int v5), some (.int v6)]) (S' := [.ref 79]) 2 (fun P9 h9 => c_M_mod (d + 0) x7 v3 σ hx8 h9) (fun n h => h) ?_
        obtain ⟨hc9, h⟩ := ite_of h
        refine go_q (Q := inb 3 σ 79 x8) (k' := 58) (L' := [some (.ref 66), some (.long v1), none, some (.int v3), some (.int v4), some (.int v5), some (.int v6)]) (S' := [.int (b2i (σ.2.2 79 x8.toNatClampNeg))]) (σ' := σ) 1 (inb_mk rfl hc9.1 hc9.2) (fun n h => h) ?_
        refine go_ifz (b := (σ.2.2 79 x8.toNatClampNeg)) (k1 := 61) (L1 := [some (.ref 66), some (.long v1), none, some (.int v3), some (.int v4), some (.int v5), some (.int v6)]) (S1 := []) (σ1 := σ) (k2 := 59) (L2 := [some (.ref 66), some (.long v1), none, some (.int v3), some (.int v4), some (.int v5), some (.int v6)]) (S2 := []) (σ2 := σ) 1 (fun n h => h) (fun hc10 => ?_) (fun hc10 => ?_)
        · rw [if_neg hc10] at h
          refine go_st (k' := 35) (L' := [some (.ref 66), some (.long v1), none, some (.int v3), some (.int v4), some (.int v5), some (.int (v6 + (1 : Int32)))]) (S' := []) (σ' := σ) 2 (fun n h => h) ?_
          exact ih v1 v3 v4 v5 (v6 + (1 : Int32)) σ h
        · rw [if_pos hc10] at h
          cases h
          exact go_ret 2 (fun _ => And.intro (Or.inr rfl) hp)
      · rw [if_neg hc6] at h
        refine go_q (Q := ¬ v4 = 0) (k' := 45) (L' := [some (.ref 66), some (.long v1), none, some (.int v3), some (.int v4), some (.int v5), some (.int v6)]) (S' := [.int (irem v6 v4)]) (σ' := σ) 3 (hc5) (fun n h => h) ?_
        refine go_if (c := (irem v6 v4) = 0) (k1 := 61) (L1 := [some (.ref 66), some (.long v1), none, some (.int v3), some (.int v4), some (.int v5), some (.int v6)]) (S1 := []) (σ1 := σ) (k2 := 46) (L2 := [some (.ref 66), some (.long v1), none, some (.int v3), some (.int v4), some (.int v5), some (.int v6)]) (S2 := []) (σ2 := σ) 1 (fun n h => h) (fun hc11 => ?_) (fun hc11 => ?_)
        · rw [if_pos hc11] at h
          refine go_st (k' := 35) (L' := [some (.ref 66), some (.long v1), none, some (.int v3), some (.int v4), some (.int v5), some (.int (v6 + (1 : Int32)))]) (S' := []) (σ' := σ) 2 (fun n h => h) ?_
          exact ih v1 v3 v4 v5 (v6 + (1 : Int32)) σ h
        · rw [if_neg hc11] at h
          obtain ⟨x12, hx12, h⟩ := bind_of h
          refine go_call (r := some (.long x12)) (σc := σ) (σ1 := σ) (mi := 182) (vs := [.ref 66, .long v1, .long v5.toInt64, .long v6.toInt64]) (k' := 55) (L' := [some (.ref 66), some (.long v1), none, some (.int v3), some (.int v4), some (.int v5), some (.int v6)]) (S' := [.ref 79]) 9 (fun P9 h9 => c_M_worthOf (d + 0) v1 v5.toInt64 v6.toInt64 σ hx12 h9) (fun n h => h) ?_
          obtain ⟨x13, hx13, h⟩ := bind_of h
          refine go_call (r := some (.int x13)) (σc := σ) (σ1 := σ) (mi := 147) (vs := [.long x12, .int v3]) (k' := 57) (L' := [some (.ref 66), some (.long v1), none, some (.int v3), some (.int v4), some (.int v5), some (.int v6)]) (S' := [.ref 79]) 2 (fun P9 h9 => c_M_mod (d + 0) x12 v3 σ hx13 h9) (fun n h => h) ?_
          obtain ⟨hc14, h⟩ := ite_of h
          refine go_q (Q := inb 3 σ 79 x13) (k' := 58) (L' := [some (.ref 66), some (.long v1), none, some (.int v3), some (.int v4), some (.int v5), some (.int v6)]) (S' := [.int (b2i (σ.2.2 79 x13.toNatClampNeg))]) (σ' := σ) 1 (inb_mk rfl hc14.1 hc14.2) (fun n h => h) ?_
          refine go_ifz (b := (σ.2.2 79 x13.toNatClampNeg)) (k1 := 61) (L1 := [some (.ref 66), some (.long v1), none, some (.int v3), some (.int v4), some (.int v5), some (.int v6)]) (S1 := []) (σ1 := σ) (k2 := 59) (L2 := [some (.ref 66), some (.long v1), none, some (.int v3), some (.int v4), some (.int v5), some (.int v6)]) (S2 := []) (σ2 := σ) 1 (fun n h => h) (fun hc15 => ?_) (fun hc15 => ?_)
          · rw [if_neg hc15] at h
            refine go_st (k' := 35) (L' := [some (.ref 66), some (.long v1), none, some (.int v3), some (.int v4), some (.int v5), some (.int (v6 + (1 : Int32)))]) (S' := []) (σ' := σ) 2 (fun n h => h) ?_
            exact ih v1 v3 v4 v5 (v6 + (1 : Int32)) σ h
          · rw [if_pos hc15] at h
            cases h
            exact go_ret 2 (fun _ => And.intro (Or.inr rfl) hp)
def f_M_byOne_l30 (N : Nat) : Nat → Int64 → Int32 → Int32 → Int32 → aSt → Option (Bool × aSt)
  | 0, _, _, _, _, _ => none
  | n + 1, v1, v3, v4, v5, σ => (if v3 ≤ v5 then some (false, σ) else f_M_byOne_l35 N (fun (y16 : Int64) (y17 : Int32) (y18 : Int32) (y19 : Int32) σ20 => f_M_byOne_l30 N n y16 y17 y18 (y19 + (1 : Int32)) σ20) N v1 v3 v4 v5 (0 : Int32) σ)
set_option maxRecDepth 20000 in
set_option maxHeartbeats 4000000 in
theorem t_M_byOne_l30 (d : Nat) {N : Nat} {x : (Bool × aSt)} {P : Option Value → aSt → Prop} (hp : P (some (.int (b2i x.1))) x.2) : ∀ (n : Nat) (d6 : Option Value) (v1 : Int64) (v3 : Int32) (v4 : Int32) (v5 : Int32) (σ : aSt), f_M_byOne_l30 N n v1 v3 v4 v5 σ = some x → aGo (aCall MT (d + 1)) P mc_M_byOne 30 [some (.ref 66), some (.long v1), none, some (.int v3), some (.int v4), some (.int v5), d6] [] σ := by
  intro n
  induction n with
  | zero => intro d6 v1 v3 v4 v5 σ h; cases h
  | succ n ih =>
    intro d6 v1 v3 v4 v5 σ h
    rw [f_M_byOne_l30] at h
    refine go_if (c := v3 ≤ v5) (k1 := 65) (L1 := [some (.ref 66), some (.long v1), none, some (.int v3), some (.int v4), some (.int v5), d6]) (S1 := []) (σ1 := σ) (k2 := 33) (L2 := [some (.ref 66), some (.long v1), none, some (.int v3), some (.int v4), some (.int v5), d6]) (S2 := []) (σ2 := σ) 3 (fun n h => h) (fun hc3 => ?_) (fun hc3 => ?_)
    · rw [if_pos hc3] at h
      cases h
      exact go_ret 2 (fun _ => And.intro (Or.inl rfl) hp)
    · rw [if_neg hc3] at h
      refine go_st (k' := 35) (L' := [some (.ref 66), some (.long v1), none, some (.int v3), some (.int v4), some (.int v5), some (.int (0 : Int32))]) (S' := []) (σ' := σ) 2 (fun n h => h) ?_
      refine t_M_byOne_l35 d _ hp (fun d6 y16 y17 y18 y19 σ20 h => ?_) N v1 v3 v4 v5 (0 : Int32) σ h
      · refine go_st (k' := 30) (L' := [some (.ref 66), some (.long y16), none, some (.int y17), some (.int y18), some (.int (y19 + (1 : Int32))), d6]) (S' := []) (σ' := σ20) 2 (fun n h => h) ?_
        exact ih _ y16 y17 y18 (y19 + (1 : Int32)) σ20 h
def f_M_byOne_l14 (N : Nat) : Nat → Int64 → Int32 → Int32 → Int32 → aSt → Option (Bool × aSt)
  | 0, _, _, _, _, _ => none
  | n + 1, v1, v3, v4, v5, σ => (if v3 ≤ v5 then f_M_byOne_l30 N N v1 v3 v4 (0 : Int32) σ else (if ¬ v3 = 0 then (if 0 ≤ (irem (v5 * v5) v3) ∧ (irem (v5 * v5) v3) < (49 : Int32) then f_M_byOne_l14 N n v1 v3 v4 (v5 + (1 : Int32)) (s_b σ 79 (irem (v5 * v5) v3).toNatClampNeg true) else none) else none))
set_option maxRecDepth 20000 in
set_option maxHeartbeats 4000000 in
theorem t_M_byOne_l14 (d : Nat) {N : Nat} {x : (Bool × aSt)} {P : Option Value → aSt → Prop} (hp : P (some (.int (b2i x.1))) x.2) : ∀ (n : Nat) (d6 : Option Value) (v1 : Int64) (v3 : Int32) (v4 : Int32) (v5 : Int32) (σ : aSt), f_M_byOne_l14 N n v1 v3 v4 v5 σ = some x → aGo (aCall MT (d + 1)) P mc_M_byOne 14 [some (.ref 66), some (.long v1), none, some (.int v3), some (.int v4), some (.int v5), d6] [] σ := by
  intro n
  induction n with
  | zero => intro d6 v1 v3 v4 v5 σ h; cases h
  | succ n ih =>
    intro d6 v1 v3 v4 v5 σ h
    rw [f_M_byOne_l14] at h
    refine go_if (c := v3 ≤ v5) (k1 := 28) (L1 := [some (.ref 66), some (.long v1), none, some (.int v3), some (.int v4), some (.int v5), d6]) (S1 := []) (σ1 := σ) (k2 := 17) (L2 := [some (.ref 66), some (.long v1), none, some (.int v3), some (.int v4), some (.int v5), d6]) (S2 := []) (σ2 := σ) 3 (fun n h => h) (fun hc2 => ?_) (fun hc2 => ?_)
    · rw [if_pos hc2] at h
      refine go_st (k' := 30) (L' := [some (.ref 66), some (.long v1), none, some (.int v3), some (.int v4), some (.int (0 : Int32)), d6]) (S' := []) (σ' := σ) 2 (fun n h => h) ?_
      exact t_M_byOne_l30 d hp N _ v1 v3 v4 (0 : Int32) σ h
    · rw [if_neg hc2] at h
      obtain ⟨hc21, h⟩ := ite_of h
      refine go_q (Q := ¬ v3 = 0) (k' := 24) (L' := [some (.ref 66), some (.long v1), none, some (.int v3), some (.int v4), some (.int v5), d6]) (S' := [.int (irem (v5 * v5) v3), .ref 79]) (σ' := σ) 7 hc21 (fun n h => h) ?_
      obtain ⟨hc22, h⟩ := ite_of h
      refine go_q2 (Q := inb 3 σ 79 (irem (v5 * v5) v3)) (Q2 := (1 : Int32) = 0 ∨ (1 : Int32) = 1) (k' := 26) (L' := [some (.ref 66), some (.long v1), none, some (.int v3), some (.int v4), some (.int v5), d6]) (S' := []) (σ' := (s_b σ 79 (irem (v5 * v5) v3).toNatClampNeg true)) 2 (inb_mk rfl hc22.1 hc22.2) (Or.inr rfl) (fun n h => h) ?_
      refine go_st (k' := 14) (L' := [some (.ref 66), some (.long v1), none, some (.int v3), some (.int v4), some (.int (v5 + (1 : Int32))), d6]) (S' := []) (σ' := (s_b σ 79 (irem (v5 * v5) v3).toNatClampNeg true)) 2 (fun n h => h) ?_
      exact ih _ v1 v3 v4 (v5 + (1 : Int32)) (s_b σ 79 (irem (v5 * v5) v3).toNatClampNeg true) h
def f_M_byOne_l2 (N : Nat) : Nat → Int64 → Int32 → Int32 → Int32 → aSt → Option (Bool × aSt)
  | 0, _, _, _, _, _ => none
  | n + 1, v1, v3, v4, v5, σ => (if v3 ≤ v5 then f_M_byOne_l14 N N v1 v3 v4 (0 : Int32) σ else (if 0 ≤ v5 ∧ v5 < (49 : Int32) then f_M_byOne_l2 N n v1 v3 v4 (v5 + (1 : Int32)) (s_b σ 79 v5.toNatClampNeg false) else none))
set_option maxRecDepth 20000 in
set_option maxHeartbeats 4000000 in
theorem t_M_byOne_l2 (d : Nat) {N : Nat} {x : (Bool × aSt)} {P : Option Value → aSt → Prop} (hp : P (some (.int (b2i x.1))) x.2) : ∀ (n : Nat) (d6 : Option Value) (v1 : Int64) (v3 : Int32) (v4 : Int32) (v5 : Int32) (σ : aSt), f_M_byOne_l2 N n v1 v3 v4 v5 σ = some x → aGo (aCall MT (d + 1)) P mc_M_byOne 2 [some (.ref 66), some (.long v1), none, some (.int v3), some (.int v4), some (.int v5), d6] [] σ := by
  intro n
  induction n with
  | zero => intro d6 v1 v3 v4 v5 σ h; cases h
  | succ n ih =>
    intro d6 v1 v3 v4 v5 σ h
    rw [f_M_byOne_l2] at h
    refine go_if (c := v3 ≤ v5) (k1 := 12) (L1 := [some (.ref 66), some (.long v1), none, some (.int v3), some (.int v4), some (.int v5), d6]) (S1 := []) (σ1 := σ) (k2 := 5) (L2 := [some (.ref 66), some (.long v1), none, some (.int v3), some (.int v4), some (.int v5), d6]) (S2 := []) (σ2 := σ) 3 (fun n h => h) (fun hc1 => ?_) (fun hc1 => ?_)
    · rw [if_pos hc1] at h
      refine go_st (k' := 14) (L' := [some (.ref 66), some (.long v1), none, some (.int v3), some (.int v4), some (.int (0 : Int32)), d6]) (S' := []) (σ' := σ) 2 (fun n h => h) ?_
      exact t_M_byOne_l14 d hp N _ v1 v3 v4 (0 : Int32) σ h
    · rw [if_neg hc1] at h
      obtain ⟨hc23, h⟩ := ite_of h
      refine go_q2 (Q := inb 3 σ 79 v5) (Q2 := (0 : Int32) = 0 ∨ (0 : Int32) = 1) (k' := 10) (L' := [some (.ref 66), some (.long v1), none, some (.int v3), some (.int v4), some (.int v5), d6]) (S' := []) (σ' := (s_b σ 79 v5.toNatClampNeg false)) 5 (inb_mk rfl hc23.1 hc23.2) (Or.inl rfl) (fun n h => h) ?_
      refine go_st (k' := 2) (L' := [some (.ref 66), some (.long v1), none, some (.int v3), some (.int v4), some (.int (v5 + (1 : Int32))), d6]) (S' := []) (σ' := (s_b σ 79 v5.toNatClampNeg false)) 2 (fun n h => h) ?_
      exact ih _ v1 v3 v4 (v5 + (1 : Int32)) (s_b σ 79 v5.toNatClampNeg false) h
def f_M_byOne (N : Nat) (p0 : Int64) (p1 : Int32) (p2 : Int32) (σ : aSt) : Option (Bool × aSt) :=
  f_M_byOne_l2 N N p0 p1 p2 (0 : Int32) σ
set_option maxRecDepth 20000 in
set_option maxHeartbeats 4000000 in
theorem c_M_byOne (d : Nat) {N : Nat} (p0 : Int64) (p1 : Int32) (p2 : Int32) (σ : aSt) {P : Option Value → aSt → Prop} {x : (Bool × aSt)} (h : f_M_byOne N p0 p1 p2 σ = some x) (hp : P (some (.int (b2i x.1))) x.2) : aCall MT (d + 2) 185 [.ref 66, .long p0, .int p1, .int p2] σ P := by
  unfold f_M_byOne at h
  refine call_of (code := mc_M_byOne) (L := [some (.ref 66), some (.long p0), none, some (.int p1), some (.int p2), none, none]) rfl rfl rfl rfl ?_
  refine go_st (k' := 2) (L' := [some (.ref 66), some (.long p0), none, some (.int p1), some (.int p2), some (.int (0 : Int32)), none]) (S' := []) (σ' := σ) 2 (fun n h => h) ?_
  exact t_M_byOne_l2 d hp N _ p0 p1 p2 (0 : Int32) σ h
def f_M_byRemainders (N : Nat) (p0 : Int64) (σ : aSt) : Option (Bool × aSt) :=
  ((f_M_byOne N p0 (16 : Int32) (2 : Int32) σ).bind fun x1 => (if x1.1 = true then ((f_M_byOne N p0 (9 : Int32) (3 : Int32) x1.2).bind fun x3 => (if x3.1 = true then ((f_M_byOne N p0 (25 : Int32) (5 : Int32) x3.2).bind fun x5 => (if x5.1 = true then ((f_M_byOne N p0 (49 : Int32) (7 : Int32) x5.2).bind fun x7 => (if x7.1 = true then ((f_M_byOne N p0 (11 : Int32) (11 : Int32) x7.2).bind fun x9 => (if x9.1 = true then ((f_M_byOne N p0 (13 : Int32) (13 : Int32) x9.2).bind fun x11 => (if x11.1 = true then some (true, x11.2) else some (false, x11.2))) else some (false, x9.2))) else some (false, x7.2))) else some (false, x5.2))) else some (false, x3.2))) else some (false, x1.2)))
set_option maxRecDepth 20000 in
set_option maxHeartbeats 4000000 in
theorem c_M_byRemainders (d : Nat) {N : Nat} (p0 : Int64) (σ : aSt) {P : Option Value → aSt → Prop} {x : (Bool × aSt)} (h : f_M_byRemainders N p0 σ = some x) (hp : P (some (.int (b2i x.1))) x.2) : aCall MT (d + 3) 186 [.ref 66, .long p0] σ P := by
  unfold f_M_byRemainders at h
  refine call_of (code := mc_M_byRemainders) (L := [some (.ref 66), some (.long p0), none]) rfl rfl rfl rfl ?_
  obtain ⟨x1, hx1, h⟩ := bind_of h
  refine go_call (r := some (.int (b2i x1.1))) (σc := σ) (σ1 := x1.2) (mi := 185) (vs := [.ref 66, .long p0, .int (16 : Int32), .int (2 : Int32)]) (k' := 5) (L' := [some (.ref 66), some (.long p0), none]) (S' := []) 5 (fun P9 h9 => c_M_byOne (d + 0) p0 (16 : Int32) (2 : Int32) σ hx1 h9) (fun n h => h) ?_
  refine go_ifz (b := x1.1) (k1 := 38) (L1 := [some (.ref 66), some (.long p0), none]) (S1 := []) (σ1 := x1.2) (k2 := 6) (L2 := [some (.ref 66), some (.long p0), none]) (S2 := []) (σ2 := x1.2) 1 (fun n h => h) (fun hc2 => ?_) (fun hc2 => ?_)
  · rw [if_neg hc2] at h
    cases h
    exact go_ret 2 (fun _ => And.intro (Or.inl rfl) hp)
  · rw [if_pos hc2] at h
    obtain ⟨x3, hx3, h⟩ := bind_of h
    refine go_call (r := some (.int (b2i x3.1))) (σc := x1.2) (σ1 := x3.2) (mi := 185) (vs := [.ref 66, .long p0, .int (9 : Int32), .int (3 : Int32)]) (k' := 11) (L' := [some (.ref 66), some (.long p0), none]) (S' := []) 5 (fun P9 h9 => c_M_byOne (d + 0) p0 (9 : Int32) (3 : Int32) x1.2 hx3 h9) (fun n h => h) ?_
    refine go_ifz (b := x3.1) (k1 := 38) (L1 := [some (.ref 66), some (.long p0), none]) (S1 := []) (σ1 := x3.2) (k2 := 12) (L2 := [some (.ref 66), some (.long p0), none]) (S2 := []) (σ2 := x3.2) 1 (fun n h => h) (fun hc4 => ?_) (fun hc4 => ?_)
    · rw [if_neg hc4] at h
      cases h
      exact go_ret 2 (fun _ => And.intro (Or.inl rfl) hp)
    · rw [if_pos hc4] at h
      obtain ⟨x5, hx5, h⟩ := bind_of h
      refine go_call (r := some (.int (b2i x5.1))) (σc := x3.2) (σ1 := x5.2) (mi := 185) (vs := [.ref 66, .long p0, .int (25 : Int32), .int (5 : Int32)]) (k' := 17) (L' := [some (.ref 66), some (.long p0), none]) (S' := []) 5 (fun P9 h9 => c_M_byOne (d + 0) p0 (25 : Int32) (5 : Int32) x3.2 hx5 h9) (fun n h => h) ?_
      refine go_ifz (b := x5.1) (k1 := 38) (L1 := [some (.ref 66), some (.long p0), none]) (S1 := []) (σ1 := x5.2) (k2 := 18) (L2 := [some (.ref 66), some (.long p0), none]) (S2 := []) (σ2 := x5.2) 1 (fun n h => h) (fun hc6 => ?_) (fun hc6 => ?_)
      · rw [if_neg hc6] at h
        cases h
        exact go_ret 2 (fun _ => And.intro (Or.inl rfl) hp)
      · rw [if_pos hc6] at h
        obtain ⟨x7, hx7, h⟩ := bind_of h
        refine go_call (r := some (.int (b2i x7.1))) (σc := x5.2) (σ1 := x7.2) (mi := 185) (vs := [.ref 66, .long p0, .int (49 : Int32), .int (7 : Int32)]) (k' := 23) (L' := [some (.ref 66), some (.long p0), none]) (S' := []) 5 (fun P9 h9 => c_M_byOne (d + 0) p0 (49 : Int32) (7 : Int32) x5.2 hx7 h9) (fun n h => h) ?_
        refine go_ifz (b := x7.1) (k1 := 38) (L1 := [some (.ref 66), some (.long p0), none]) (S1 := []) (σ1 := x7.2) (k2 := 24) (L2 := [some (.ref 66), some (.long p0), none]) (S2 := []) (σ2 := x7.2) 1 (fun n h => h) (fun hc8 => ?_) (fun hc8 => ?_)
        · rw [if_neg hc8] at h
          cases h
          exact go_ret 2 (fun _ => And.intro (Or.inl rfl) hp)
        · rw [if_pos hc8] at h
          obtain ⟨x9, hx9, h⟩ := bind_of h
          refine go_call (r := some (.int (b2i x9.1))) (σc := x7.2) (σ1 := x9.2) (mi := 185) (vs := [.ref 66, .long p0, .int (11 : Int32), .int (11 : Int32)]) (k' := 29) (L' := [some (.ref 66), some (.long p0), none]) (S' := []) 5 (fun P9 h9 => c_M_byOne (d + 0) p0 (11 : Int32) (11 : Int32) x7.2 hx9 h9) (fun n h => h) ?_
          refine go_ifz (b := x9.1) (k1 := 38) (L1 := [some (.ref 66), some (.long p0), none]) (S1 := []) (σ1 := x9.2) (k2 := 30) (L2 := [some (.ref 66), some (.long p0), none]) (S2 := []) (σ2 := x9.2) 1 (fun n h => h) (fun hc10 => ?_) (fun hc10 => ?_)
          · rw [if_neg hc10] at h
            cases h
            exact go_ret 2 (fun _ => And.intro (Or.inl rfl) hp)
          · rw [if_pos hc10] at h
            obtain ⟨x11, hx11, h⟩ := bind_of h
            refine go_call (r := some (.int (b2i x11.1))) (σc := x9.2) (σ1 := x11.2) (mi := 185) (vs := [.ref 66, .long p0, .int (13 : Int32), .int (13 : Int32)]) (k' := 35) (L' := [some (.ref 66), some (.long p0), none]) (S' := []) 5 (fun P9 h9 => c_M_byOne (d + 0) p0 (13 : Int32) (13 : Int32) x9.2 hx11 h9) (fun n h => h) ?_
            refine go_ifz (b := x11.1) (k1 := 38) (L1 := [some (.ref 66), some (.long p0), none]) (S1 := []) (σ1 := x11.2) (k2 := 36) (L2 := [some (.ref 66), some (.long p0), none]) (S2 := []) (σ2 := x11.2) 1 (fun n h => h) (fun hc12 => ?_) (fun hc12 => ?_)
            · rw [if_neg hc12] at h
              cases h
              exact go_ret 2 (fun _ => And.intro (Or.inl rfl) hp)
            · rw [if_pos hc12] at h
              cases h
              exact go_ret 3 (fun _ => And.intro (Or.inr rfl) hp)
def f_M_isFree_l2 (N : Nat) : Nat → Int64 → Int64 → Option Bool
  | 0, _, _ => none
  | n + 1, v0, v2 => (if v0 < (v2 * v2) then some true else (if ¬ (v2 * v2) = 0 then (if (lrem v0 (v2 * v2)) ≠ (0 : Int64) then f_M_isFree_l2 N n v0 (v2 + (1 : Int64)) else some false) else none))
set_option maxRecDepth 20000 in
set_option maxHeartbeats 4000000 in
theorem t_M_isFree_l2 (d : Nat) {N : Nat} (σ : aSt) {x : Bool} {P : Option Value → aSt → Prop} (hp : P (some (.int (b2i x))) σ) : ∀ (n : Nat) (v0 : Int64) (v2 : Int64), f_M_isFree_l2 N n v0 v2 = some x → aGo (aCall MT (d + 0)) P mc_M_isFree 2 [some (.long v0), none, some (.long v2), none] [] σ := by
  intro n
  induction n with
  | zero => intro v0 v2 h; cases h
  | succ n ih =>
    intro v0 v2 h
    rw [f_M_isFree_l2] at h
    refine go_iff (lcmp_gt (v2 * v2) v0) (k1 := 23) (L1 := [some (.long v0), none, some (.long v2), none]) (S1 := []) (σ1 := σ) (k2 := 8) (L2 := [some (.long v0), none, some (.long v2), none]) (S2 := []) (σ2 := σ) 6 (fun n h => h) (fun hc1 => ?_) (fun hc1 => ?_)
    · rw [if_pos hc1] at h
      cases h
      exact go_ret 2 (fun _ => And.intro (Or.inr rfl) hp)
    · rw [if_neg hc1] at h
      obtain ⟨hc2, h⟩ := ite_of h
      refine go_q (Q := ¬ (v2 * v2) = 0) (k' := 13) (L' := [some (.long v0), none, some (.long v2), none]) (S' := [.long (lrem v0 (v2 * v2))]) (σ' := σ) 5 hc2 (fun n h => h) ?_
      refine go_iff (lcmp_ne (lrem v0 (v2 * v2)) (0 : Int64)) (k1 := 18) (L1 := [some (.long v0), none, some (.long v2), none]) (S1 := []) (σ1 := σ) (k2 := 16) (L2 := [some (.long v0), none, some (.long v2), none]) (S2 := []) (σ2 := σ) 3 (fun n h => h) (fun hc3 => ?_) (fun hc3 => ?_)
      · rw [if_pos hc3] at h
        refine go_st (k' := 2) (L' := [some (.long v0), none, some (.long (v2 + (1 : Int64))), none]) (S' := []) (σ' := σ) 5 (fun n h => h) ?_
        exact ih v0 (v2 + (1 : Int64)) h
      · rw [if_neg hc3] at h
        cases h
        exact go_ret 2 (fun _ => And.intro (Or.inl rfl) hp)
def f_M_isFree (N : Nat) (p0 : Int64) : Option Bool :=
  f_M_isFree_l2 N N p0 (2 : Int64)
set_option maxRecDepth 20000 in
set_option maxHeartbeats 4000000 in
theorem c_M_isFree (d : Nat) {N : Nat} (p0 : Int64) (σ : aSt) {P : Option Value → aSt → Prop} {x : Bool} (h : f_M_isFree N p0 = some x) (hp : P (some (.int (b2i x))) σ) : aCall MT (d + 1) 181 [.long p0] σ P := by
  unfold f_M_isFree at h
  refine call_of (code := mc_M_isFree) (L := [some (.long p0), none, none, none]) rfl rfl rfl rfl ?_
  refine go_st (k' := 2) (L' := [some (.long p0), none, some (.long (2 : Int64)), none]) (S' := []) (σ' := σ) 2 (fun n h => h) ?_
  exact t_M_isFree_l2 d σ hp N p0 (2 : Int64) h
def f_M_laysSide_l84 (N : Nat) : Nat → Int32 → aSt → Option aSt
  | 0, _, _ => none
  | n + 1, v2, σ => (if (σ.1 66 46) ≤ v2 then ((f_M_laysMade N σ).bind fun x5 => some x5) else ((f_M_seeks N v2 σ).bind fun x6 => (if 0 ≤ v2 ∧ v2 < (64 : Int32) then ((f_M_bySigns N (x6.2.1 73 v2.toNatClampNeg).toInt64 (s_b x6.2 74 v2.toNatClampNeg x6.1)).bind fun x8 => (if x8 = true then ((f_M_byRemainders N (x6.2.1 73 v2.toNatClampNeg).toInt64 (s_b x6.2 74 v2.toNatClampNeg x6.1)).bind fun x10 => (if x10.1 = true then f_M_laysSide_l84 N n (v2 + (1 : Int32)) (s_b x10.2 77 v2.toNatClampNeg true) else f_M_laysSide_l84 N n (v2 + (1 : Int32)) (s_b x10.2 77 v2.toNatClampNeg false))) else f_M_laysSide_l84 N n (v2 + (1 : Int32)) (s_b (s_b x6.2 74 v2.toNatClampNeg x6.1) 77 v2.toNatClampNeg false))) else none)))
set_option maxRecDepth 20000 in
set_option maxHeartbeats 4000000 in
theorem t_M_laysSide_l84 (d : Nat) {N : Nat} {x : aSt} {P : Option Value → aSt → Prop} (hp : P none x) : ∀ (n : Nat) (d1 : Option Value) (v2 : Int32) (σ : aSt), f_M_laysSide_l84 N n v2 σ = some x → aGo (aCall MT (d + 3)) P mc_M_laysSide 84 [some (.ref 66), d1, some (.int v2)] [] σ := by
  intro n
  induction n with
  | zero => intro d1 v2 σ h; cases h
  | succ n ih =>
    intro d1 v2 σ h
    rw [f_M_laysSide_l84] at h
    refine go_if (c := (σ.1 66 46) ≤ v2) (k1 := 120) (L1 := [some (.ref 66), d1, some (.int v2)]) (S1 := []) (σ1 := σ) (k2 := 88) (L2 := [some (.ref 66), d1, some (.int v2)]) (S2 := []) (σ2 := σ) 4 (fun n h => h) (fun hc4 => ?_) (fun hc4 => ?_)
    · rw [if_pos hc4] at h
      obtain ⟨x5, hx5, h⟩ := bind_of h
      refine go_call (r := none) (σc := σ) (σ1 := x5) (mi := 189) (vs := [.ref 66]) (k' := 122) (L' := [some (.ref 66), d1, some (.int v2)]) (S' := []) 2 (fun P9 h9 => c_M_laysMade (d + 0) σ hx5 h9) (fun n h => h) ?_
      cases h
      exact go_ret 1 (fun _ => hp)
    · rw [if_neg hc4] at h
      obtain ⟨x6, hx6, h⟩ := bind_of h
      refine go_call (r := some (.int (b2i x6.1))) (σc := σ) (σ1 := x6.2) (mi := 183) (vs := [.ref 66, .int v2]) (k' := 94) (L' := [some (.ref 66), d1, some (.int v2)]) (S' := [.int v2, .ref 74]) 6 (fun P9 h9 => c_M_seeks (d + 0) v2 σ hx6 h9) (fun n h => h) ?_
      obtain ⟨hc7, h⟩ := ite_of h
      refine go_q2 (Q := inb 3 x6.2 74 v2) (Q2 := b2i x6.1 = 0 ∨ b2i x6.1 = 1) (k' := 95) (L' := [some (.ref 66), d1, some (.int v2)]) (S' := []) (σ' := s_b x6.2 74 v2.toNatClampNeg (b2i x6.1 != 0)) 1 (inb_mk rfl hc7.1 hc7.2) (b2i_01 _) (fun n h => h) ?_
      rw [b2i_nz]
      refine go_q (Q := inb 0 (s_b x6.2 74 v2.toNatClampNeg x6.1) 73 v2) (k' := 103) (L' := [some (.ref 66), d1, some (.int v2)]) (S' := [.int (x6.2.1 73 v2.toNatClampNeg), .ref 66, .int v2, .ref 77]) (σ' := (s_b x6.2 74 v2.toNatClampNeg x6.1)) 8 (inb_mk rfl hc7.1 hc7.2) (fun n h => h) ?_
      obtain ⟨x8, hx8, h⟩ := bind_of h
      refine go_call (r := some (.int (b2i x8))) (σc := (s_b x6.2 74 v2.toNatClampNeg x6.1)) (σ1 := (s_b x6.2 74 v2.toNatClampNeg x6.1)) (mi := 184) (vs := [.ref 66, .long (x6.2.1 73 v2.toNatClampNeg).toInt64]) (k' := 105) (L' := [some (.ref 66), d1, some (.int v2)]) (S' := [.int v2, .ref 77]) 2 (fun P9 h9 => c_M_bySigns (d + 2) (x6.2.1 73 v2.toNatClampNeg).toInt64 (s_b x6.2 74 v2.toNatClampNeg x6.1) hx8 h9) (fun n h => h) ?_
      refine go_ifz (b := x8) (k1 := 116) (L1 := [some (.ref 66), d1, some (.int v2)]) (S1 := [.int v2, .ref 77]) (σ1 := (s_b x6.2 74 v2.toNatClampNeg x6.1)) (k2 := 106) (L2 := [some (.ref 66), d1, some (.int v2)]) (S2 := [.int v2, .ref 77]) (σ2 := (s_b x6.2 74 v2.toNatClampNeg x6.1)) 1 (fun n h => h) (fun hc9 => ?_) (fun hc9 => ?_)
      · rw [if_neg hc9] at h
        refine go_q2 (Q := inb 3 (s_b x6.2 74 v2.toNatClampNeg x6.1) 77 v2) (Q2 := (0 : Int32) = 0 ∨ (0 : Int32) = 1) (k' := 118) (L' := [some (.ref 66), d1, some (.int v2)]) (S' := []) (σ' := (s_b (s_b x6.2 74 v2.toNatClampNeg x6.1) 77 v2.toNatClampNeg false)) 2 (inb_mk rfl hc7.1 hc7.2) (Or.inl rfl) (fun n h => h) ?_
        refine go_st (k' := 84) (L' := [some (.ref 66), d1, some (.int (v2 + (1 : Int32)))]) (S' := []) (σ' := (s_b (s_b x6.2 74 v2.toNatClampNeg x6.1) 77 v2.toNatClampNeg false)) 2 (fun n h => h) ?_
        exact ih _ (v2 + (1 : Int32)) (s_b (s_b x6.2 74 v2.toNatClampNeg x6.1) 77 v2.toNatClampNeg false) h
      · rw [if_pos hc9] at h
        refine go_q (Q := inb 0 (s_b x6.2 74 v2.toNatClampNeg x6.1) 73 v2) (k' := 111) (L' := [some (.ref 66), d1, some (.int v2)]) (S' := [.int (x6.2.1 73 v2.toNatClampNeg), .ref 66, .int v2, .ref 77]) (σ' := (s_b x6.2 74 v2.toNatClampNeg x6.1)) 5 (inb_mk rfl hc7.1 hc7.2) (fun n h => h) ?_
        obtain ⟨x10, hx10, h⟩ := bind_of h
        refine go_call (r := some (.int (b2i x10.1))) (σc := (s_b x6.2 74 v2.toNatClampNeg x6.1)) (σ1 := x10.2) (mi := 186) (vs := [.ref 66, .long (x6.2.1 73 v2.toNatClampNeg).toInt64]) (k' := 113) (L' := [some (.ref 66), d1, some (.int v2)]) (S' := [.int v2, .ref 77]) 2 (fun P9 h9 => c_M_byRemainders (d + 0) (x6.2.1 73 v2.toNatClampNeg).toInt64 (s_b x6.2 74 v2.toNatClampNeg x6.1) hx10 h9) (fun n h => h) ?_
        refine go_ifz (b := x10.1) (k1 := 116) (L1 := [some (.ref 66), d1, some (.int v2)]) (S1 := [.int v2, .ref 77]) (σ1 := x10.2) (k2 := 114) (L2 := [some (.ref 66), d1, some (.int v2)]) (S2 := [.int v2, .ref 77]) (σ2 := x10.2) 1 (fun n h => h) (fun hc11 => ?_) (fun hc11 => ?_)
        · rw [if_neg hc11] at h
          refine go_q2 (Q := inb 3 x10.2 77 v2) (Q2 := (0 : Int32) = 0 ∨ (0 : Int32) = 1) (k' := 118) (L' := [some (.ref 66), d1, some (.int v2)]) (S' := []) (σ' := (s_b x10.2 77 v2.toNatClampNeg false)) 2 (inb_mk rfl hc7.1 hc7.2) (Or.inl rfl) (fun n h => h) ?_
          refine go_st (k' := 84) (L' := [some (.ref 66), d1, some (.int (v2 + (1 : Int32)))]) (S' := []) (σ' := (s_b x10.2 77 v2.toNatClampNeg false)) 2 (fun n h => h) ?_
          exact ih _ (v2 + (1 : Int32)) (s_b x10.2 77 v2.toNatClampNeg false) h
        · rw [if_pos hc11] at h
          refine go_q2 (Q := inb 3 x10.2 77 v2) (Q2 := (1 : Int32) = 0 ∨ (1 : Int32) = 1) (k' := 118) (L' := [some (.ref 66), d1, some (.int v2)]) (S' := []) (σ' := (s_b x10.2 77 v2.toNatClampNeg true)) 3 (inb_mk rfl hc7.1 hc7.2) (Or.inr rfl) (fun n h => h) ?_
          refine go_st (k' := 84) (L' := [some (.ref 66), d1, some (.int (v2 + (1 : Int32)))]) (S' := []) (σ' := (s_b x10.2 77 v2.toNatClampNeg true)) 2 (fun n h => h) ?_
          exact ih _ (v2 + (1 : Int32)) (s_b x10.2 77 v2.toNatClampNeg true) h
def f_M_laysSide_l39 (N : Nat) : Nat → Int32 → aSt → Option aSt
  | 0, _, _ => none
  | n + 1, v2, σ => (if (labs (σ.2.1 66 39)) < v2.toInt64 then f_M_laysSide_l84 N N (0 : Int32) σ else (if ¬ v2.toInt64 = 0 then (if (lrem (σ.2.1 66 39) v2.toInt64) ≠ (0 : Int64) then f_M_laysSide_l39 N n (v2 + (1 : Int32)) σ else ((f_M_isFree N v2.toInt64).bind fun x14 => (if x14 = true then (if 0 ≤ (σ.1 66 46) ∧ (σ.1 66 46) < (64 : Int32) then (if 0 ≤ ((σ.1 66 46) + (1 : Int32)) ∧ ((σ.1 66 46) + (1 : Int32)) < (64 : Int32) then f_M_laysSide_l39 N n (v2 + (1 : Int32)) (s_i (s_i (s_i σ 73 (σ.1 66 46).toNatClampNeg v2) 73 ((σ.1 66 46) + (1 : Int32)).toNatClampNeg (-v2)) 66 46 ((σ.1 66 46) + (2 : Int32))) else none) else none) else f_M_laysSide_l39 N n (v2 + (1 : Int32)) σ))) else none))
set_option maxRecDepth 20000 in
set_option maxHeartbeats 4000000 in
theorem t_M_laysSide_l39 (d : Nat) {N : Nat} {x : aSt} {P : Option Value → aSt → Prop} (hp : P none x) : ∀ (n : Nat) (d1 : Option Value) (v2 : Int32) (σ : aSt), f_M_laysSide_l39 N n v2 σ = some x → aGo (aCall MT (d + 3)) P mc_M_laysSide 39 [some (.ref 66), d1, some (.int v2)] [] σ := by
  intro n
  induction n with
  | zero => intro d1 v2 σ h; cases h
  | succ n ih =>
    intro d1 v2 σ h
    rw [f_M_laysSide_l39] at h
    refine go_iff (lcmp_gt v2.toInt64 (labs (σ.2.1 66 39))) (k1 := 82) (L1 := [some (.ref 66), d1, some (.int v2)]) (S1 := []) (σ1 := σ) (k2 := 46) (L2 := [some (.ref 66), d1, some (.int v2)]) (S2 := []) (σ2 := σ) 7 (fun n h => h) (fun hc3 => ?_) (fun hc3 => ?_)
    · rw [if_pos hc3] at h
      refine go_st (k' := 84) (L' := [some (.ref 66), none, some (.int (0 : Int32))]) (S' := []) (σ' := σ) 2 (fun n h => h) ?_
      exact t_M_laysSide_l84 d hp N _ (0 : Int32) σ h
    · rw [if_neg hc3] at h
      obtain ⟨hc12, h⟩ := ite_of h
      refine go_q (Q := ¬ v2.toInt64 = 0) (k' := 51) (L' := [some (.ref 66), d1, some (.int v2)]) (S' := [.long (lrem (σ.2.1 66 39) v2.toInt64)]) (σ' := σ) 5 hc12 (fun n h => h) ?_
      refine go_iff (lcmp_ne (lrem (σ.2.1 66 39) v2.toInt64) (0 : Int64)) (k1 := 80) (L1 := [some (.ref 66), d1, some (.int v2)]) (S1 := []) (σ1 := σ) (k2 := 54) (L2 := [some (.ref 66), d1, some (.int v2)]) (S2 := []) (σ2 := σ) 3 (fun n h => h) (fun hc13 => ?_) (fun hc13 => ?_)
      · rw [if_pos hc13] at h
        refine go_st (k' := 39) (L' := [some (.ref 66), d1, some (.int (v2 + (1 : Int32)))]) (S' := []) (σ' := σ) 2 (fun n h => h) ?_
        exact ih _ (v2 + (1 : Int32)) σ h
      · rw [if_neg hc13] at h
        obtain ⟨x14, hx14, h⟩ := bind_of h
        refine go_call (r := some (.int (b2i x14))) (σc := σ) (σ1 := σ) (mi := 181) (vs := [.long v2.toInt64]) (k' := 57) (L' := [some (.ref 66), d1, some (.int v2)]) (S' := []) 3 (fun P9 h9 => c_M_isFree (d + 2) v2.toInt64 σ hx14 h9) (fun n h => h) ?_
        refine go_ifn (b := x14) (k1 := 59) (L1 := [some (.ref 66), d1, some (.int v2)]) (S1 := []) (σ1 := σ) (k2 := 58) (L2 := [some (.ref 66), d1, some (.int v2)]) (S2 := []) (σ2 := σ) 1 (fun n h => h) (fun hc15 => ?_) (fun hc15 => ?_)
        · rw [if_pos hc15] at h
          obtain ⟨hc16, h⟩ := ite_of h
          refine go_q (Q := inb 0 σ 73 (σ.1 66 46)) (k' := 65) (L' := [some (.ref 66), d1, some (.int v2)]) (S' := []) (σ' := (s_i σ 73 (σ.1 66 46).toNatClampNeg v2)) 6 (inb_mk rfl hc16.1 hc16.2) (fun n h => h) ?_
          obtain ⟨hc17, h⟩ := ite_of h
          refine go_q (Q := inb 0 (s_i σ 73 (σ.1 66 46).toNatClampNeg v2) 73 ((σ.1 66 46) + (1 : Int32))) (k' := 74) (L' := [some (.ref 66), d1, some (.int v2)]) (S' := []) (σ' := (s_i (s_i σ 73 (σ.1 66 46).toNatClampNeg v2) 73 ((σ.1 66 46) + (1 : Int32)).toNatClampNeg (-v2))) 9 (inb_mk rfl hc17.1 hc17.2) (fun n h => h) ?_
          refine go_st (k' := 39) (L' := [some (.ref 66), d1, some (.int (v2 + (1 : Int32)))]) (S' := []) (σ' := (s_i (s_i (s_i σ 73 (σ.1 66 46).toNatClampNeg v2) 73 ((σ.1 66 46) + (1 : Int32)).toNatClampNeg (-v2)) 66 46 ((σ.1 66 46) + (2 : Int32)))) 8 (fun n h => h) ?_
          exact ih _ (v2 + (1 : Int32)) (s_i (s_i (s_i σ 73 (σ.1 66 46).toNatClampNeg v2) 73 ((σ.1 66 46) + (1 : Int32)).toNatClampNeg (-v2)) 66 46 ((σ.1 66 46) + (2 : Int32))) h
        · rw [if_neg hc15] at h
          refine go_st (k' := 39) (L' := [some (.ref 66), d1, some (.int (v2 + (1 : Int32)))]) (S' := []) (σ' := σ) 3 (fun n h => h) ?_
          exact ih _ (v2 + (1 : Int32)) σ h
def f_M_laysSide_b33 (N : Nat) (s1 : Int64) (σ : aSt) : Option aSt :=
  f_M_laysSide_l39 N N (1 : Int32) (s_i (s_l σ 66 39 s1) 66 46 (0 : Int32))
set_option maxRecDepth 20000 in
set_option maxHeartbeats 4000000 in
theorem t_M_laysSide_b33 (d : Nat) {N : Nat} (d1 d2 : Option Value) (s1 : Int64) (σ : aSt) {P : Option Value → aSt → Prop} {x : aSt} (h : f_M_laysSide_b33 N s1 σ = some x) (hp : P none x) : aGo (aCall MT (d + 3)) P mc_M_laysSide 33 [some (.ref 66), d1, d2] [.long s1, .ref 66] σ := by
  unfold f_M_laysSide_b33 at h
  refine go_st (k' := 39) (L' := [some (.ref 66), none, some (.int (1 : Int32))]) (S' := []) (σ' := (s_i (s_l σ 66 39 s1) 66 46 (0 : Int32))) 6 (fun n h => h) ?_
  exact t_M_laysSide_l39 d hp N _ (1 : Int32) (s_i (s_l σ 66 39 s1) 66 46 (0 : Int32)) h
def f_M_laysSide_b12 (N : Nat) (v1 : Int32) (s1 : Int64) (σ : aSt) : Option aSt :=
  (if v1 ≠ 0 then f_M_laysSide_b33 N (((σ.1 66 2).toInt64 * (σ.1 66 2).toInt64) - ((4 : Int64) * (σ.1 66 3).toInt64)) (s_l σ 66 38 s1) else f_M_laysSide_b33 N (σ.1 66 3).toInt64 (s_l σ 66 38 s1))
set_option maxRecDepth 20000 in
set_option maxHeartbeats 4000000 in
theorem t_M_laysSide_b12 (d : Nat) {N : Nat} (d2 : Option Value) (v1 : Int32) (s1 : Int64) (σ : aSt) {P : Option Value → aSt → Prop} {x : aSt} (h : f_M_laysSide_b12 N v1 s1 σ = some x) (hp : P none x) : aGo (aCall MT (d + 3)) P mc_M_laysSide 12 [some (.ref 66), some (.int v1), d2] [.long s1, .ref 66] σ := by
  unfold f_M_laysSide_b12 at h
  refine go_if (c := v1 ≠ 0) (k1 := 20) (L1 := [some (.ref 66), some (.int v1), d2]) (S1 := [.ref 66]) (σ1 := (s_l σ 66 38 s1)) (k2 := 16) (L2 := [some (.ref 66), some (.int v1), d2]) (S2 := [.ref 66]) (σ2 := (s_l σ 66 38 s1)) 4 (fun n h => h) (fun hc2 => ?_) (fun hc2 => ?_)
  · rw [if_pos hc2] at h
    refine go_st (k' := 33) (L' := [some (.ref 66), some (.int v1), d2]) (S' := [.long (((σ.1 66 2).toInt64 * (σ.1 66 2).toInt64) - ((4 : Int64) * (σ.1 66 3).toInt64)), .ref 66]) (σ' := (s_l σ 66 38 s1)) 13 (fun n h => h) ?_
    exact t_M_laysSide_b33 d _ _ (((σ.1 66 2).toInt64 * (σ.1 66 2).toInt64) - ((4 : Int64) * (σ.1 66 3).toInt64)) (s_l σ 66 38 s1) h hp
  · rw [if_neg hc2] at h
    refine go_st (k' := 33) (L' := [some (.ref 66), some (.int v1), d2]) (S' := [.long (σ.1 66 3).toInt64, .ref 66]) (σ' := (s_l σ 66 38 s1)) 4 (fun n h => h) ?_
    exact t_M_laysSide_b33 d _ _ (σ.1 66 3).toInt64 (s_l σ 66 38 s1) h hp
def f_M_laysSide (N : Nat) (p0 : Int32) (σ : aSt) : Option aSt :=
  (if p0 ≠ 0 then f_M_laysSide_b12 N p0 ((-2 : Int64) * (σ.1 66 2).toInt64) σ else f_M_laysSide_b12 N p0 (σ.1 66 2).toInt64 σ)
set_option maxRecDepth 20000 in
set_option maxHeartbeats 4000000 in
theorem c_M_laysSide (d : Nat) {N : Nat} (p0 : Int32) (σ : aSt) {P : Option Value → aSt → Prop} {x : aSt} (h : f_M_laysSide N p0 σ = some x) (hp : P none x) : aCall MT (d + 4) 190 [.ref 66, .int p0] σ P := by
  unfold f_M_laysSide at h
  refine call_of (code := mc_M_laysSide) (L := [some (.ref 66), some (.int p0), none]) rfl rfl rfl rfl ?_
  refine go_if (c := p0 ≠ 0) (k1 := 7) (L1 := [some (.ref 66), some (.int p0), none]) (S1 := [.ref 66]) (σ1 := σ) (k2 := 3) (L2 := [some (.ref 66), some (.int p0), none]) (S2 := [.ref 66]) (σ2 := σ) 3 (fun n h => h) (fun hc1 => ?_) (fun hc1 => ?_)
  · rw [if_pos hc1] at h
    refine go_st (k' := 12) (L' := [some (.ref 66), some (.int p0), none]) (S' := [.long ((-2 : Int64) * (σ.1 66 2).toInt64), .ref 66]) (σ' := σ) 5 (fun n h => h) ?_
    exact t_M_laysSide_b12 d _ p0 ((-2 : Int64) * (σ.1 66 2).toInt64) σ h hp
  · rw [if_neg hc1] at h
    refine go_st (k' := 12) (L' := [some (.ref 66), some (.int p0), none]) (S' := [.long (σ.1 66 2).toInt64, .ref 66]) (σ' := σ) 4 (fun n h => h) ?_
    exact t_M_laysSide_b12 d _ p0 (σ.1 66 2).toInt64 σ h hp
def f_M_manyOfKind_l4 (N : Nat) (σ : aSt) : Nat → Int32 → Int32 → Int32 → Option Int32
  | 0, _, _, _ => none
  | n + 1, v1, v2, v3 => (if (σ.1 66 46) ≤ v3 then some v2 else (if v1 = 0 then f_M_manyOfKind_l4 N σ n v1 (v2 + (1 : Int32)) (v3 + (1 : Int32)) else (if v1 ≠ (1 : Int32) then (if v1 ≠ (2 : Int32) then (if v1 ≠ (3 : Int32) then f_M_manyOfKind_l4 N σ n v1 (v2 + (0 : Int32)) (v3 + (1 : Int32)) else (if 0 ≤ v3 ∧ v3 < (64 : Int32) then (if (σ.2.2 78 v3.toNatClampNeg) = true then f_M_manyOfKind_l4 N σ n v1 (v2 + (1 : Int32)) (v3 + (1 : Int32)) else f_M_manyOfKind_l4 N σ n v1 (v2 + (0 : Int32)) (v3 + (1 : Int32))) else none)) else (if 0 ≤ v3 ∧ v3 < (64 : Int32) then (if (σ.2.2 77 v3.toNatClampNeg) = true then f_M_manyOfKind_l4 N σ n v1 (v2 + (1 : Int32)) (v3 + (1 : Int32)) else (if v1 ≠ (3 : Int32) then f_M_manyOfKind_l4 N σ n v1 (v2 + (0 : Int32)) (v3 + (1 : Int32)) else (if (σ.2.2 78 v3.toNatClampNeg) = true then f_M_manyOfKind_l4 N σ n v1 (v2 + (1 : Int32)) (v3 + (1 : Int32)) else f_M_manyOfKind_l4 N σ n v1 (v2 + (0 : Int32)) (v3 + (1 : Int32))))) else none)) else (if 0 ≤ v3 ∧ v3 < (64 : Int32) then (if (σ.2.2 74 v3.toNatClampNeg) = true then f_M_manyOfKind_l4 N σ n v1 (v2 + (1 : Int32)) (v3 + (1 : Int32)) else (if v1 ≠ (2 : Int32) then (if v1 ≠ (3 : Int32) then f_M_manyOfKind_l4 N σ n v1 (v2 + (0 : Int32)) (v3 + (1 : Int32)) else (if (σ.2.2 78 v3.toNatClampNeg) = true then f_M_manyOfKind_l4 N σ n v1 (v2 + (1 : Int32)) (v3 + (1 : Int32)) else f_M_manyOfKind_l4 N σ n v1 (v2 + (0 : Int32)) (v3 + (1 : Int32)))) else (if (σ.2.2 77 v3.toNatClampNeg) = true then f_M_manyOfKind_l4 N σ n v1 (v2 + (1 : Int32)) (v3 + (1 : Int32)) else (if v1 ≠ (3 : Int32) then f_M_manyOfKind_l4 N σ n v1 (v2 + (0 : Int32)) (v3 + (1 : Int32)) else (if (σ.2.2 78 v3.toNatClampNeg) = true then f_M_manyOfKind_l4 N σ n v1 (v2 + (1 : Int32)) (v3 + (1 : Int32)) else f_M_manyOfKind_l4 N σ n v1 (v2 + (0 : Int32)) (v3 + (1 : Int32))))))) else none))))
set_option maxRecDepth 20000 in
set_option maxHeartbeats 4000000 in
theorem t_M_manyOfKind_l4 (d : Nat) {N : Nat} (σ : aSt) {x : Int32} {P : Option Value → aSt → Prop} (hp : P (some (.int x)) σ) : ∀ (n : Nat) (v1 : Int32) (v2 : Int32) (v3 : Int32), f_M_manyOfKind_l4 N σ n v1 v2 v3 = some x → aGo (aCall MT (d + 0)) P mc_M_manyOfKind 4 [some (.ref 66), some (.int v1), some (.int v2), some (.int v3)] [] σ := by
  intro n
  induction n with
  | zero => intro v1 v2 v3 h; cases h
  | succ n ih =>
    intro v1 v2 v3 h
    rw [f_M_manyOfKind_l4] at h
    refine go_if (c := (σ.1 66 46) ≤ v3) (k1 := 42) (L1 := [some (.ref 66), some (.int v1), some (.int v2), some (.int v3)]) (S1 := []) (σ1 := σ) (k2 := 8) (L2 := [some (.ref 66), some (.int v1), some (.int v2), some (.int v3)]) (S2 := []) (σ2 := σ) 4 (fun n h => h) (fun hc1 => ?_) (fun hc1 => ?_)
    · rw [if_pos hc1] at h
      cases h
      exact go_ret 2 (fun _ => hp)
    · rw [if_neg hc1] at h
      refine go_if (c := v1 = 0) (k1 := 35) (L1 := [some (.ref 66), some (.int v1), some (.int v2), some (.int v3)]) (S1 := [.int v2]) (σ1 := σ) (k2 := 11) (L2 := [some (.ref 66), some (.int v1), some (.int v2), some (.int v3)]) (S2 := [.int v2]) (σ2 := σ) 3 (fun n h => h) (fun hc2 => ?_) (fun hc2 => ?_)
      · rw [if_pos hc2] at h
        refine go_st (k' := 4) (L' := [some (.ref 66), some (.int v1), some (.int (v2 + (1 : Int32))), some (.int (v3 + (1 : Int32)))]) (S' := []) (σ' := σ) 6 (fun n h => h) ?_
        exact ih v1 (v2 + (1 : Int32)) (v3 + (1 : Int32)) h
      · rw [if_neg hc2] at h
        refine go_if (c := v1 ≠ (1 : Int32)) (k1 := 19) (L1 := [some (.ref 66), some (.int v1), some (.int v2), some (.int v3)]) (S1 := [.int v2]) (σ1 := σ) (k2 := 14) (L2 := [some (.ref 66), some (.int v1), some (.int v2), some (.int v3)]) (S2 := [.int v2]) (σ2 := σ) 3 (fun n h => h) (fun hc3 => ?_) (fun hc3 => ?_)
        · rw [if_pos hc3] at h
          refine go_if (c := v1 ≠ (2 : Int32)) (k1 := 27) (L1 := [some (.ref 66), some (.int v1), some (.int v2), some (.int v3)]) (S1 := [.int v2]) (σ1 := σ) (k2 := 22) (L2 := [some (.ref 66), some (.int v1), some (.int v2), some (.int v3)]) (S2 := [.int v2]) (σ2 := σ) 3 (fun n h => h) (fun hc4 => ?_) (fun hc4 => ?_)
          · rw [if_pos hc4] at h
            refine go_if (c := v1 ≠ (3 : Int32)) (k1 := 37) (L1 := [some (.ref 66), some (.int v1), some (.int v2), some (.int v3)]) (S1 := [.int v2]) (σ1 := σ) (k2 := 30) (L2 := [some (.ref 66), some (.int v1), some (.int v2), some (.int v3)]) (S2 := [.int v2]) (σ2 := σ) 3 (fun n h => h) (fun hc5 => ?_) (fun hc5 => ?_)
            · rw [if_pos hc5] at h
              refine go_st (k' := 4) (L' := [some (.ref 66), some (.int v1), some (.int (v2 + (0 : Int32))), some (.int (v3 + (1 : Int32)))]) (S' := []) (σ' := σ) 5 (fun n h => h) ?_
              exact ih v1 (v2 + (0 : Int32)) (v3 + (1 : Int32)) h
            · rw [if_neg hc5] at h
              obtain ⟨hc6, h⟩ := ite_of h
              refine go_q (Q := inb 3 σ 78 v3) (k' := 34) (L' := [some (.ref 66), some (.int v1), some (.int v2), some (.int v3)]) (S' := [.int (b2i (σ.2.2 78 v3.toNatClampNeg)), .int v2]) (σ' := σ) 4 (inb_mk rfl hc6.1 hc6.2) (fun n h => h) ?_
              refine go_ifz (b := (σ.2.2 78 v3.toNatClampNeg)) (k1 := 37) (L1 := [some (.ref 66), some (.int v1), some (.int v2), some (.int v3)]) (S1 := [.int v2]) (σ1 := σ) (k2 := 35) (L2 := [some (.ref 66), some (.int v1), some (.int v2), some (.int v3)]) (S2 := [.int v2]) (σ2 := σ) 1 (fun n h => h) (fun hc7 => ?_) (fun hc7 => ?_)
              · rw [if_neg hc7] at h
                refine go_st (k' := 4) (L' := [some (.ref 66), some (.int v1), some (.int (v2 + (0 : Int32))), some (.int (v3 + (1 : Int32)))]) (S' := []) (σ' := σ) 5 (fun n h => h) ?_
                exact ih v1 (v2 + (0 : Int32)) (v3 + (1 : Int32)) h
              · rw [if_pos hc7] at h
                refine go_st (k' := 4) (L' := [some (.ref 66), some (.int v1), some (.int (v2 + (1 : Int32))), some (.int (v3 + (1 : Int32)))]) (S' := []) (σ' := σ) 6 (fun n h => h) ?_
                exact ih v1 (v2 + (1 : Int32)) (v3 + (1 : Int32)) h
          · rw [if_neg hc4] at h
            obtain ⟨hc8, h⟩ := ite_of h
            refine go_q (Q := inb 3 σ 77 v3) (k' := 26) (L' := [some (.ref 66), some (.int v1), some (.int v2), some (.int v3)]) (S' := [.int (b2i (σ.2.2 77 v3.toNatClampNeg)), .int v2]) (σ' := σ) 4 (inb_mk rfl hc8.1 hc8.2) (fun n h => h) ?_
            refine go_ifn (b := (σ.2.2 77 v3.toNatClampNeg)) (k1 := 35) (L1 := [some (.ref 66), some (.int v1), some (.int v2), some (.int v3)]) (S1 := [.int v2]) (σ1 := σ) (k2 := 27) (L2 := [some (.ref 66), some (.int v1), some (.int v2), some (.int v3)]) (S2 := [.int v2]) (σ2 := σ) 1 (fun n h => h) (fun hc9 => ?_) (fun hc9 => ?_)
            · rw [if_pos hc9] at h
              refine go_st (k' := 4) (L' := [some (.ref 66), some (.int v1), some (.int (v2 + (1 : Int32))), some (.int (v3 + (1 : Int32)))]) (S' := []) (σ' := σ) 6 (fun n h => h) ?_
              exact ih v1 (v2 + (1 : Int32)) (v3 + (1 : Int32)) h
            · rw [if_neg hc9] at h
              refine go_if (c := v1 ≠ (3 : Int32)) (k1 := 37) (L1 := [some (.ref 66), some (.int v1), some (.int v2), some (.int v3)]) (S1 := [.int v2]) (σ1 := σ) (k2 := 30) (L2 := [some (.ref 66), some (.int v1), some (.int v2), some (.int v3)]) (S2 := [.int v2]) (σ2 := σ) 3 (fun n h => h) (fun hc10 => ?_) (fun hc10 => ?_)
              · rw [if_pos hc10] at h
                refine go_st (k' := 4) (L' := [some (.ref 66), some (.int v1), some (.int (v2 + (0 : Int32))), some (.int (v3 + (1 : Int32)))]) (S' := []) (σ' := σ) 5 (fun n h => h) ?_
                exact ih v1 (v2 + (0 : Int32)) (v3 + (1 : Int32)) h
              · rw [if_neg hc10] at h
                refine go_q (Q := inb 3 σ 78 v3) (k' := 34) (L' := [some (.ref 66), some (.int v1), some (.int v2), some (.int v3)]) (S' := [.int (b2i (σ.2.2 78 v3.toNatClampNeg)), .int v2]) (σ' := σ) 4 (inb_mk rfl hc8.1 hc8.2) (fun n h => h) ?_
                refine go_ifz (b := (σ.2.2 78 v3.toNatClampNeg)) (k1 := 37) (L1 := [some (.ref 66), some (.int v1), some (.int v2), some (.int v3)]) (S1 := [.int v2]) (σ1 := σ) (k2 := 35) (L2 := [some (.ref 66), some (.int v1), some (.int v2), some (.int v3)]) (S2 := [.int v2]) (σ2 := σ) 1 (fun n h => h) (fun hc11 => ?_) (fun hc11 => ?_)
                · rw [if_neg hc11] at h
                  refine go_st (k' := 4) (L' := [some (.ref 66), some (.int v1), some (.int (v2 + (0 : Int32))), some (.int (v3 + (1 : Int32)))]) (S' := []) (σ' := σ) 5 (fun n h => h) ?_
                  exact ih v1 (v2 + (0 : Int32)) (v3 + (1 : Int32)) h
                · rw [if_pos hc11] at h
                  refine go_st (k' := 4) (L' := [some (.ref 66), some (.int v1), some (.int (v2 + (1 : Int32))), some (.int (v3 + (1 : Int32)))]) (S' := []) (σ' := σ) 6 (fun n h => h) ?_
                  exact ih v1 (v2 + (1 : Int32)) (v3 + (1 : Int32)) h
        · rw [if_neg hc3] at h
          obtain ⟨hc12, h⟩ := ite_of h
          refine go_q (Q := inb 3 σ 74 v3) (k' := 18) (L' := [some (.ref 66), some (.int v1), some (.int v2), some (.int v3)]) (S' := [.int (b2i (σ.2.2 74 v3.toNatClampNeg)), .int v2]) (σ' := σ) 4 (inb_mk rfl hc12.1 hc12.2) (fun n h => h) ?_
          refine go_ifn (b := (σ.2.2 74 v3.toNatClampNeg)) (k1 := 35) (L1 := [some (.ref 66), some (.int v1), some (.int v2), some (.int v3)]) (S1 := [.int v2]) (σ1 := σ) (k2 := 19) (L2 := [some (.ref 66), some (.int v1), some (.int v2), some (.int v3)]) (S2 := [.int v2]) (σ2 := σ) 1 (fun n h => h) (fun hc13 => ?_) (fun hc13 => ?_)
          · rw [if_pos hc13] at h
            refine go_st (k' := 4) (L' := [some (.ref 66), some (.int v1), some (.int (v2 + (1 : Int32))), some (.int (v3 + (1 : Int32)))]) (S' := []) (σ' := σ) 6 (fun n h => h) ?_
            exact ih v1 (v2 + (1 : Int32)) (v3 + (1 : Int32)) h
          · rw [if_neg hc13] at h
            refine go_if (c := v1 ≠ (2 : Int32)) (k1 := 27) (L1 := [some (.ref 66), some (.int v1), some (.int v2), some (.int v3)]) (S1 := [.int v2]) (σ1 := σ) (k2 := 22) (L2 := [some (.ref 66), some (.int v1), some (.int v2), some (.int v3)]) (S2 := [.int v2]) (σ2 := σ) 3 (fun n h => h) (fun hc14 => ?_) (fun hc14 => ?_)
            · rw [if_pos hc14] at h
              refine go_if (c := v1 ≠ (3 : Int32)) (k1 := 37) (L1 := [some (.ref 66), some (.int v1), some (.int v2), some (.int v3)]) (S1 := [.int v2]) (σ1 := σ) (k2 := 30) (L2 := [some (.ref 66), some (.int v1), some (.int v2), some (.int v3)]) (S2 := [.int v2]) (σ2 := σ) 3 (fun n h => h) (fun hc15 => ?_) (fun hc15 => ?_)
              · rw [if_pos hc15] at h
                refine go_st (k' := 4) (L' := [some (.ref 66), some (.int v1), some (.int (v2 + (0 : Int32))), some (.int (v3 + (1 : Int32)))]) (S' := []) (σ' := σ) 5 (fun n h => h) ?_
                exact ih v1 (v2 + (0 : Int32)) (v3 + (1 : Int32)) h
              · rw [if_neg hc15] at h
                refine go_q (Q := inb 3 σ 78 v3) (k' := 34) (L' := [some (.ref 66), some (.int v1), some (.int v2), some (.int v3)]) (S' := [.int (b2i (σ.2.2 78 v3.toNatClampNeg)), .int v2]) (σ' := σ) 4 (inb_mk rfl hc12.1 hc12.2) (fun n h => h) ?_
                refine go_ifz (b := (σ.2.2 78 v3.toNatClampNeg)) (k1 := 37) (L1 := [some (.ref 66), some (.int v1), some (.int v2), some (.int v3)]) (S1 := [.int v2]) (σ1 := σ) (k2 := 35) (L2 := [some (.ref 66), some (.int v1), some (.int v2), some (.int v3)]) (S2 := [.int v2]) (σ2 := σ) 1 (fun n h => h) (fun hc16 => ?_) (fun hc16 => ?_)
                · rw [if_neg hc16] at h
                  refine go_st (k' := 4) (L' := [some (.ref 66), some (.int v1), some (.int (v2 + (0 : Int32))), some (.int (v3 + (1 : Int32)))]) (S' := []) (σ' := σ) 5 (fun n h => h) ?_
                  exact ih v1 (v2 + (0 : Int32)) (v3 + (1 : Int32)) h
                · rw [if_pos hc16] at h
                  refine go_st (k' := 4) (L' := [some (.ref 66), some (.int v1), some (.int (v2 + (1 : Int32))), some (.int (v3 + (1 : Int32)))]) (S' := []) (σ' := σ) 6 (fun n h => h) ?_
                  exact ih v1 (v2 + (1 : Int32)) (v3 + (1 : Int32)) h
            · rw [if_neg hc14] at h
              refine go_q (Q := inb 3 σ 77 v3) (k' := 26) (L' := [some (.ref 66), some (.int v1), some (.int v2), some (.int v3)]) (S' := [.int (b2i (σ.2.2 77 v3.toNatClampNeg)), .int v2]) (σ' := σ) 4 (inb_mk rfl hc12.1 hc12.2) (fun n h => h) ?_
              refine go_ifn (b := (σ.2.2 77 v3.toNatClampNeg)) (k1 := 35) (L1 := [some (.ref 66), some (.int v1), some (.int v2), some (.int v3)]) (S1 := [.int v2]) (σ1 := σ) (k2 := 27) (L2 := [some (.ref 66), some (.int v1), some (.int v2), some (.int v3)]) (S2 := [.int v2]) (σ2 := σ) 1 (fun n h => h) (fun hc17 => ?_) (fun hc17 => ?_)
              · rw [if_pos hc17] at h
                refine go_st (k' := 4) (L' := [some (.ref 66), some (.int v1), some (.int (v2 + (1 : Int32))), some (.int (v3 + (1 : Int32)))]) (S' := []) (σ' := σ) 6 (fun n h => h) ?_
                exact ih v1 (v2 + (1 : Int32)) (v3 + (1 : Int32)) h
              · rw [if_neg hc17] at h
                refine go_if (c := v1 ≠ (3 : Int32)) (k1 := 37) (L1 := [some (.ref 66), some (.int v1), some (.int v2), some (.int v3)]) (S1 := [.int v2]) (σ1 := σ) (k2 := 30) (L2 := [some (.ref 66), some (.int v1), some (.int v2), some (.int v3)]) (S2 := [.int v2]) (σ2 := σ) 3 (fun n h => h) (fun hc18 => ?_) (fun hc18 => ?_)
                · rw [if_pos hc18] at h
                  refine go_st (k' := 4) (L' := [some (.ref 66), some (.int v1), some (.int (v2 + (0 : Int32))), some (.int (v3 + (1 : Int32)))]) (S' := []) (σ' := σ) 5 (fun n h => h) ?_
                  exact ih v1 (v2 + (0 : Int32)) (v3 + (1 : Int32)) h
                · rw [if_neg hc18] at h
                  refine go_q (Q := inb 3 σ 78 v3) (k' := 34) (L' := [some (.ref 66), some (.int v1), some (.int v2), some (.int v3)]) (S' := [.int (b2i (σ.2.2 78 v3.toNatClampNeg)), .int v2]) (σ' := σ) 4 (inb_mk rfl hc12.1 hc12.2) (fun n h => h) ?_
                  refine go_ifz (b := (σ.2.2 78 v3.toNatClampNeg)) (k1 := 37) (L1 := [some (.ref 66), some (.int v1), some (.int v2), some (.int v3)]) (S1 := [.int v2]) (σ1 := σ) (k2 := 35) (L2 := [some (.ref 66), some (.int v1), some (.int v2), some (.int v3)]) (S2 := [.int v2]) (σ2 := σ) 1 (fun n h => h) (fun hc19 => ?_) (fun hc19 => ?_)
                  · rw [if_neg hc19] at h
                    refine go_st (k' := 4) (L' := [some (.ref 66), some (.int v1), some (.int (v2 + (0 : Int32))), some (.int (v3 + (1 : Int32)))]) (S' := []) (σ' := σ) 5 (fun n h => h) ?_
                    exact ih v1 (v2 + (0 : Int32)) (v3 + (1 : Int32)) h
                  · rw [if_pos hc19] at h
                    refine go_st (k' := 4) (L' := [some (.ref 66), some (.int v1), some (.int (v2 + (1 : Int32))), some (.int (v3 + (1 : Int32)))]) (S' := []) (σ' := σ) 6 (fun n h => h) ?_
                    exact ih v1 (v2 + (1 : Int32)) (v3 + (1 : Int32)) h
def f_M_manyOfKind (N : Nat) (p0 : Int32) (σ : aSt) : Option Int32 :=
  f_M_manyOfKind_l4 N σ N p0 (0 : Int32) (0 : Int32)
set_option maxRecDepth 20000 in
set_option maxHeartbeats 4000000 in
theorem c_M_manyOfKind (d : Nat) {N : Nat} (p0 : Int32) (σ : aSt) {P : Option Value → aSt → Prop} {x : Int32} (h : f_M_manyOfKind N p0 σ = some x) (hp : P (some (.int x)) σ) : aCall MT (d + 1) 191 [.ref 66, .int p0] σ P := by
  unfold f_M_manyOfKind at h
  refine call_of (code := mc_M_manyOfKind) (L := [some (.ref 66), some (.int p0), none, none]) rfl rfl rfl rfl ?_
  refine go_st (k' := 4) (L' := [some (.ref 66), some (.int p0), some (.int (0 : Int32)), some (.int (0 : Int32))]) (S' := []) (σ' := σ) 4 (fun n h => h) ?_
  exact t_M_manyOfKind_l4 d σ hp N p0 (0 : Int32) (0 : Int32) h
def f_M_classes (N : Nat) (p0 : Int32) (p1 : Int32) (σ : aSt) : Option (Int32 × aSt) :=
  (if (σ.2.2 66 1) = true then (if (f_M_in p0.toInt64 (0 : Int64) (1 : Int64)) = true then (if (f_M_in p1.toInt64 (0 : Int64) (3 : Int64)) = true then ((f_M_laysSide N p0 σ).bind fun x4 => ((f_M_manyOfKind N p1 x4).bind fun x5 => some (x5, x4))) else some ((-2 : Int32), σ)) else some ((-2 : Int32), σ)) else some ((-2 : Int32), σ))
set_option maxRecDepth 20000 in
set_option maxHeartbeats 4000000 in
theorem c_M_classes (d : Nat) {N : Nat} (p0 : Int32) (p1 : Int32) (σ : aSt) {P : Option Value → aSt → Prop} {x : (Int32 × aSt)} (h : f_M_classes N p0 p1 σ = some x) (hp : P (some (.int x.1)) x.2) : aCall MT (d + 5) 192 [.ref 66, .int p0, .int p1] σ P := by
  unfold f_M_classes at h
  refine call_of (code := mc_M_classes) (L := [some (.ref 66), some (.int p0), some (.int p1)]) rfl rfl rfl rfl ?_
  refine go_ifz (b := (σ.2.2 66 1)) (k1 := 15) (L1 := [some (.ref 66), some (.int p0), some (.int p1)]) (S1 := []) (σ1 := σ) (k2 := 3) (L2 := [some (.ref 66), some (.int p0), some (.int p1)]) (S2 := []) (σ2 := σ) 3 (fun n h => h) (fun hc1 => ?_) (fun hc1 => ?_)
  · rw [if_neg hc1] at h
    cases h
    exact go_ret 2 (fun _ => hp)
  · rw [if_pos hc1] at h
    refine go_call (r := some (.int (b2i (f_M_in p0.toInt64 (0 : Int64) (1 : Int64))))) (σc := σ) (σ1 := σ) (mi := 7) (vs := [.long p0.toInt64, .long (0 : Int64), .long (1 : Int64)]) (k' := 8) (L' := [some (.ref 66), some (.int p0), some (.int p1)]) (S' := []) 5 (fun P9 h9 => c_M_in (d + 3) p0.toInt64 (0 : Int64) (1 : Int64) σ h9) (fun n h => h) ?_
    refine go_ifz (b := (f_M_in p0.toInt64 (0 : Int64) (1 : Int64))) (k1 := 15) (L1 := [some (.ref 66), some (.int p0), some (.int p1)]) (S1 := []) (σ1 := σ) (k2 := 9) (L2 := [some (.ref 66), some (.int p0), some (.int p1)]) (S2 := []) (σ2 := σ) 1 (fun n h => h) (fun hc2 => ?_) (fun hc2 => ?_)
    · rw [if_neg hc2] at h
      cases h
      exact go_ret 2 (fun _ => hp)
    · rw [if_pos hc2] at h
      refine go_call (r := some (.int (b2i (f_M_in p1.toInt64 (0 : Int64) (3 : Int64))))) (σc := σ) (σ1 := σ) (mi := 7) (vs := [.long p1.toInt64, .long (0 : Int64), .long (3 : Int64)]) (k' := 14) (L' := [some (.ref 66), some (.int p0), some (.int p1)]) (S' := []) 5 (fun P9 h9 => c_M_in (d + 3) p1.toInt64 (0 : Int64) (3 : Int64) σ h9) (fun n h => h) ?_
      refine go_ifn (b := (f_M_in p1.toInt64 (0 : Int64) (3 : Int64))) (k1 := 17) (L1 := [some (.ref 66), some (.int p0), some (.int p1)]) (S1 := []) (σ1 := σ) (k2 := 15) (L2 := [some (.ref 66), some (.int p0), some (.int p1)]) (S2 := []) (σ2 := σ) 1 (fun n h => h) (fun hc3 => ?_) (fun hc3 => ?_)
      · rw [if_pos hc3] at h
        obtain ⟨x4, hx4, h⟩ := bind_of h
        refine go_call (r := none) (σc := σ) (σ1 := x4) (mi := 190) (vs := [.ref 66, .int p0]) (k' := 20) (L' := [some (.ref 66), some (.int p0), some (.int p1)]) (S' := []) 3 (fun P9 h9 => c_M_laysSide (d + 0) p0 σ hx4 h9) (fun n h => h) ?_
        obtain ⟨x5, hx5, h⟩ := bind_of h
        refine go_call (r := some (.int x5)) (σc := x4) (σ1 := x4) (mi := 191) (vs := [.ref 66, .int p1]) (k' := 23) (L' := [some (.ref 66), some (.int p0), some (.int p1)]) (S' := []) 3 (fun P9 h9 => c_M_manyOfKind (d + 3) p1 x4 hx5 h9) (fun n h => h) ?_
        cases h
        exact go_ret 1 (fun _ => hp)
      · rw [if_neg hc3] at h
        cases h
        exact go_ret 2 (fun _ => hp)
def f_M_classOf (N : Nat) (p0 : Int32) (p1 : Int32) (p2 : Int32) (σ : aSt) : Option (Int64 × aSt) :=
  (if (σ.2.2 66 1) = true then (if (f_M_in p0.toInt64 (0 : Int64) (1 : Int64)) = true then (if (f_M_in p2.toInt64 (0 : Int64) (5 : Int64)) = true then ((f_M_laysSide N p0 σ).bind fun x4 => (if (f_M_in p1.toInt64 (0 : Int64) ((x4.1 66 46) - (1 : Int32)).toInt64) = true then (if p2 = (0 : Int32) then (if 0 ≤ p1 ∧ p1 < (64 : Int32) then some ((x4.1 73 p1.toNatClampNeg).toInt64, x4) else none) else (if p2 = (1 : Int32) then (if 0 ≤ p1 ∧ p1 < (64 : Int32) then (if (x4.2.2 74 p1.toNatClampNeg) = true then some ((1 : Int64), x4) else some ((0 : Int64), x4)) else none) else (if p2 = (2 : Int32) then (if 0 ≤ p1 ∧ p1 < (64 : Int32) then (if (x4.2.2 77 p1.toNatClampNeg) = true then some ((1 : Int64), x4) else some ((0 : Int64), x4)) else none) else (if p2 = (3 : Int32) then (if 0 ≤ p1 ∧ p1 < (64 : Int32) then (if (x4.2.2 78 p1.toNatClampNeg) = true then some ((1 : Int64), x4) else some ((0 : Int64), x4)) else none) else (if p2 = (4 : Int32) then (if 0 ≤ p1 ∧ p1 < (64 : Int32) then (if (x4.2.2 74 p1.toNatClampNeg) = true then some ((x4.1 75 p1.toNatClampNeg).toInt64, x4) else some ((-9223372036854775808 : Int64), x4)) else none) else (if 0 ≤ p1 ∧ p1 < (64 : Int32) then (if (x4.2.2 74 p1.toNatClampNeg) = true then some ((x4.1 76 p1.toNatClampNeg).toInt64, x4) else some ((-9223372036854775808 : Int64), x4)) else none)))))) else some ((-9223372036854775808 : Int64), x4))) else some ((-9223372036854775808 : Int64), σ)) else some ((-9223372036854775808 : Int64), σ)) else some ((-9223372036854775808 : Int64), σ))
set_option maxRecDepth 20000 in
set_option maxHeartbeats 4000000 in
theorem c_M_classOf (d : Nat) {N : Nat} (p0 : Int32) (p1 : Int32) (p2 : Int32) (σ : aSt) {P : Option Value → aSt → Prop} {x : (Int64 × aSt)} (h : f_M_classOf N p0 p1 p2 σ = some x) (hp : P (some (.long x.1)) x.2) : aCall MT (d + 5) 198 [.ref 66, .int p0, .int p1, .int p2] σ P := by
  unfold f_M_classOf at h
  refine call_of (code := mc_M_classOf) (L := [some (.ref 66), some (.int p0), some (.int p1), some (.int p2)]) rfl rfl rfl rfl ?_
  refine go_ifz (b := (σ.2.2 66 1)) (k1 := 15) (L1 := [some (.ref 66), some (.int p0), some (.int p1), some (.int p2)]) (S1 := []) (σ1 := σ) (k2 := 3) (L2 := [some (.ref 66), some (.int p0), some (.int p1), some (.int p2)]) (S2 := []) (σ2 := σ) 3 (fun n h => h) (fun hc1 => ?_) (fun hc1 => ?_)
  · rw [if_neg hc1] at h
    cases h
    exact go_ret 2 (fun _ => hp)
  · rw [if_pos hc1] at h
    refine go_call (r := some (.int (b2i (f_M_in p0.toInt64 (0 : Int64) (1 : Int64))))) (σc := σ) (σ1 := σ) (mi := 7) (vs := [.long p0.toInt64, .long (0 : Int64), .long (1 : Int64)]) (k' := 8) (L' := [some (.ref 66), some (.int p0), some (.int p1), some (.int p2)]) (S' := []) 5 (fun P9 h9 => c_M_in (d + 3) p0.toInt64 (0 : Int64) (1 : Int64) σ h9) (fun n h => h) ?_
    refine go_ifz (b := (f_M_in p0.toInt64 (0 : Int64) (1 : Int64))) (k1 := 15) (L1 := [some (.ref 66), some (.int p0), some (.int p1), some (.int p2)]) (S1 := []) (σ1 := σ) (k2 := 9) (L2 := [some (.ref 66), some (.int p0), some (.int p1), some (.int p2)]) (S2 := []) (σ2 := σ) 1 (fun n h => h) (fun hc2 => ?_) (fun hc2 => ?_)
    · rw [if_neg hc2] at h
      cases h
      exact go_ret 2 (fun _ => hp)
    · rw [if_pos hc2] at h
      refine go_call (r := some (.int (b2i (f_M_in p2.toInt64 (0 : Int64) (5 : Int64))))) (σc := σ) (σ1 := σ) (mi := 7) (vs := [.long p2.toInt64, .long (0 : Int64), .long (5 : Int64)]) (k' := 14) (L' := [some (.ref 66), some (.int p0), some (.int p1), some (.int p2)]) (S' := []) 5 (fun P9 h9 => c_M_in (d + 3) p2.toInt64 (0 : Int64) (5 : Int64) σ h9) (fun n h => h) ?_
      refine go_ifn (b := (f_M_in p2.toInt64 (0 : Int64) (5 : Int64))) (k1 := 17) (L1 := [some (.ref 66), some (.int p0), some (.int p1), some (.int p2)]) (S1 := []) (σ1 := σ) (k2 := 15) (L2 := [some (.ref 66), some (.int p0), some (.int p1), some (.int p2)]) (S2 := []) (σ2 := σ) 1 (fun n h => h) (fun hc3 => ?_) (fun hc3 => ?_)
      · rw [if_pos hc3] at h
        obtain ⟨x4, hx4, h⟩ := bind_of h
        refine go_call (r := none) (σc := σ) (σ1 := x4) (mi := 190) (vs := [.ref 66, .int p0]) (k' := 20) (L' := [some (.ref 66), some (.int p0), some (.int p1), some (.int p2)]) (S' := []) 3 (fun P9 h9 => c_M_laysSide (d + 0) p0 σ hx4 h9) (fun n h => h) ?_
        refine go_call (r := some (.int (b2i (f_M_in p1.toInt64 (0 : Int64) ((x4.1 66 46) - (1 : Int32)).toInt64)))) (σc := x4) (σ1 := x4) (mi := 7) (vs := [.long p1.toInt64, .long (0 : Int64), .long ((x4.1 66 46) - (1 : Int32)).toInt64]) (k' := 29) (L' := [some (.ref 66), some (.int p0), some (.int p1), some (.int p2)]) (S' := []) 9 (fun P9 h9 => c_M_in (d + 3) p1.toInt64 (0 : Int64) ((x4.1 66 46) - (1 : Int32)).toInt64 x4 h9) (fun n h => h) ?_
        refine go_ifn (b := (f_M_in p1.toInt64 (0 : Int64) ((x4.1 66 46) - (1 : Int32)).toInt64)) (k1 := 32) (L1 := [some (.ref 66), some (.int p0), some (.int p1), some (.int p2)]) (S1 := []) (σ1 := x4) (k2 := 30) (L2 := [some (.ref 66), some (.int p0), some (.int p1), some (.int p2)]) (S2 := []) (σ2 := x4) 1 (fun n h => h) (fun hc5 => ?_) (fun hc5 => ?_)
        · rw [if_pos hc5] at h
          refine go_sw (L' := [some (.ref 66), some (.int p0), some (.int p1), some (.int p2)]) (S' := []) (σ' := x4) 2 (fun n h => h) ?_
          refine tsw_cons (fun hc6 => ?_) (fun hc6 => ?_)
          · rw [if_pos (show p2 = (0 : Int32) from hc6)] at h
            obtain ⟨hc7, h⟩ := ite_of h
            refine go_q (Q := inb 0 x4 73 p1) (k' := 38) (L' := [some (.ref 66), some (.int p0), some (.int p1), some (.int p2)]) (S' := [.int (x4.1 73 p1.toNatClampNeg)]) (σ' := x4) 4 (inb_mk rfl hc7.1 hc7.2) (fun n h => h) ?_
            cases h
            exact go_ret 2 (fun _ => hp)
          · rw [if_neg (show ¬ p2 = (0 : Int32) from hc6)] at h
            refine tsw_cons (fun hc8 => ?_) (fun hc8 => ?_)
            · rw [if_pos (show p2 = (1 : Int32) from hc8)] at h
              obtain ⟨hc9, h⟩ := ite_of h
              refine go_q (Q := inb 3 x4 74 p1) (k' := 44) (L' := [some (.ref 66), some (.int p0), some (.int p1), some (.int p2)]) (S' := [.int (b2i (x4.2.2 74 p1.toNatClampNeg))]) (σ' := x4) 4 (inb_mk rfl hc9.1 hc9.2) (fun n h => h) ?_
              refine go_ifz (b := (x4.2.2 74 p1.toNatClampNeg)) (k1 := 47) (L1 := [some (.ref 66), some (.int p0), some (.int p1), some (.int p2)]) (S1 := []) (σ1 := x4) (k2 := 45) (L2 := [some (.ref 66), some (.int p0), some (.int p1), some (.int p2)]) (S2 := []) (σ2 := x4) 1 (fun n h => h) (fun hc10 => ?_) (fun hc10 => ?_)
              · rw [if_neg hc10] at h
                cases h
                exact go_ret 2 (fun _ => hp)
              · rw [if_pos hc10] at h
                cases h
                exact go_ret 3 (fun _ => hp)
            · rw [if_neg (show ¬ p2 = (1 : Int32) from hc8)] at h
              refine tsw_cons (fun hc11 => ?_) (fun hc11 => ?_)
              · rw [if_pos (show p2 = (2 : Int32) from hc11)] at h
                obtain ⟨hc12, h⟩ := ite_of h
                refine go_q (Q := inb 3 x4 77 p1) (k' := 53) (L' := [some (.ref 66), some (.int p0), some (.int p1), some (.int p2)]) (S' := [.int (b2i (x4.2.2 77 p1.toNatClampNeg))]) (σ' := x4) 4 (inb_mk rfl hc12.1 hc12.2) (fun n h => h) ?_
                refine go_ifz (b := (x4.2.2 77 p1.toNatClampNeg)) (k1 := 56) (L1 := [some (.ref 66), some (.int p0), some (.int p1), some (.int p2)]) (S1 := []) (σ1 := x4) (k2 := 54) (L2 := [some (.ref 66), some (.int p0), some (.int p1), some (.int p2)]) (S2 := []) (σ2 := x4) 1 (fun n h => h) (fun hc13 => ?_) (fun hc13 => ?_)
                · rw [if_neg hc13] at h
                  cases h
                  exact go_ret 2 (fun _ => hp)
                · rw [if_pos hc13] at h
                  cases h
                  exact go_ret 3 (fun _ => hp)
              · rw [if_neg (show ¬ p2 = (2 : Int32) from hc11)] at h
                refine tsw_cons (fun hc14 => ?_) (fun hc14 => ?_)
                · rw [if_pos (show p2 = (3 : Int32) from hc14)] at h
                  obtain ⟨hc15, h⟩ := ite_of h
                  refine go_q (Q := inb 3 x4 78 p1) (k' := 62) (L' := [some (.ref 66), some (.int p0), some (.int p1), some (.int p2)]) (S' := [.int (b2i (x4.2.2 78 p1.toNatClampNeg))]) (σ' := x4) 4 (inb_mk rfl hc15.1 hc15.2) (fun n h => h) ?_
                  refine go_ifz (b := (x4.2.2 78 p1.toNatClampNeg)) (k1 := 65) (L1 := [some (.ref 66), some (.int p0), some (.int p1), some (.int p2)]) (S1 := []) (σ1 := x4) (k2 := 63) (L2 := [some (.ref 66), some (.int p0), some (.int p1), some (.int p2)]) (S2 := []) (σ2 := x4) 1 (fun n h => h) (fun hc16 => ?_) (fun hc16 => ?_)
                  · rw [if_neg hc16] at h
                    cases h
                    exact go_ret 2 (fun _ => hp)
                  · rw [if_pos hc16] at h
                    cases h
                    exact go_ret 3 (fun _ => hp)
                · rw [if_neg (show ¬ p2 = (3 : Int32) from hc14)] at h
                  refine tsw_cons (fun hc17 => ?_) (fun hc17 => ?_)
                  · rw [if_pos (show p2 = (4 : Int32) from hc17)] at h
                    obtain ⟨hc18, h⟩ := ite_of h
                    refine go_q (Q := inb 3 x4 74 p1) (k' := 71) (L' := [some (.ref 66), some (.int p0), some (.int p1), some (.int p2)]) (S' := [.int (b2i (x4.2.2 74 p1.toNatClampNeg))]) (σ' := x4) 4 (inb_mk rfl hc18.1 hc18.2) (fun n h => h) ?_
                    refine go_ifz (b := (x4.2.2 74 p1.toNatClampNeg)) (k1 := 78) (L1 := [some (.ref 66), some (.int p0), some (.int p1), some (.int p2)]) (S1 := []) (σ1 := x4) (k2 := 72) (L2 := [some (.ref 66), some (.int p0), some (.int p1), some (.int p2)]) (S2 := []) (σ2 := x4) 1 (fun n h => h) (fun hc19 => ?_) (fun hc19 => ?_)
                    · rw [if_neg hc19] at h
                      cases h
                      exact go_ret 2 (fun _ => hp)
                    · rw [if_pos hc19] at h
                      refine go_q (Q := inb 0 x4 75 p1) (k' := 76) (L' := [some (.ref 66), some (.int p0), some (.int p1), some (.int p2)]) (S' := [.int (x4.1 75 p1.toNatClampNeg)]) (σ' := x4) 4 (inb_mk rfl hc18.1 hc18.2) (fun n h => h) ?_
                      cases h
                      exact go_ret 3 (fun _ => hp)
                  · rw [if_neg (show ¬ p2 = (4 : Int32) from hc17)] at h
                    refine tsw_nil ?_
                    obtain ⟨hc20, h⟩ := ite_of h
                    refine go_q (Q := inb 3 x4 74 p1) (k' := 84) (L' := [some (.ref 66), some (.int p0), some (.int p1), some (.int p2)]) (S' := [.int (b2i (x4.2.2 74 p1.toNatClampNeg))]) (σ' := x4) 4 (inb_mk rfl hc20.1 hc20.2) (fun n h => h) ?_
                    refine go_ifz (b := (x4.2.2 74 p1.toNatClampNeg)) (k1 := 91) (L1 := [some (.ref 66), some (.int p0), some (.int p1), some (.int p2)]) (S1 := []) (σ1 := x4) (k2 := 85) (L2 := [some (.ref 66), some (.int p0), some (.int p1), some (.int p2)]) (S2 := []) (σ2 := x4) 1 (fun n h => h) (fun hc21 => ?_) (fun hc21 => ?_)
                    · rw [if_neg hc21] at h
                      cases h
                      exact go_ret 2 (fun _ => hp)
                    · rw [if_pos hc21] at h
                      refine go_q (Q := inb 0 x4 76 p1) (k' := 89) (L' := [some (.ref 66), some (.int p0), some (.int p1), some (.int p2)]) (S' := [.int (x4.1 76 p1.toNatClampNeg)]) (σ' := x4) 4 (inb_mk rfl hc20.1 hc20.2) (fun n h => h) ?_
                      cases h
                      exact go_ret 3 (fun _ => hp)
        · rw [if_neg hc5] at h
          cases h
          exact go_ret 2 (fun _ => hp)
      · rw [if_neg hc3] at h
        cases h
        exact go_ret 2 (fun _ => hp)
def f_M_twosIn_l2 (N : Nat) : Nat → Int32 → Int32 → Option Int32
  | 0, _, _ => none
  | n + 1, v0, v1 => (if (v0 >>> ((v1 + (1 : Int32)) &&& 31)) ≤ 0 then some v1 else f_M_twosIn_l2 N n v0 (v1 + (1 : Int32)))
set_option maxRecDepth 20000 in
set_option maxHeartbeats 4000000 in
theorem t_M_twosIn_l2 (d : Nat) {N : Nat} (σ : aSt) {x : Int32} {P : Option Value → aSt → Prop} (hp : P (some (.int x)) σ) : ∀ (n : Nat) (v0 : Int32) (v1 : Int32), f_M_twosIn_l2 N n v0 v1 = some x → aGo (aCall MT (d + 0)) P mc_M_twosIn 2 [some (.int v0), some (.int v1)] [] σ := by
  intro n
  induction n with
  | zero => intro v0 v1 h; cases h
  | succ n ih =>
    intro v0 v1 h
    rw [f_M_twosIn_l2] at h
    refine go_if (c := (v0 >>> ((v1 + (1 : Int32)) &&& 31)) ≤ 0) (k1 := 10) (L1 := [some (.int v0), some (.int v1)]) (S1 := []) (σ1 := σ) (k2 := 8) (L2 := [some (.int v0), some (.int v1)]) (S2 := []) (σ2 := σ) 6 (fun n h => h) (fun hc1 => ?_) (fun hc1 => ?_)
    · rw [if_pos hc1] at h
      cases h
      exact go_ret 2 (fun _ => hp)
    · rw [if_neg hc1] at h
      refine go_st (k' := 2) (L' := [some (.int v0), some (.int (v1 + (1 : Int32)))]) (S' := []) (σ' := σ) 2 (fun n h => h) ?_
      exact ih v0 (v1 + (1 : Int32)) h
def f_M_twosIn (N : Nat) (p0 : Int32) : Option Int32 :=
  f_M_twosIn_l2 N N p0 (0 : Int32)
set_option maxRecDepth 20000 in
set_option maxHeartbeats 4000000 in
theorem c_M_twosIn (d : Nat) {N : Nat} (p0 : Int32) (σ : aSt) {P : Option Value → aSt → Prop} {x : Int32} (h : f_M_twosIn N p0 = some x) (hp : P (some (.int x)) σ) : aCall MT (d + 1) 202 [.int p0] σ P := by
  unfold f_M_twosIn at h
  refine call_of (code := mc_M_twosIn) (L := [some (.int p0), none]) rfl rfl rfl rfl ?_
  refine go_st (k' := 2) (L' := [some (.int p0), some (.int (0 : Int32))]) (S' := []) (σ' := σ) 2 (fun n h => h) ?_
  exact t_M_twosIn_l2 d σ hp N p0 (0 : Int32) h
def f_M_rank_b20 (N : Nat) (v1 : Int32) (s1 : Int32) (σ : aSt) : Option (Int32 × aSt) :=
  ((f_M_manyOfKind N s1 σ).bind fun x5 => ((f_M_twosIn N x5).bind fun x6 => ((f_M_laysSide N (1 : Int32) σ).bind fun x7 => (if v1 ≠ 0 then ((f_M_manyOfKind N (2 : Int32) x7).bind fun x9 => ((f_M_twosIn N x9).bind fun x10 => some ((imax (0 : Int32) ((x6 + x10) - (2 : Int32))), x7))) else ((f_M_manyOfKind N (3 : Int32) x7).bind fun x11 => ((f_M_twosIn N x11).bind fun x12 => some ((imax (0 : Int32) ((x6 + x12) - (2 : Int32))), x7)))))))
set_option maxRecDepth 20000 in
set_option maxHeartbeats 4000000 in
theorem t_M_rank_b20 (d : Nat) {N : Nat} (d2 : Option Value) (v1 : Int32) (s1 : Int32) (σ : aSt) {P : Option Value → aSt → Prop} {x : (Int32 × aSt)} (h : f_M_rank_b20 N v1 s1 σ = some x) (hp : P (some (.int x.1)) x.2) : aGo (aCall MT (d + 4)) P mc_M_rank 20 [some (.ref 66), some (.int v1), d2] [.int s1, .ref 66] σ := by
  unfold f_M_rank_b20 at h
  obtain ⟨x5, hx5, h⟩ := bind_of h
  refine go_call (r := some (.int x5)) (σc := σ) (σ1 := σ) (mi := 191) (vs := [.ref 66, .int s1]) (k' := 21) (L' := [some (.ref 66), some (.int v1), d2]) (S' := []) 1 (fun P9 h9 => c_M_manyOfKind (d + 3) s1 σ hx5 h9) (fun n h => h) ?_
  obtain ⟨x6, hx6, h⟩ := bind_of h
  refine go_call (r := some (.int x6)) (σc := σ) (σ1 := σ) (mi := 202) (vs := [.int x5]) (k' := 22) (L' := [some (.ref 66), some (.int v1), d2]) (S' := []) 1 (fun P9 h9 => c_M_twosIn (d + 3) x5 σ hx6 h9) (fun n h => h) ?_
  obtain ⟨x7, hx7, h⟩ := bind_of h
  refine go_call (r := none) (σc := σ) (σ1 := x7) (mi := 190) (vs := [.ref 66, .int (1 : Int32)]) (k' := 26) (L' := [some (.ref 66), some (.int v1), some (.int x6)]) (S' := []) 4 (fun P9 h9 => c_M_laysSide (d + 0) (1 : Int32) σ hx7 h9) (fun n h => h) ?_
  refine go_if (c := v1 ≠ 0) (k1 := 32) (L1 := [some (.ref 66), some (.int v1), some (.int x6)]) (S1 := [.ref 66, .int x6]) (σ1 := x7) (k2 := 30) (L2 := [some (.ref 66), some (.int v1), some (.int x6)]) (S2 := [.ref 66, .int x6]) (σ2 := x7) 4 (fun n h => h) (fun hc8 => ?_) (fun hc8 => ?_)
  · rw [if_pos hc8] at h
    obtain ⟨x9, hx9, h⟩ := bind_of h
    refine go_call (r := some (.int x9)) (σc := x7) (σ1 := x7) (mi := 191) (vs := [.ref 66, .int (2 : Int32)]) (k' := 34) (L' := [some (.ref 66), some (.int v1), some (.int x6)]) (S' := [.int x6]) 2 (fun P9 h9 => c_M_manyOfKind (d + 3) (2 : Int32) x7 hx9 h9) (fun n h => h) ?_
    obtain ⟨x10, hx10, h⟩ := bind_of h
    refine go_call (r := some (.int x10)) (σc := x7) (σ1 := x7) (mi := 202) (vs := [.int x9]) (k' := 35) (L' := [some (.ref 66), some (.int v1), some (.int x6)]) (S' := [.int x6]) 1 (fun P9 h9 => c_M_twosIn (d + 3) x9 x7 hx10 h9) (fun n h => h) ?_
    cases h
    exact go_ret 8 (fun _ => hp)
  · rw [if_neg hc8] at h
    obtain ⟨x11, hx11, h⟩ := bind_of h
    refine go_call (r := some (.int x11)) (σc := x7) (σ1 := x7) (mi := 191) (vs := [.ref 66, .int (3 : Int32)]) (k' := 34) (L' := [some (.ref 66), some (.int v1), some (.int x6)]) (S' := [.int x6]) 3 (fun P9 h9 => c_M_manyOfKind (d + 3) (3 : Int32) x7 hx11 h9) (fun n h => h) ?_
    obtain ⟨x12, hx12, h⟩ := bind_of h
    refine go_call (r := some (.int x12)) (σc := x7) (σ1 := x7) (mi := 202) (vs := [.int x11]) (k' := 35) (L' := [some (.ref 66), some (.int v1), some (.int x6)]) (S' := [.int x6]) 1 (fun P9 h9 => c_M_twosIn (d + 3) x11 x7 hx12 h9) (fun n h => h) ?_
    cases h
    exact go_ret 8 (fun _ => hp)
def f_M_rank (N : Nat) (p0 : Int32) (σ : aSt) : Option (Int32 × aSt) :=
  (if (σ.2.2 66 1) = true then (if (f_M_in p0.toInt64 (0 : Int64) (1 : Int64)) = true then ((f_M_laysSide N (0 : Int32) σ).bind fun x3 => (if p0 ≠ 0 then f_M_rank_b20 N p0 (2 : Int32) x3 else f_M_rank_b20 N p0 (3 : Int32) x3)) else some ((-2 : Int32), σ)) else some ((-2 : Int32), σ))
set_option maxRecDepth 20000 in
set_option maxHeartbeats 4000000 in
theorem c_M_rank (d : Nat) {N : Nat} (p0 : Int32) (σ : aSt) {P : Option Value → aSt → Prop} {x : (Int32 × aSt)} (h : f_M_rank N p0 σ = some x) (hp : P (some (.int x.1)) x.2) : aCall MT (d + 5) 203 [.ref 66, .int p0] σ P := by
  unfold f_M_rank at h
  refine call_of (code := mc_M_rank) (L := [some (.ref 66), some (.int p0), none]) rfl rfl rfl rfl ?_
  refine go_ifz (b := (σ.2.2 66 1)) (k1 := 9) (L1 := [some (.ref 66), some (.int p0), none]) (S1 := []) (σ1 := σ) (k2 := 3) (L2 := [some (.ref 66), some (.int p0), none]) (S2 := []) (σ2 := σ) 3 (fun n h => h) (fun hc1 => ?_) (fun hc1 => ?_)
  · rw [if_neg hc1] at h
    cases h
    exact go_ret 2 (fun _ => hp)
  · rw [if_pos hc1] at h
    refine go_call (r := some (.int (b2i (f_M_in p0.toInt64 (0 : Int64) (1 : Int64))))) (σc := σ) (σ1 := σ) (mi := 7) (vs := [.long p0.toInt64, .long (0 : Int64), .long (1 : Int64)]) (k' := 8) (L' := [some (.ref 66), some (.int p0), none]) (S' := []) 5 (fun P9 h9 => c_M_in (d + 3) p0.toInt64 (0 : Int64) (1 : Int64) σ h9) (fun n h => h) ?_
    refine go_ifn (b := (f_M_in p0.toInt64 (0 : Int64) (1 : Int64))) (k1 := 11) (L1 := [some (.ref 66), some (.int p0), none]) (S1 := []) (σ1 := σ) (k2 := 9) (L2 := [some (.ref 66), some (.int p0), none]) (S2 := []) (σ2 := σ) 1 (fun n h => h) (fun hc2 => ?_) (fun hc2 => ?_)
    · rw [if_pos hc2] at h
      obtain ⟨x3, hx3, h⟩ := bind_of h
      refine go_call (r := none) (σc := σ) (σ1 := x3) (mi := 190) (vs := [.ref 66, .int (0 : Int32)]) (k' := 14) (L' := [some (.ref 66), some (.int p0), none]) (S' := []) 3 (fun P9 h9 => c_M_laysSide (d + 0) (0 : Int32) σ hx3 h9) (fun n h => h) ?_
      refine go_if (c := p0 ≠ 0) (k1 := 19) (L1 := [some (.ref 66), some (.int p0), none]) (S1 := [.ref 66]) (σ1 := x3) (k2 := 17) (L2 := [some (.ref 66), some (.int p0), none]) (S2 := [.ref 66]) (σ2 := x3) 3 (fun n h => h) (fun hc4 => ?_) (fun hc4 => ?_)
      · rw [if_pos hc4] at h
        refine go_st (k' := 20) (L' := [some (.ref 66), some (.int p0), none]) (S' := [.int (2 : Int32), .ref 66]) (σ' := x3) 1 (fun n h => h) ?_
        exact t_M_rank_b20 d _ p0 (2 : Int32) x3 h hp
      · rw [if_neg hc4] at h
        refine go_st (k' := 20) (L' := [some (.ref 66), some (.int p0), none]) (S' := [.int (3 : Int32), .ref 66]) (σ' := x3) 2 (fun n h => h) ?_
        exact t_M_rank_b20 d _ p0 (3 : Int32) x3 h hp
    · rw [if_neg hc2] at h
      cases h
      exact go_ret 2 (fun _ => hp)
def f_M_freeOf_l11 (N : Nat) (k26 : Int64 → Int64 → Int64 → Option Int64) : Nat → Int64 → Int64 → Int64 → Option Int64
  | 0, _, _, _ => none
  | n + 1, v0, v2, v4 => (if ¬ (v4 * v4) = 0 then (if (lrem v2 (v4 * v4)) ≠ (0 : Int64) then k26 v0 v2 v4 else f_M_freeOf_l11 N k26 n v0 (v2 / (v4 * v4)) v4) else none)
set_option maxRecDepth 20000 in
set_option maxHeartbeats 4000000 in
theorem t_M_freeOf_l11 (d : Nat) {N : Nat} (σ : aSt) (k26 : Int64 → Int64 → Int64 → Option Int64) {x : Int64} {P : Option Value → aSt → Prop} (hp : P (some (.long x)) σ) (hk26 : ∀ (v0 : Int64) (v2 : Int64) (v4 : Int64), k26 v0 v2 v4 = some x → aGo (aCall MT (d + 0)) P mc_M_freeOf 26 [some (.long v0), none, some (.long v2), none, some (.long v4), none] [] σ) : ∀ (n : Nat) (v0 : Int64) (v2 : Int64) (v4 : Int64), f_M_freeOf_l11 N k26 n v0 v2 v4 = some x → aGo (aCall MT (d + 0)) P mc_M_freeOf 11 [some (.long v0), none, some (.long v2), none, some (.long v4), none] [] σ := by
  intro n
  induction n with
  | zero => intro v0 v2 v4 h; cases h
  | succ n ih =>
    intro v0 v2 v4 h
    rw [f_M_freeOf_l11] at h
    obtain ⟨hc3, h⟩ := ite_of h
    refine go_q (Q := ¬ (v4 * v4) = 0) (k' := 16) (L' := [some (.long v0), none, some (.long v2), none, some (.long v4), none]) (S' := [.long (lrem v2 (v4 * v4))]) (σ' := σ) 5 hc3 (fun n h => h) ?_
    refine go_iff (lcmp_ne (lrem v2 (v4 * v4)) (0 : Int64)) (k1 := 26) (L1 := [some (.long v0), none, some (.long v2), none, some (.long v4), none]) (S1 := []) (σ1 := σ) (k2 := 19) (L2 := [some (.long v0), none, some (.long v2), none, some (.long v4), none]) (S2 := []) (σ2 := σ) 3 (fun n h => h) (fun hc4 => ?_) (fun hc4 => ?_)
    · rw [if_pos hc4] at h
      exact hk26 v0 v2 v4 h
    · rw [if_neg hc4] at h
      refine go_q (Q := ¬ (v4 * v4) = 0) (k' := 24) (L' := [some (.long v0), none, some (.long v2), none, some (.long v4), none]) (S' := [.long (v2 / (v4 * v4))]) (σ' := σ) 5 (hc3) (fun n h => h) ?_
      refine go_st (k' := 11) (L' := [some (.long v0), none, some (.long (v2 / (v4 * v4))), none, some (.long v4), none]) (S' := []) (σ' := σ) 2 (fun n h => h) ?_
      exact ih v0 (v2 / (v4 * v4)) v4 h
def f_M_freeOf_l5 (N : Nat) : Nat → Int64 → Int64 → Int64 → Option Int64
  | 0, _, _, _ => none
  | n + 1, v0, v2, v4 => (if v2 < (v4 * v4) then (if (0 : Int64) ≤ v0 then some v2 else some (-v2)) else f_M_freeOf_l11 N (fun (y5 : Int64) (y6 : Int64) (y7 : Int64) => f_M_freeOf_l5 N n y5 y6 (y7 + (1 : Int64))) N v0 v2 v4)
set_option maxRecDepth 20000 in
set_option maxHeartbeats 4000000 in
theorem t_M_freeOf_l5 (d : Nat) {N : Nat} (σ : aSt) {x : Int64} {P : Option Value → aSt → Prop} (hp : P (some (.long x)) σ) : ∀ (n : Nat) (v0 : Int64) (v2 : Int64) (v4 : Int64), f_M_freeOf_l5 N n v0 v2 v4 = some x → aGo (aCall MT (d + 0)) P mc_M_freeOf 5 [some (.long v0), none, some (.long v2), none, some (.long v4), none] [] σ := by
  intro n
  induction n with
  | zero => intro v0 v2 v4 h; cases h
  | succ n ih =>
    intro v0 v2 v4 h
    rw [f_M_freeOf_l5] at h
    refine go_iff (lcmp_gt (v4 * v4) v2) (k1 := 31) (L1 := [some (.long v0), none, some (.long v2), none, some (.long v4), none]) (S1 := []) (σ1 := σ) (k2 := 11) (L2 := [some (.long v0), none, some (.long v2), none, some (.long v4), none]) (S2 := []) (σ2 := σ) 6 (fun n h => h) (fun hc1 => ?_) (fun hc1 => ?_)
    · rw [if_pos hc1] at h
      refine go_iff (lcmp_ge v0 (0 : Int64)) (k1 := 38) (L1 := [some (.long v0), none, some (.long v2), none, some (.long v4), none]) (S1 := []) (σ1 := σ) (k2 := 35) (L2 := [some (.long v0), none, some (.long v2), none, some (.long v4), none]) (S2 := []) (σ2 := σ) 4 (fun n h => h) (fun hc2 => ?_) (fun hc2 => ?_)
      · rw [if_pos hc2] at h
        cases h
        exact go_ret 2 (fun _ => hp)
      · rw [if_neg hc2] at h
        cases h
        exact go_ret 4 (fun _ => hp)
    · rw [if_neg hc1] at h
      refine t_M_freeOf_l11 d σ _ hp (fun y5 y6 y7 h => ?_) N v0 v2 v4 h
      · refine go_st (k' := 5) (L' := [some (.long y5), none, some (.long y6), none, some (.long (y7 + (1 : Int64))), none]) (S' := []) (σ' := σ) 5 (fun n h => h) ?_
        exact ih y5 y6 (y7 + (1 : Int64)) h
def f_M_freeOf (N : Nat) (p0 : Int64) : Option Int64 :=
  f_M_freeOf_l5 N N p0 (labs p0) (2 : Int64)
set_option maxRecDepth 20000 in
set_option maxHeartbeats 4000000 in
theorem c_M_freeOf (d : Nat) {N : Nat} (p0 : Int64) (σ : aSt) {P : Option Value → aSt → Prop} {x : Int64} (h : f_M_freeOf N p0 = some x) (hp : P (some (.long x)) σ) : aCall MT (d + 1) 205 [.long p0] σ P := by
  unfold f_M_freeOf at h
  refine call_of (code := mc_M_freeOf) (L := [some (.long p0), none, none, none, none, none]) rfl rfl rfl rfl ?_
  refine go_st (k' := 5) (L' := [some (.long p0), none, some (.long (labs p0)), none, some (.long (2 : Int64)), none]) (S' := []) (σ' := σ) 5 (fun n h => h) ?_
  exact t_M_freeOf_l5 d σ hp N p0 (labs p0) (2 : Int64) h
def f_M_classAt (N : Nat) (p0 : Int32) (σ : aSt) : Option (Int64 × aSt) :=
  (if (f_M_isListed p0 σ) = true then (if 0 ≤ p0 ∧ p0 < (120 : Int32) then (if (σ.1 67 p0.toNatClampNeg) ≠ 0 then ((f_M_freeOf N (σ.1 67 p0.toNatClampNeg).toInt64).bind fun x4 => ((f_M_laysSide N (0 : Int32) σ).bind fun x5 => ((f_M_classFor N x4 x5).bind fun x6 => (if x6 ≠ (-1 : Int32) then some (x4, x5) else some ((-9223372036854775808 : Int64), x5))))) else ((f_M_freeOf N (σ.1 66 3).toInt64).bind fun x8 => ((f_M_laysSide N (0 : Int32) σ).bind fun x9 => ((f_M_classFor N x8 x9).bind fun x10 => (if x10 ≠ (-1 : Int32) then some (x8, x9) else some ((-9223372036854775808 : Int64), x9)))))) else none) else some ((-9223372036854775808 : Int64), σ))
set_option maxRecDepth 20000 in
set_option maxHeartbeats 4000000 in
theorem c_M_classAt (d : Nat) {N : Nat} (p0 : Int32) (σ : aSt) {P : Option Value → aSt → Prop} {x : (Int64 × aSt)} (h : f_M_classAt N p0 σ = some x) (hp : P (some (.long x.1)) x.2) : aCall MT (d + 5) 206 [.ref 66, .int p0] σ P := by
  unfold f_M_classAt at h
  refine call_of (code := mc_M_classAt) (L := [some (.ref 66), some (.int p0), none, none]) rfl rfl rfl rfl ?_
  refine go_call (r := some (.int (b2i (f_M_isListed p0 σ)))) (σc := σ) (σ1 := σ) (mi := 79) (vs := [.ref 66, .int p0]) (k' := 3) (L' := [some (.ref 66), some (.int p0), none, none]) (S' := []) 3 (fun P9 h9 => c_M_isListed (d + 2) p0 σ h9) (fun n h => h) ?_
  refine go_ifn (b := (f_M_isListed p0 σ)) (k1 := 6) (L1 := [some (.ref 66), some (.int p0), none, none]) (S1 := []) (σ1 := σ) (k2 := 4) (L2 := [some (.ref 66), some (.int p0), none, none]) (S2 := []) (σ2 := σ) 1 (fun n h => h) (fun hc1 => ?_) (fun hc1 => ?_)
  · rw [if_pos hc1] at h
    obtain ⟨hc2, h⟩ := ite_of h
    refine go_q (Q := inb 0 σ 67 p0) (k' := 10) (L' := [some (.ref 66), some (.int p0), none, none]) (S' := [.int (σ.1 67 p0.toNatClampNeg)]) (σ' := σ) 4 (inb_mk rfl hc2.1 hc2.2) (fun n h => h) ?_
    refine go_if (c := (σ.1 67 p0.toNatClampNeg) ≠ 0) (k1 := 15) (L1 := [some (.ref 66), some (.int p0), none, none]) (S1 := []) (σ1 := σ) (k2 := 11) (L2 := [some (.ref 66), some (.int p0), none, none]) (S2 := []) (σ2 := σ) 1 (fun n h => h) (fun hc3 => ?_) (fun hc3 => ?_)
    · rw [if_pos hc3] at h
      refine go_q (Q := inb 0 σ 67 p0) (k' := 19) (L' := [some (.ref 66), some (.int p0), none, none]) (S' := [.int (σ.1 67 p0.toNatClampNeg)]) (σ' := σ) 4 (inb_mk rfl hc2.1 hc2.2) (fun n h => h) ?_
      obtain ⟨x4, hx4, h⟩ := bind_of h
      refine go_call (r := some (.long x4)) (σc := σ) (σ1 := σ) (mi := 205) (vs := [.long (σ.1 67 p0.toNatClampNeg).toInt64]) (k' := 21) (L' := [some (.ref 66), some (.int p0), none, none]) (S' := []) 2 (fun P9 h9 => c_M_freeOf (d + 3) (σ.1 67 p0.toNatClampNeg).toInt64 σ hx4 h9) (fun n h => h) ?_
      obtain ⟨x5, hx5, h⟩ := bind_of h
      refine go_call (r := none) (σc := σ) (σ1 := x5) (mi := 190) (vs := [.ref 66, .int (0 : Int32)]) (k' := 25) (L' := [some (.ref 66), none, some (.long x4), none]) (S' := []) 4 (fun P9 h9 => c_M_laysSide (d + 0) (0 : Int32) σ hx5 h9) (fun n h => h) ?_
      obtain ⟨x6, hx6, h⟩ := bind_of h
      refine go_call (r := some (.int x6)) (σc := x5) (σ1 := x5) (mi := 188) (vs := [.ref 66, .long x4]) (k' := 28) (L' := [some (.ref 66), none, some (.long x4), none]) (S' := []) 3 (fun P9 h9 => c_M_classFor (d + 3) x4 x5 hx6 h9) (fun n h => h) ?_
      refine go_if (c := x6 ≠ (-1 : Int32)) (k1 := 32) (L1 := [some (.ref 66), none, some (.long x4), none]) (S1 := []) (σ1 := x5) (k2 := 30) (L2 := [some (.ref 66), none, some (.long x4), none]) (S2 := []) (σ2 := x5) 2 (fun n h => h) (fun hc7 => ?_) (fun hc7 => ?_)
      · rw [if_pos hc7] at h
        cases h
        exact go_ret 2 (fun _ => hp)
      · rw [if_neg hc7] at h
        cases h
        exact go_ret 3 (fun _ => hp)
    · rw [if_neg hc3] at h
      obtain ⟨x8, hx8, h⟩ := bind_of h
      refine go_call (r := some (.long x8)) (σc := σ) (σ1 := σ) (mi := 205) (vs := [.long (σ.1 66 3).toInt64]) (k' := 21) (L' := [some (.ref 66), some (.int p0), none, none]) (S' := []) 5 (fun P9 h9 => c_M_freeOf (d + 3) (σ.1 66 3).toInt64 σ hx8 h9) (fun n h => h) ?_
      obtain ⟨x9, hx9, h⟩ := bind_of h
      refine go_call (r := none) (σc := σ) (σ1 := x9) (mi := 190) (vs := [.ref 66, .int (0 : Int32)]) (k' := 25) (L' := [some (.ref 66), none, some (.long x8), none]) (S' := []) 4 (fun P9 h9 => c_M_laysSide (d + 0) (0 : Int32) σ hx9 h9) (fun n h => h) ?_
      obtain ⟨x10, hx10, h⟩ := bind_of h
      refine go_call (r := some (.int x10)) (σc := x9) (σ1 := x9) (mi := 188) (vs := [.ref 66, .long x8]) (k' := 28) (L' := [some (.ref 66), none, some (.long x8), none]) (S' := []) 3 (fun P9 h9 => c_M_classFor (d + 3) x8 x9 hx10 h9) (fun n h => h) ?_
      refine go_if (c := x10 ≠ (-1 : Int32)) (k1 := 32) (L1 := [some (.ref 66), none, some (.long x8), none]) (S1 := []) (σ1 := x9) (k2 := 30) (L2 := [some (.ref 66), none, some (.long x8), none]) (S2 := []) (σ2 := x9) 2 (fun n h => h) (fun hc11 => ?_) (fun hc11 => ?_)
      · rw [if_pos hc11] at h
        cases h
        exact go_ret 2 (fun _ => hp)
      · rw [if_neg hc11] at h
        cases h
        exact go_ret 3 (fun _ => hp)
  · rw [if_neg hc1] at h
    cases h
    exact go_ret 2 (fun _ => hp)
def f_M_heightAt (N : Nat) (p0 : Int32) (σ : aSt) : Option Int64 :=
  (if 0 ≤ p0 ∧ p0 < (120 : Int32) then some (f_M_heightOf (σ.1 67 p0.toNatClampNeg).toInt64 ((σ.1 69 p0.toNatClampNeg).toInt64 * (σ.1 69 p0.toNatClampNeg).toInt64)) else none)
set_option maxRecDepth 20000 in
set_option maxHeartbeats 4000000 in
theorem c_M_heightAt (d : Nat) {N : Nat} (p0 : Int32) (σ : aSt) {P : Option Value → aSt → Prop} {x : Int64} (h : f_M_heightAt N p0 σ = some x) (hp : P (some (.long x)) σ) : aCall MT (d + 2) 209 [.ref 66, .int p0] σ P := by
  unfold f_M_heightAt at h
  refine call_of (code := mc_M_heightAt) (L := [some (.ref 66), some (.int p0)]) rfl rfl rfl rfl ?_
  obtain ⟨hc1, h⟩ := ite_of h
  refine go_q (Q := inb 0 σ 67 p0) (k' := 4) (L' := [some (.ref 66), some (.int p0)]) (S' := [.int (σ.1 67 p0.toNatClampNeg)]) (σ' := σ) 4 (inb_mk rfl hc1.1 hc1.2) (fun n h => h) ?_
  refine go_q (Q := inb 0 σ 69 p0) (k' := 9) (L' := [some (.ref 66), some (.int p0)]) (S' := [.int (σ.1 69 p0.toNatClampNeg), .long (σ.1 67 p0.toNatClampNeg).toInt64]) (σ' := σ) 5 (inb_mk rfl hc1.1 hc1.2) (fun n h => h) ?_
  refine go_q (Q := inb 0 σ 69 p0) (k' := 14) (L' := [some (.ref 66), some (.int p0)]) (S' := [.int (σ.1 69 p0.toNatClampNeg), .long (σ.1 69 p0.toNatClampNeg).toInt64, .long (σ.1 67 p0.toNatClampNeg).toInt64]) (σ' := σ) 5 (inb_mk rfl hc1.1 hc1.2) (fun n h => h) ?_
  refine go_call (r := some (.long (f_M_heightOf (σ.1 67 p0.toNatClampNeg).toInt64 ((σ.1 69 p0.toNatClampNeg).toInt64 * (σ.1 69 p0.toNatClampNeg).toInt64)))) (σc := σ) (σ1 := σ) (mi := 114) (vs := [.long (σ.1 67 p0.toNatClampNeg).toInt64, .long ((σ.1 69 p0.toNatClampNeg).toInt64 * (σ.1 69 p0.toNatClampNeg).toInt64)]) (k' := 17) (L' := [some (.ref 66), some (.int p0)]) (S' := []) 3 (fun P9 h9 => c_M_heightOf (d + 0) (σ.1 67 p0.toNatClampNeg).toInt64 ((σ.1 69 p0.toNatClampNeg).toInt64 * (σ.1 69 p0.toNatClampNeg).toInt64) σ h9) (fun n h => h) ?_
  cases h
  exact go_ret 1 (fun _ => hp)
def f_M_bitsOf_l2 (N : Nat) : Nat → Int64 → Int32 → Option Int32
  | 0, _, _ => none
  | n + 1, v0, v2 => (if (v0 >>> (v2.toInt64 &&& 63)) ≤ (0 : Int64) then some v2 else f_M_bitsOf_l2 N n v0 (v2 + (1 : Int32)))
set_option maxRecDepth 20000 in
set_option maxHeartbeats 4000000 in
theorem t_M_bitsOf_l2 (d : Nat) {N : Nat} (σ : aSt) {x : Int32} {P : Option Value → aSt → Prop} (hp : P (some (.int x)) σ) : ∀ (n : Nat) (v0 : Int64) (v2 : Int32), f_M_bitsOf_l2 N n v0 v2 = some x → aGo (aCall MT (d + 0)) P mc_M_bitsOf 2 [some (.long v0), none, some (.int v2)] [] σ := by
  intro n
  induction n with
  | zero => intro v0 v2 h; cases h
  | succ n ih =>
    intro v0 v2 h
    rw [f_M_bitsOf_l2] at h
    refine go_iff (lcmp_le (v0 >>> (v2.toInt64 &&& 63)) (0 : Int64)) (k1 := 10) (L1 := [some (.long v0), none, some (.int v2)]) (S1 := []) (σ1 := σ) (k2 := 8) (L2 := [some (.long v0), none, some (.int v2)]) (S2 := []) (σ2 := σ) 6 (fun n h => h) (fun hc1 => ?_) (fun hc1 => ?_)
    · rw [if_pos hc1] at h
      cases h
      exact go_ret 2 (fun _ => hp)
    · rw [if_neg hc1] at h
      refine go_st (k' := 2) (L' := [some (.long v0), none, some (.int (v2 + (1 : Int32)))]) (S' := []) (σ' := σ) 2 (fun n h => h) ?_
      exact ih v0 (v2 + (1 : Int32)) h
def f_M_bitsOf (N : Nat) (p0 : Int64) : Option Int32 :=
  f_M_bitsOf_l2 N N p0 (0 : Int32)
set_option maxRecDepth 20000 in
set_option maxHeartbeats 4000000 in
theorem c_M_bitsOf (d : Nat) {N : Nat} (p0 : Int64) (σ : aSt) {P : Option Value → aSt → Prop} {x : Int32} (h : f_M_bitsOf N p0 = some x) (hp : P (some (.int x)) σ) : aCall MT (d + 1) 210 [.long p0] σ P := by
  unfold f_M_bitsOf at h
  refine call_of (code := mc_M_bitsOf) (L := [some (.long p0), none, none]) rfl rfl rfl rfl ?_
  refine go_st (k' := 2) (L' := [some (.long p0), none, some (.int (0 : Int32))]) (S' := []) (σ' := σ) 2 (fun n h => h) ?_
  exact t_M_bitsOf_l2 d σ hp N p0 (0 : Int32) h
def f_M_bits (N : Nat) (p0 : Int32) (σ : aSt) : Option Int32 :=
  (if (f_M_isPoint p0 σ) = true then (if p0 ≠ (1000 : Int32) then ((f_M_heightAt N p0 σ).bind fun x3 => ((f_M_bitsOf N x3).bind fun x4 => some x4)) else some (0 : Int32)) else some (-2 : Int32))
set_option maxRecDepth 20000 in
set_option maxHeartbeats 4000000 in
theorem c_M_bits (d : Nat) {N : Nat} (p0 : Int32) (σ : aSt) {P : Option Value → aSt → Prop} {x : Int32} (h : f_M_bits N p0 σ = some x) (hp : P (some (.int x)) σ) : aCall MT (d + 4) 211 [.ref 66, .int p0] σ P := by
  unfold f_M_bits at h
  refine call_of (code := mc_M_bits) (L := [some (.ref 66), some (.int p0)]) rfl rfl rfl rfl ?_
  refine go_call (r := some (.int (b2i (f_M_isPoint p0 σ)))) (σc := σ) (σ1 := σ) (mi := 90) (vs := [.ref 66, .int p0]) (k' := 3) (L' := [some (.ref 66), some (.int p0)]) (S' := []) 3 (fun P9 h9 => c_M_isPoint (d + 0) p0 σ h9) (fun n h => h) ?_
  refine go_ifn (b := (f_M_isPoint p0 σ)) (k1 := 6) (L1 := [some (.ref 66), some (.int p0)]) (S1 := []) (σ1 := σ) (k2 := 4) (L2 := [some (.ref 66), some (.int p0)]) (S2 := []) (σ2 := σ) 1 (fun n h => h) (fun hc1 => ?_) (fun hc1 => ?_)
  · rw [if_pos hc1] at h
    refine go_if (c := p0 ≠ (1000 : Int32)) (k1 := 11) (L1 := [some (.ref 66), some (.int p0)]) (S1 := []) (σ1 := σ) (k2 := 9) (L2 := [some (.ref 66), some (.int p0)]) (S2 := []) (σ2 := σ) 3 (fun n h => h) (fun hc2 => ?_) (fun hc2 => ?_)
    · rw [if_pos hc2] at h
      obtain ⟨x3, hx3, h⟩ := bind_of h
      refine go_call (r := some (.long x3)) (σc := σ) (σ1 := σ) (mi := 209) (vs := [.ref 66, .int p0]) (k' := 14) (L' := [some (.ref 66), some (.int p0)]) (S' := []) 3 (fun P9 h9 => c_M_heightAt (d + 1) p0 σ hx3 h9) (fun n h => h) ?_
      obtain ⟨x4, hx4, h⟩ := bind_of h
      refine go_call (r := some (.int x4)) (σc := σ) (σ1 := σ) (mi := 210) (vs := [.long x3]) (k' := 15) (L' := [some (.ref 66), some (.int p0)]) (S' := []) 1 (fun P9 h9 => c_M_bitsOf (d + 2) x3 σ hx4 h9) (fun n h => h) ?_
      cases h
      exact go_ret 1 (fun _ => hp)
    · rw [if_neg hc2] at h
      cases h
      exact go_ret 3 (fun _ => hp)
  · rw [if_neg hc1] at h
    cases h
    exact go_ret 2 (fun _ => hp)
def f_M_bitsOfSum (N : Nat) (p0 : Int32) (p1 : Int32) (p2 : Int32) (σ : aSt) : Option (Int32 × aSt) :=
  ((f_M_joins N p0 p1 p2 σ).bind fun x1 => (if (x1.2.2 66 25) = true then some ((0 : Int32), x1) else ((f_M_bitsOf N (f_M_heightOf (x1.2.1 66 23) (x1.2.1 66 24))).bind fun x3 => some (x3, x1))))
set_option maxRecDepth 20000 in
set_option maxHeartbeats 4000000 in
theorem c_M_bitsOfSum (d : Nat) {N : Nat} (p0 : Int32) (p1 : Int32) (p2 : Int32) (σ : aSt) {P : Option Value → aSt → Prop} {x : (Int32 × aSt)} (h : f_M_bitsOfSum N p0 p1 p2 σ = some x) (hp : P (some (.int x.1)) x.2) : aCall MT (d + 4) 214 [.ref 66, .int p0, .int p1, .int p2] σ P := by
  unfold f_M_bitsOfSum at h
  refine call_of (code := mc_M_bitsOfSum) (L := [some (.ref 66), some (.int p0), some (.int p1), some (.int p2)]) rfl rfl rfl rfl ?_
  obtain ⟨x1, hx1, h⟩ := bind_of h
  refine go_call (r := none) (σc := σ) (σ1 := x1) (mi := 104) (vs := [.ref 66, .int p0, .int p1, .int p2]) (k' := 5) (L' := [some (.ref 66), some (.int p0), some (.int p1), some (.int p2)]) (S' := []) 5 (fun P9 h9 => c_M_joins (d + 0) p0 p1 p2 σ hx1 h9) (fun n h => h) ?_
  refine go_ifz (b := (x1.2.2 66 25)) (k1 := 10) (L1 := [some (.ref 66), some (.int p0), some (.int p1), some (.int p2)]) (S1 := []) (σ1 := x1) (k2 := 8) (L2 := [some (.ref 66), some (.int p0), some (.int p1), some (.int p2)]) (S2 := []) (σ2 := x1) 3 (fun n h => h) (fun hc2 => ?_) (fun hc2 => ?_)
  · rw [if_neg hc2] at h
    refine go_call (r := some (.long (f_M_heightOf (x1.2.1 66 23) (x1.2.1 66 24)))) (σc := x1) (σ1 := x1) (mi := 114) (vs := [.long (x1.2.1 66 23), .long (x1.2.1 66 24)]) (k' := 15) (L' := [some (.ref 66), some (.int p0), some (.int p1), some (.int p2)]) (S' := []) 5 (fun P9 h9 => c_M_heightOf (d + 2) (x1.2.1 66 23) (x1.2.1 66 24) x1 h9) (fun n h => h) ?_
    obtain ⟨x3, hx3, h⟩ := bind_of h
    refine go_call (r := some (.int x3)) (σc := x1) (σ1 := x1) (mi := 210) (vs := [.long (f_M_heightOf (x1.2.1 66 23) (x1.2.1 66 24))]) (k' := 16) (L' := [some (.ref 66), some (.int p0), some (.int p1), some (.int p2)]) (S' := []) 1 (fun P9 h9 => c_M_bitsOf (d + 2) (f_M_heightOf (x1.2.1 66 23) (x1.2.1 66 24)) x1 hx3 h9) (fun n h => h) ?_
    cases h
    exact go_ret 1 (fun _ => hp)
  · rw [if_pos hc2] at h
    cases h
    exact go_ret 3 (fun _ => hp)
def f_M_parallel (N : Nat) (p0 : Int32) (p1 : Int32) (σ : aSt) : Option (Int64 × aSt) :=
  (if (f_M_isListed p0 σ) = true then (if (f_M_isListed p1 σ) = true then ((f_M_bitsOfSum N p0 p1 (1 : Int32) σ).bind fun x3 => ((f_M_bitsOfSum N p0 p1 (-1 : Int32) x3.2).bind fun x4 => ((f_M_heightAt N p0 x4.2).bind fun x5 => ((f_M_bitsOf N x5).bind fun x6 => ((f_M_heightAt N p1 x4.2).bind fun x7 => ((f_M_bitsOf N x7).bind fun x8 => some (((x3.1 + x4.1).toInt64 - ((2 : Int64) * (x6 + x8).toInt64)), x4.2))))))) else some ((-9223372036854775808 : Int64), σ)) else some ((-9223372036854775808 : Int64), σ))
set_option maxRecDepth 20000 in
set_option maxHeartbeats 4000000 in
theorem c_M_parallel (d : Nat) {N : Nat} (p0 : Int32) (p1 : Int32) (σ : aSt) {P : Option Value → aSt → Prop} {x : (Int64 × aSt)} (h : f_M_parallel N p0 p1 σ = some x) (hp : P (some (.long x.1)) x.2) : aCall MT (d + 5) 215 [.ref 66, .int p0, .int p1] σ P := by
  unfold f_M_parallel at h
  refine call_of (code := mc_M_parallel) (L := [some (.ref 66), some (.int p0), some (.int p1)]) rfl rfl rfl rfl ?_
  refine go_call (r := some (.int (b2i (f_M_isListed p0 σ)))) (σc := σ) (σ1 := σ) (mi := 79) (vs := [.ref 66, .int p0]) (k' := 3) (L' := [some (.ref 66), some (.int p0), some (.int p1)]) (S' := []) 3 (fun P9 h9 => c_M_isListed (d + 2) p0 σ h9) (fun n h => h) ?_
  refine go_ifz (b := (f_M_isListed p0 σ)) (k1 := 8) (L1 := [some (.ref 66), some (.int p0), some (.int p1)]) (S1 := []) (σ1 := σ) (k2 := 4) (L2 := [some (.ref 66), some (.int p0), some (.int p1)]) (S2 := []) (σ2 := σ) 1 (fun n h => h) (fun hc1 => ?_) (fun hc1 => ?_)
  · rw [if_neg hc1] at h
    cases h
    exact go_ret 2 (fun _ => hp)
  · rw [if_pos hc1] at h
    refine go_call (r := some (.int (b2i (f_M_isListed p1 σ)))) (σc := σ) (σ1 := σ) (mi := 79) (vs := [.ref 66, .int p1]) (k' := 7) (L' := [some (.ref 66), some (.int p0), some (.int p1)]) (S' := []) 3 (fun P9 h9 => c_M_isListed (d + 2) p1 σ h9) (fun n h => h) ?_
    refine go_ifn (b := (f_M_isListed p1 σ)) (k1 := 10) (L1 := [some (.ref 66), some (.int p0), some (.int p1)]) (S1 := []) (σ1 := σ) (k2 := 8) (L2 := [some (.ref 66), some (.int p0), some (.int p1)]) (S2 := []) (σ2 := σ) 1 (fun n h => h) (fun hc2 => ?_) (fun hc2 => ?_)
    · rw [if_pos hc2] at h
      obtain ⟨x3, hx3, h⟩ := bind_of h
      refine go_call (r := some (.int x3.1)) (σc := σ) (σ1 := x3.2) (mi := 214) (vs := [.ref 66, .int p0, .int p1, .int (1 : Int32)]) (k' := 15) (L' := [some (.ref 66), some (.int p0), some (.int p1)]) (S' := []) 5 (fun P9 h9 => c_M_bitsOfSum (d + 0) p0 p1 (1 : Int32) σ hx3 h9) (fun n h => h) ?_
      obtain ⟨x4, hx4, h⟩ := bind_of h
      refine go_call (r := some (.int x4.1)) (σc := x3.2) (σ1 := x4.2) (mi := 214) (vs := [.ref 66, .int p0, .int p1, .int (-1 : Int32)]) (k' := 20) (L' := [some (.ref 66), some (.int p0), some (.int p1)]) (S' := [.int x3.1]) 5 (fun P9 h9 => c_M_bitsOfSum (d + 0) p0 p1 (-1 : Int32) x3.2 hx4 h9) (fun n h => h) ?_
      obtain ⟨x5, hx5, h⟩ := bind_of h
      refine go_call (r := some (.long x5)) (σc := x4.2) (σ1 := x4.2) (mi := 209) (vs := [.ref 66, .int p0]) (k' := 26) (L' := [some (.ref 66), some (.int p0), some (.int p1)]) (S' := [.long (2 : Int64), .long (x3.1 + x4.1).toInt64]) 6 (fun P9 h9 => c_M_heightAt (d + 2) p0 x4.2 hx5 h9) (fun n h => h) ?_
      obtain ⟨x6, hx6, h⟩ := bind_of h
      refine go_call (r := some (.int x6)) (σc := x4.2) (σ1 := x4.2) (mi := 210) (vs := [.long x5]) (k' := 27) (L' := [some (.ref 66), some (.int p0), some (.int p1)]) (S' := [.long (2 : Int64), .long (x3.1 + x4.1).toInt64]) 1 (fun P9 h9 => c_M_bitsOf (d + 3) x5 x4.2 hx6 h9) (fun n h => h) ?_
      obtain ⟨x7, hx7, h⟩ := bind_of h
      refine go_call (r := some (.long x7)) (σc := x4.2) (σ1 := x4.2) (mi := 209) (vs := [.ref 66, .int p1]) (k' := 30) (L' := [some (.ref 66), some (.int p0), some (.int p1)]) (S' := [.int x6, .long (2 : Int64), .long (x3.1 + x4.1).toInt64]) 3 (fun P9 h9 => c_M_heightAt (d + 2) p1 x4.2 hx7 h9) (fun n h => h) ?_
      obtain ⟨x8, hx8, h⟩ := bind_of h
      refine go_call (r := some (.int x8)) (σc := x4.2) (σ1 := x4.2) (mi := 210) (vs := [.long x7]) (k' := 31) (L' := [some (.ref 66), some (.int p0), some (.int p1)]) (S' := [.int x6, .long (2 : Int64), .long (x3.1 + x4.1).toInt64]) 1 (fun P9 h9 => c_M_bitsOf (d + 3) x7 x4.2 hx8 h9) (fun n h => h) ?_
      cases h
      exact go_ret 5 (fun _ => hp)
    · rw [if_neg hc2] at h
      cases h
      exact go_ret 2 (fun _ => hp)
def f_M_placeOf (p0 : Int32) (σ : aSt) : Int32 :=
  (if p0 ≠ (1000 : Int32) then p0 else (120 : Int32))
set_option maxRecDepth 20000 in
set_option maxHeartbeats 4000000 in
theorem c_M_placeOf (d : Nat) (p0 : Int32) (σ : aSt) {P : Option Value → aSt → Prop} (h : P (some (.int ((f_M_placeOf p0 σ)))) σ) : aCall MT (d + 1) 222 [.ref 66, .int p0] σ P := by
  unfold f_M_placeOf at h
  refine call_of (code := mc_M_placeOf) (L := [some (.ref 66), some (.int p0)]) rfl rfl rfl rfl ?_
  refine go_if (c := p0 ≠ (1000 : Int32)) (k1 := 5) (L1 := [some (.ref 66), some (.int p0)]) (S1 := []) (σ1 := σ) (k2 := 3) (L2 := [some (.ref 66), some (.int p0)]) (S2 := []) (σ2 := σ) 3 (fun n h => h) (fun hc1 => ?_) (fun hc1 => ?_)
  · rw [if_pos hc1] at h
    exact go_ret 2 (fun _ => h)
  · rw [if_neg hc1] at h
    exact go_ret 3 (fun _ => h)
def f_M_laysIn_l48 (N : Nat) (k103 : Int32 → Int32 → aSt → Option aSt) : Nat → Int32 → Int32 → Int32 → aSt → Option aSt
  | 0, _, _, _, _ => none
  | n + 1, v1, v2, v3, σ => (if ((2 : Int32) * (σ.1 66 55)) ≤ v3 then k103 v1 v2 σ else (if 0 ≤ v2 ∧ v2 < (121 : Int32) then (if (σ.2.2 84 v2.toNatClampNeg) = true then (if v2 ≠ (120 : Int32) then (if 0 ≤ (v3 / (2 : Int32)) ∧ (v3 / (2 : Int32)) < (120 : Int32) then (if (irem v3 (2 : Int32)) ≠ 0 then ((f_M_sumOf N v2 (σ.1 85 (v3 / (2 : Int32)).toNatClampNeg) (-1 : Int32) σ).bind fun x11 => (if x11.1 = (-6 : Int32) then f_M_laysIn_l48 N k103 n v1 v2 (v3 + (1 : Int32)) x11.2 else (if 0 ≤ (f_M_placeOf x11.1 x11.2) ∧ (f_M_placeOf x11.1 x11.2) < (121 : Int32) then (if (x11.2.2.2 84 (f_M_placeOf x11.1 x11.2).toNatClampNeg) = true then f_M_laysIn_l48 N k103 n v1 v2 (v3 + (1 : Int32)) x11.2 else f_M_laysIn_l48 N k103 n (1 : Int32) v2 (v3 + (1 : Int32)) (s_b x11.2 84 (f_M_placeOf x11.1 x11.2).toNatClampNeg true)) else none))) else ((f_M_sumOf N v2 (σ.1 85 (v3 / (2 : Int32)).toNatClampNeg) (1 : Int32) σ).bind fun x15 => (if x15.1 = (-6 : Int32) then f_M_laysIn_l48 N k103 n v1 v2 (v3 + (1 : Int32)) x15.2 else (if 0 ≤ (f_M_placeOf x15.1 x15.2) ∧ (f_M_placeOf x15.1 x15.2) < (121 : Int32) then (if (x15.2.2.2 84 (f_M_placeOf x15.1 x15.2).toNatClampNeg) = true then f_M_laysIn_l48 N k103 n v1 v2 (v3 + (1 : Int32)) x15.2 else f_M_laysIn_l48 N k103 n (1 : Int32) v2 (v3 + (1 : Int32)) (s_b x15.2 84 (f_M_placeOf x15.1 x15.2).toNatClampNeg true)) else none)))) else none) else (if 0 ≤ (v3 / (2 : Int32)) ∧ (v3 / (2 : Int32)) < (120 : Int32) then (if (irem v3 (2 : Int32)) ≠ 0 then ((f_M_sumOf N (1000 : Int32) (σ.1 85 (v3 / (2 : Int32)).toNatClampNeg) (-1 : Int32) σ).bind fun x21 => (if x21.1 = (-6 : Int32) then f_M_laysIn_l48 N k103 n v1 v2 (v3 + (1 : Int32)) x21.2 else (if 0 ≤ (f_M_placeOf x21.1 x21.2) ∧ (f_M_placeOf x21.1 x21.2) < (121 : Int32) then (if (x21.2.2.2 84 (f_M_placeOf x21.1 x21.2).toNatClampNeg) = true then f_M_laysIn_l48 N k103 n v1 v2 (v3 + (1 : Int32)) x21.2 else f_M_laysIn_l48 N k103 n (1 : Int32) v2 (v3 + (1 : Int32)) (s_b x21.2 84 (f_M_placeOf x21.1 x21.2).toNatClampNeg true)) else none))) else ((f_M_sumOf N (1000 : Int32) (σ.1 85 (v3 / (2 : Int32)).toNatClampNeg) (1 : Int32) σ).bind fun x25 => (if x25.1 = (-6 : Int32) then f_M_laysIn_l48 N k103 n v1 v2 (v3 + (1 : Int32)) x25.2 else (if 0 ≤ (f_M_placeOf x25.1 x25.2) ∧ (f_M_placeOf x25.1 x25.2) < (121 : Int32) then (if (x25.2.2.2 84 (f_M_placeOf x25.1 x25.2).toNatClampNeg) = true then f_M_laysIn_l48 N k103 n v1 v2 (v3 + (1 : Int32)) x25.2 else f_M_laysIn_l48 N k103 n (1 : Int32) v2 (v3 + (1 : Int32)) (s_b x25.2 84 (f_M_placeOf x25.1 x25.2).toNatClampNeg true)) else none)))) else none)) else k103 v1 v2 σ) else none))
set_option maxRecDepth 20000 in
set_option maxHeartbeats 4000000 in
theorem t_M_laysIn_l48 (d : Nat) {N : Nat} (k103 : Int32 → Int32 → aSt → Option aSt) {x : aSt} {P : Option Value → aSt → Prop} (hp : P none x) (hk103 : ∀ (d3 d4 : Option Value) (v1 : Int32) (v2 : Int32) (σ : aSt), k103 v1 v2 σ = some x → aGo (aCall MT (d + 4)) P mc_M_laysIn 103 [some (.ref 66), some (.int v1), some (.int v2), d3, d4] [] σ) : ∀ (n : Nat) (d4 : Option Value) (v1 : Int32) (v2 : Int32) (v3 : Int32) (σ : aSt), f_M_laysIn_l48 N k103 n v1 v2 v3 σ = some x → aGo (aCall MT (d + 4)) P mc_M_laysIn 48 [some (.ref 66), some (.int v1), some (.int v2), some (.int v3), d4] [] σ := by
  intro n
  induction n with
  | zero => intro d4 v1 v2 v3 σ h; cases h
  | succ n ih =>
    intro d4 v1 v2 v3 σ h
    rw [f_M_laysIn_l48] at h
    refine go_if (c := ((2 : Int32) * (σ.1 66 55)) ≤ v3) (k1 := 103) (L1 := [some (.ref 66), some (.int v1), some (.int v2), some (.int v3), d4]) (S1 := []) (σ1 := σ) (k2 := 54) (L2 := [some (.ref 66), some (.int v1), some (.int v2), some (.int v3), d4]) (S2 := []) (σ2 := σ) 6 (fun n h => h) (fun hc5 => ?_) (fun hc5 => ?_)
    · rw [if_pos hc5] at h
      exact hk103 _ _ v1 v2 σ h
    · rw [if_neg hc5] at h
      obtain ⟨hc6, h⟩ := ite_of h
      refine go_q (Q := inb 3 σ 84 v2) (k' := 58) (L' := [some (.ref 66), some (.int v1), some (.int v2), some (.int v3), d4]) (S' := [.int (b2i (σ.2.2 84 v2.toNatClampNeg))]) (σ' := σ) 4 (inb_mk rfl hc6.1 hc6.2) (fun n h => h) ?_
      refine go_ifz (b := (σ.2.2 84 v2.toNatClampNeg)) (k1 := 103) (L1 := [some (.ref 66), some (.int v1), some (.int v2), some (.int v3), d4]) (S1 := []) (σ1 := σ) (k2 := 59) (L2 := [some (.ref 66), some (.int v1), some (.int v2), some (.int v3), d4]) (S2 := []) (σ2 := σ) 1 (fun n h => h) (fun hc7 => ?_) (fun hc7 => ?_)
      · rw [if_neg hc7] at h
        exact hk103 _ _ v1 v2 σ h
      · rw [if_pos hc7] at h
        refine go_if (c := v2 ≠ (120 : Int32)) (k1 := 65) (L1 := [some (.ref 66), some (.int v1), some (.int v2), some (.int v3), d4]) (S1 := [.ref 66]) (σ1 := σ) (k2 := 63) (L2 := [some (.ref 66), some (.int v1), some (.int v2), some (.int v3), d4]) (S2 := [.ref 66]) (σ2 := σ) 4 (fun n h => h) (fun hc8 => ?_) (fun hc8 => ?_)
        · rw [if_pos hc8] at h
          refine go_q (Q := ¬ (2 : Int32) = 0) (k' := 71) (L' := [some (.ref 66), some (.int v1), some (.int v2), some (.int v3), d4]) (S' := [.int (v3 / (2 : Int32)), .ref 85, .int v2, .ref 66]) (σ' := σ) 6 (by decide) (fun n h => h) ?_
          obtain ⟨hc9, h⟩ := ite_of h
          refine go_q (Q := inb 0 σ 85 (v3 / (2 : Int32))) (k' := 72) (L' := [some (.ref 66), some (.int v1), some (.int v2), some (.int v3), d4]) (S' := [.int (σ.1 85 (v3 / (2 : Int32)).toNatClampNeg), .int v2, .ref 66]) (σ' := σ) 1 (inb_mk rfl hc9.1 hc9.2) (fun n h => h) ?_
          refine go_q (Q := ¬ (2 : Int32) = 0) (k' := 75) (L' := [some (.ref 66), some (.int v1), some (.int v2), some (.int v3), d4]) (S' := [.int (irem v3 (2 : Int32)), .int (σ.1 85 (v3 / (2 : Int32)).toNatClampNeg), .int v2, .ref 66]) (σ' := σ) 3 (by decide) (fun n h => h) ?_
          refine go_if (c := (irem v3 (2 : Int32)) ≠ 0) (k1 := 78) (L1 := [some (.ref 66), some (.int v1), some (.int v2), some (.int v3), d4]) (S1 := [.int (σ.1 85 (v3 / (2 : Int32)).toNatClampNeg), .int v2, .ref 66]) (σ1 := σ) (k2 := 76) (L2 := [some (.ref 66), some (.int v1), some (.int v2), some (.int v3), d4]) (S2 := [.int (σ.1 85 (v3 / (2 : Int32)).toNatClampNeg), .int v2, .ref 66]) (σ2 := σ) 1 (fun n h => h) (fun hc10 => ?_) (fun hc10 => ?_)
          · rw [if_pos hc10] at h
            obtain ⟨x11, hx11, h⟩ := bind_of h
            refine go_call (r := some (.int x11.1)) (σc := σ) (σ1 := x11.2) (mi := 105) (vs := [.ref 66, .int v2, .int (σ.1 85 (v3 / (2 : Int32)).toNatClampNeg), .int (-1 : Int32)]) (k' := 80) (L' := [some (.ref 66), some (.int v1), some (.int v2), some (.int v3), d4]) (S' := []) 2 (fun P9 h9 => c_M_sumOf (d + 0) v2 (σ.1 85 (v3 / (2 : Int32)).toNatClampNeg) (-1 : Int32) σ hx11 h9) (fun n h => h) ?_
            refine go_if (c := x11.1 = (-6 : Int32)) (k1 := 101) (L1 := [some (.ref 66), some (.int v1), some (.int v2), some (.int v3), some (.int x11.1)]) (S1 := []) (σ1 := x11.2) (k2 := 84) (L2 := [some (.ref 66), some (.int v1), some (.int v2), some (.int v3), some (.int x11.1)]) (S2 := []) (σ2 := x11.2) 4 (fun n h => h) (fun hc12 => ?_) (fun hc12 => ?_)
            · rw [if_pos hc12] at h
              refine go_st (k' := 48) (L' := [some (.ref 66), some (.int v1), some (.int v2), some (.int (v3 + (1 : Int32))), some (.int x11.1)]) (S' := []) (σ' := x11.2) 2 (fun n h => h) ?_
              exact ih _ v1 v2 (v3 + (1 : Int32)) x11.2 h
            · rw [if_neg hc12] at h
              refine go_call (r := some (.int (f_M_placeOf x11.1 x11.2))) (σc := x11.2) (σ1 := x11.2) (mi := 222) (vs := [.ref 66, .int x11.1]) (k' := 89) (L' := [some (.ref 66), some (.int v1), some (.int v2), some (.int v3), some (.int x11.1)]) (S' := [.ref 84]) 5 (fun P9 h9 => c_M_placeOf (d + 3) x11.1 x11.2 h9) (fun n h => h) ?_
              obtain ⟨hc13, h⟩ := ite_of h
              refine go_q (Q := inb 3 x11.2 84 (f_M_placeOf x11.1 x11.2)) (k' := 90) (L' := [some (.ref 66), some (.int v1), some (.int v2), some (.int v3), some (.int x11.1)]) (S' := [.int (b2i (x11.2.2.2 84 (f_M_placeOf x11.1 x11.2).toNatClampNeg))]) (σ' := x11.2) 1 (inb_mk rfl hc13.1 hc13.2) (fun n h => h) ?_
              refine go_ifz (b := (x11.2.2.2 84 (f_M_placeOf x11.1 x11.2).toNatClampNeg)) (k1 := 92) (L1 := [some (.ref 66), some (.int v1), some (.int v2), some (.int v3), some (.int x11.1)]) (S1 := []) (σ1 := x11.2) (k2 := 91) (L2 := [some (.ref 66), some (.int v1), some (.int v2), some (.int v3), some (.int x11.1)]) (S2 := []) (σ2 := x11.2) 1 (fun n h => h) (fun hc14 => ?_) (fun hc14 => ?_)
              · rw [if_neg hc14] at h
                refine go_call (r := some (.int (f_M_placeOf x11.1 x11.2))) (σc := x11.2) (σ1 := x11.2) (mi := 222) (vs := [.ref 66, .int x11.1]) (k' := 97) (L' := [some (.ref 66), some (.int v1), some (.int v2), some (.int v3), some (.int x11.1)]) (S' := [.ref 84]) 5 (fun P9 h9 => c_M_placeOf (d + 3) x11.1 x11.2 h9) (fun n h => h) ?_
                refine go_q2 (Q := inb 3 x11.2 84 (f_M_placeOf x11.1 x11.2)) (Q2 := (1 : Int32) = 0 ∨ (1 : Int32) = 1) (k' := 99) (L' := [some (.ref 66), some (.int v1), some (.int v2), some (.int v3), some (.int x11.1)]) (S' := []) (σ' := (s_b x11.2 84 (f_M_placeOf x11.1 x11.2).toNatClampNeg true)) 2 (inb_mk rfl hc13.1 hc13.2) (Or.inr rfl) (fun n h => h) ?_
                refine go_st (k' := 48) (L' := [some (.ref 66), some (.int (1 : Int32)), some (.int v2), some (.int (v3 + (1 : Int32))), some (.int x11.1)]) (S' := []) (σ' := (s_b x11.2 84 (f_M_placeOf x11.1 x11.2).toNatClampNeg true)) 4 (fun n h => h) ?_
                exact ih _ (1 : Int32) v2 (v3 + (1 : Int32)) (s_b x11.2 84 (f_M_placeOf x11.1 x11.2).toNatClampNeg true) h
              · rw [if_pos hc14] at h
                refine go_st (k' := 48) (L' := [some (.ref 66), some (.int v1), some (.int v2), some (.int (v3 + (1 : Int32))), some (.int x11.1)]) (S' := []) (σ' := x11.2) 3 (fun n h => h) ?_
                exact ih _ v1 v2 (v3 + (1 : Int32)) x11.2 h
          · rw [if_neg hc10] at h
            obtain ⟨x15, hx15, h⟩ := bind_of h
            refine go_call (r := some (.int x15.1)) (σc := σ) (σ1 := x15.2) (mi := 105) (vs := [.ref 66, .int v2, .int (σ.1 85 (v3 / (2 : Int32)).toNatClampNeg), .int (1 : Int32)]) (k' := 80) (L' := [some (.ref 66), some (.int v1), some (.int v2), some (.int v3), d4]) (S' := []) 3 (fun P9 h9 => c_M_sumOf (d + 0) v2 (σ.1 85 (v3 / (2 : Int32)).toNatClampNeg) (1 : Int32) σ hx15 h9) (fun n h => h) ?_
            refine go_if (c := x15.1 = (-6 : Int32)) (k1 := 101) (L1 := [some (.ref 66), some (.int v1), some (.int v2), some (.int v3), some (.int x15.1)]) (S1 := []) (σ1 := x15.2) (k2 := 84) (L2 := [some (.ref 66), some (.int v1), some (.int v2), some (.int v3), some (.int x15.1)]) (S2 := []) (σ2 := x15.2) 4 (fun n h => h) (fun hc16 => ?_) (fun hc16 => ?_)
            · rw [if_pos hc16] at h
              refine go_st (k' := 48) (L' := [some (.ref 66), some (.int v1), some (.int v2), some (.int (v3 + (1 : Int32))), some (.int x15.1)]) (S' := []) (σ' := x15.2) 2 (fun n h => h) ?_
              exact ih _ v1 v2 (v3 + (1 : Int32)) x15.2 h
            · rw [if_neg hc16] at h
              refine go_call (r := some (.int (f_M_placeOf x15.1 x15.2))) (σc := x15.2) (σ1 := x15.2) (mi := 222) (vs := [.ref 66, .int x15.1]) (k' := 89) (L' := [some (.ref 66), some (.int v1), some (.int v2), some (.int v3), some (.int x15.1)]) (S' := [.ref 84]) 5 (fun P9 h9 => c_M_placeOf (d + 3) x15.1 x15.2 h9) (fun n h => h) ?_
              obtain ⟨hc17, h⟩ := ite_of h
              refine go_q (Q := inb 3 x15.2 84 (f_M_placeOf x15.1 x15.2)) (k' := 90) (L' := [some (.ref 66), some (.int v1), some (.int v2), some (.int v3), some (.int x15.1)]) (S' := [.int (b2i (x15.2.2.2 84 (f_M_placeOf x15.1 x15.2).toNatClampNeg))]) (σ' := x15.2) 1 (inb_mk rfl hc17.1 hc17.2) (fun n h => h) ?_
              refine go_ifz (b := (x15.2.2.2 84 (f_M_placeOf x15.1 x15.2).toNatClampNeg)) (k1 := 92) (L1 := [some (.ref 66), some (.int v1), some (.int v2), some (.int v3), some (.int x15.1)]) (S1 := []) (σ1 := x15.2) (k2 := 91) (L2 := [some (.ref 66), some (.int v1), some (.int v2), some (.int v3), some (.int x15.1)]) (S2 := []) (σ2 := x15.2) 1 (fun n h => h) (fun hc18 => ?_) (fun hc18 => ?_)
              · rw [if_neg hc18] at h
                refine go_call (r := some (.int (f_M_placeOf x15.1 x15.2))) (σc := x15.2) (σ1 := x15.2) (mi := 222) (vs := [.ref 66, .int x15.1]) (k' := 97) (L' := [some (.ref 66), some (.int v1), some (.int v2), some (.int v3), some (.int x15.1)]) (S' := [.ref 84]) 5 (fun P9 h9 => c_M_placeOf (d + 3) x15.1 x15.2 h9) (fun n h => h) ?_
                refine go_q2 (Q := inb 3 x15.2 84 (f_M_placeOf x15.1 x15.2)) (Q2 := (1 : Int32) = 0 ∨ (1 : Int32) = 1) (k' := 99) (L' := [some (.ref 66), some (.int v1), some (.int v2), some (.int v3), some (.int x15.1)]) (S' := []) (σ' := (s_b x15.2 84 (f_M_placeOf x15.1 x15.2).toNatClampNeg true)) 2 (inb_mk rfl hc17.1 hc17.2) (Or.inr rfl) (fun n h => h) ?_
                refine go_st (k' := 48) (L' := [some (.ref 66), some (.int (1 : Int32)), some (.int v2), some (.int (v3 + (1 : Int32))), some (.int x15.1)]) (S' := []) (σ' := (s_b x15.2 84 (f_M_placeOf x15.1 x15.2).toNatClampNeg true)) 4 (fun n h => h) ?_
                exact ih _ (1 : Int32) v2 (v3 + (1 : Int32)) (s_b x15.2 84 (f_M_placeOf x15.1 x15.2).toNatClampNeg true) h
              · rw [if_pos hc18] at h
                refine go_st (k' := 48) (L' := [some (.ref 66), some (.int v1), some (.int v2), some (.int (v3 + (1 : Int32))), some (.int x15.1)]) (S' := []) (σ' := x15.2) 3 (fun n h => h) ?_
                exact ih _ v1 v2 (v3 + (1 : Int32)) x15.2 h
        · rw [if_neg hc8] at h
          refine go_q (Q := ¬ (2 : Int32) = 0) (k' := 71) (L' := [some (.ref 66), some (.int v1), some (.int v2), some (.int v3), d4]) (S' := [.int (v3 / (2 : Int32)), .ref 85, .int (1000 : Int32), .ref 66]) (σ' := σ) 7 (by decide) (fun n h => h) ?_
          obtain ⟨hc19, h⟩ := ite_of h
          refine go_q (Q := inb 0 σ 85 (v3 / (2 : Int32))) (k' := 72) (L' := [some (.ref 66), some (.int v1), some (.int v2), some (.int v3), d4]) (S' := [.int (σ.1 85 (v3 / (2 : Int32)).toNatClampNeg), .int (1000 : Int32), .ref 66]) (σ' := σ) 1 (inb_mk rfl hc19.1 hc19.2) (fun n h => h) ?_
          refine go_q (Q := ¬ (2 : Int32) = 0) (k' := 75) (L' := [some (.ref 66), some (.int v1), some (.int v2), some (.int v3), d4]) (S' := [.int (irem v3 (2 : Int32)), .int (σ.1 85 (v3 / (2 : Int32)).toNatClampNeg), .int (1000 : Int32), .ref 66]) (σ' := σ) 3 (by decide) (fun n h => h) ?_
          refine go_if (c := (irem v3 (2 : Int32)) ≠ 0) (k1 := 78) (L1 := [some (.ref 66), some (.int v1), some (.int v2), some (.int v3), d4]) (S1 := [.int (σ.1 85 (v3 / (2 : Int32)).toNatClampNeg), .int (1000 : Int32), .ref 66]) (σ1 := σ) (k2 := 76) (L2 := [some (.ref 66), some (.int v1), some (.int v2), some (.int v3), d4]) (S2 := [.int (σ.1 85 (v3 / (2 : Int32)).toNatClampNeg), .int (1000 : Int32), .ref 66]) (σ2 := σ) 1 (fun n h => h) (fun hc20 => ?_) (fun hc20 => ?_)
          · rw [if_pos hc20] at h
            obtain ⟨x21, hx21, h⟩ := bind_of h
            refine go_call (r := some (.int x21.1)) (σc := σ) (σ1 := x21.2) (mi := 105) (vs := [.ref 66, .int (1000 : Int32), .int (σ.1 85 (v3 / (2 : Int32)).toNatClampNeg), .int (-1 : Int32)]) (k' := 80) (L' := [some (.ref 66), some (.int v1), some (.int v2), some (.int v3), d4]) (S' := []) 2 (fun P9 h9 => c_M_sumOf (d + 0) (1000 : Int32) (σ.1 85 (v3 / (2 : Int32)).toNatClampNeg) (-1 : Int32) σ hx21 h9) (fun n h => h) ?_
            refine go_if (c := x21.1 = (-6 : Int32)) (k1 := 101) (L1 := [some (.ref 66), some (.int v1), some (.int v2), some (.int v3), some (.int x21.1)]) (S1 := []) (σ1 := x21.2) (k2 := 84) (L2 := [some (.ref 66), some (.int v1), some (.int v2), some (.int v3), some (.int x21.1)]) (S2 := []) (σ2 := x21.2) 4 (fun n h => h) (fun hc22 => ?_) (fun hc22 => ?_)
            · rw [if_pos hc22] at h
              refine go_st (k' := 48) (L' := [some (.ref 66), some (.int v1), some (.int v2), some (.int (v3 + (1 : Int32))), some (.int x21.1)]) (S' := []) (σ' := x21.2) 2 (fun n h => h) ?_
              exact ih _ v1 v2 (v3 + (1 : Int32)) x21.2 h
            · rw [if_neg hc22] at h
              refine go_call (r := some (.int (f_M_placeOf x21.1 x21.2))) (σc := x21.2) (σ1 := x21.2) (mi := 222) (vs := [.ref 66, .int x21.1]) (k' := 89) (L' := [some (.ref 66), some (.int v1), some (.int v2), some (.int v3), some (.int x21.1)]) (S' := [.ref 84]) 5 (fun P9 h9 => c_M_placeOf (d + 3) x21.1 x21.2 h9) (fun n h => h) ?_
              obtain ⟨hc23, h⟩ := ite_of h
              refine go_q (Q := inb 3 x21.2 84 (f_M_placeOf x21.1 x21.2)) (k' := 90) (L' := [some (.ref 66), some (.int v1), some (.int v2), some (.int v3), some (.int x21.1)]) (S' := [.int (b2i (x21.2.2.2 84 (f_M_placeOf x21.1 x21.2).toNatClampNeg))]) (σ' := x21.2) 1 (inb_mk rfl hc23.1 hc23.2) (fun n h => h) ?_
              refine go_ifz (b := (x21.2.2.2 84 (f_M_placeOf x21.1 x21.2).toNatClampNeg)) (k1 := 92) (L1 := [some (.ref 66), some (.int v1), some (.int v2), some (.int v3), some (.int x21.1)]) (S1 := []) (σ1 := x21.2) (k2 := 91) (L2 := [some (.ref 66), some (.int v1), some (.int v2), some (.int v3), some (.int x21.1)]) (S2 := []) (σ2 := x21.2) 1 (fun n h => h) (fun hc24 => ?_) (fun hc24 => ?_)
              · rw [if_neg hc24] at h
                refine go_call (r := some (.int (f_M_placeOf x21.1 x21.2))) (σc := x21.2) (σ1 := x21.2) (mi := 222) (vs := [.ref 66, .int x21.1]) (k' := 97) (L' := [some (.ref 66), some (.int v1), some (.int v2), some (.int v3), some (.int x21.1)]) (S' := [.ref 84]) 5 (fun P9 h9 => c_M_placeOf (d + 3) x21.1 x21.2 h9) (fun n h => h) ?_
                refine go_q2 (Q := inb 3 x21.2 84 (f_M_placeOf x21.1 x21.2)) (Q2 := (1 : Int32) = 0 ∨ (1 : Int32) = 1) (k' := 99) (L' := [some (.ref 66), some (.int v1), some (.int v2), some (.int v3), some (.int x21.1)]) (S' := []) (σ' := (s_b x21.2 84 (f_M_placeOf x21.1 x21.2).toNatClampNeg true)) 2 (inb_mk rfl hc23.1 hc23.2) (Or.inr rfl) (fun n h => h) ?_
                refine go_st (k' := 48) (L' := [some (.ref 66), some (.int (1 : Int32)), some (.int v2), some (.int (v3 + (1 : Int32))), some (.int x21.1)]) (S' := []) (σ' := (s_b x21.2 84 (f_M_placeOf x21.1 x21.2).toNatClampNeg true)) 4 (fun n h => h) ?_
                exact ih _ (1 : Int32) v2 (v3 + (1 : Int32)) (s_b x21.2 84 (f_M_placeOf x21.1 x21.2).toNatClampNeg true) h
              · rw [if_pos hc24] at h
                refine go_st (k' := 48) (L' := [some (.ref 66), some (.int v1), some (.int v2), some (.int (v3 + (1 : Int32))), some (.int x21.1)]) (S' := []) (σ' := x21.2) 3 (fun n h => h) ?_
                exact ih _ v1 v2 (v3 + (1 : Int32)) x21.2 h
          · rw [if_neg hc20] at h
            obtain ⟨x25, hx25, h⟩ := bind_of h
            refine go_call (r := some (.int x25.1)) (σc := σ) (σ1 := x25.2) (mi := 105) (vs := [.ref 66, .int (1000 : Int32), .int (σ.1 85 (v3 / (2 : Int32)).toNatClampNeg), .int (1 : Int32)]) (k' := 80) (L' := [some (.ref 66), some (.int v1), some (.int v2), some (.int v3), d4]) (S' := []) 3 (fun P9 h9 => c_M_sumOf (d + 0) (1000 : Int32) (σ.1 85 (v3 / (2 : Int32)).toNatClampNeg) (1 : Int32) σ hx25 h9) (fun n h => h) ?_
            refine go_if (c := x25.1 = (-6 : Int32)) (k1 := 101) (L1 := [some (.ref 66), some (.int v1), some (.int v2), some (.int v3), some (.int x25.1)]) (S1 := []) (σ1 := x25.2) (k2 := 84) (L2 := [some (.ref 66), some (.int v1), some (.int v2), some (.int v3), some (.int x25.1)]) (S2 := []) (σ2 := x25.2) 4 (fun n h => h) (fun hc26 => ?_) (fun hc26 => ?_)
            · rw [if_pos hc26] at h
              refine go_st (k' := 48) (L' := [some (.ref 66), some (.int v1), some (.int v2), some (.int (v3 + (1 : Int32))), some (.int x25.1)]) (S' := []) (σ' := x25.2) 2 (fun n h => h) ?_
              exact ih _ v1 v2 (v3 + (1 : Int32)) x25.2 h
            · rw [if_neg hc26] at h
              refine go_call (r := some (.int (f_M_placeOf x25.1 x25.2))) (σc := x25.2) (σ1 := x25.2) (mi := 222) (vs := [.ref 66, .int x25.1]) (k' := 89) (L' := [some (.ref 66), some (.int v1), some (.int v2), some (.int v3), some (.int x25.1)]) (S' := [.ref 84]) 5 (fun P9 h9 => c_M_placeOf (d + 3) x25.1 x25.2 h9) (fun n h => h) ?_
              obtain ⟨hc27, h⟩ := ite_of h
              refine go_q (Q := inb 3 x25.2 84 (f_M_placeOf x25.1 x25.2)) (k' := 90) (L' := [some (.ref 66), some (.int v1), some (.int v2), some (.int v3), some (.int x25.1)]) (S' := [.int (b2i (x25.2.2.2 84 (f_M_placeOf x25.1 x25.2).toNatClampNeg))]) (σ' := x25.2) 1 (inb_mk rfl hc27.1 hc27.2) (fun n h => h) ?_
              refine go_ifz (b := (x25.2.2.2 84 (f_M_placeOf x25.1 x25.2).toNatClampNeg)) (k1 := 92) (L1 := [some (.ref 66), some (.int v1), some (.int v2), some (.int v3), some (.int x25.1)]) (S1 := []) (σ1 := x25.2) (k2 := 91) (L2 := [some (.ref 66), some (.int v1), some (.int v2), some (.int v3), some (.int x25.1)]) (S2 := []) (σ2 := x25.2) 1 (fun n h => h) (fun hc28 => ?_) (fun hc28 => ?_)
              · rw [if_neg hc28] at h
                refine go_call (r := some (.int (f_M_placeOf x25.1 x25.2))) (σc := x25.2) (σ1 := x25.2) (mi := 222) (vs := [.ref 66, .int x25.1]) (k' := 97) (L' := [some (.ref 66), some (.int v1), some (.int v2), some (.int v3), some (.int x25.1)]) (S' := [.ref 84]) 5 (fun P9 h9 => c_M_placeOf (d + 3) x25.1 x25.2 h9) (fun n h => h) ?_
                refine go_q2 (Q := inb 3 x25.2 84 (f_M_placeOf x25.1 x25.2)) (Q2 := (1 : Int32) = 0 ∨ (1 : Int32) = 1) (k' := 99) (L' := [some (.ref 66), some (.int v1), some (.int v2), some (.int v3), some (.int x25.1)]) (S' := []) (σ' := (s_b x25.2 84 (f_M_placeOf x25.1 x25.2).toNatClampNeg true)) 2 (inb_mk rfl hc27.1 hc27.2) (Or.inr rfl) (fun n h => h) ?_
                refine go_st (k' := 48) (L' := [some (.ref 66), some (.int (1 : Int32)), some (.int v2), some (.int (v3 + (1 : Int32))), some (.int x25.1)]) (S' := []) (σ' := (s_b x25.2 84 (f_M_placeOf x25.1 x25.2).toNatClampNeg true)) 4 (fun n h => h) ?_
                exact ih _ (1 : Int32) v2 (v3 + (1 : Int32)) (s_b x25.2 84 (f_M_placeOf x25.1 x25.2).toNatClampNeg true) h
              · rw [if_pos hc28] at h
                refine go_st (k' := 48) (L' := [some (.ref 66), some (.int v1), some (.int v2), some (.int (v3 + (1 : Int32))), some (.int x25.1)]) (S' := []) (σ' := x25.2) 3 (fun n h => h) ?_
                exact ih _ v1 v2 (v3 + (1 : Int32)) x25.2 h
def f_M_laysIn_l43 (N : Nat) (k105 : Int32 → aSt → Option aSt) : Nat → Int32 → Int32 → aSt → Option aSt
  | 0, _, _, _ => none
  | n + 1, v1, v2, σ => (if (120 : Int32) < v2 then k105 v1 σ else f_M_laysIn_l48 N (fun (y29 : Int32) (y30 : Int32) σ31 => f_M_laysIn_l43 N k105 n y29 (y30 + (1 : Int32)) σ31) N v1 v2 (0 : Int32) σ)
set_option maxRecDepth 20000 in
set_option maxHeartbeats 4000000 in
theorem t_M_laysIn_l43 (d : Nat) {N : Nat} (k105 : Int32 → aSt → Option aSt) {x : aSt} {P : Option Value → aSt → Prop} (hp : P none x) (hk105 : ∀ (d2 d3 d4 : Option Value) (v1 : Int32) (σ : aSt), k105 v1 σ = some x → aGo (aCall MT (d + 4)) P mc_M_laysIn 105 [some (.ref 66), some (.int v1), d2, d3, d4] [] σ) : ∀ (n : Nat) (d3 d4 : Option Value) (v1 : Int32) (v2 : Int32) (σ : aSt), f_M_laysIn_l43 N k105 n v1 v2 σ = some x → aGo (aCall MT (d + 4)) P mc_M_laysIn 43 [some (.ref 66), some (.int v1), some (.int v2), d3, d4] [] σ := by
  intro n
  induction n with
  | zero => intro d3 d4 v1 v2 σ h; cases h
  | succ n ih =>
    intro d3 d4 v1 v2 σ h
    rw [f_M_laysIn_l43] at h
    refine go_if (c := (120 : Int32) < v2) (k1 := 105) (L1 := [some (.ref 66), some (.int v1), some (.int v2), d3, d4]) (S1 := []) (σ1 := σ) (k2 := 46) (L2 := [some (.ref 66), some (.int v1), some (.int v2), d3, d4]) (S2 := []) (σ2 := σ) 3 (fun n h => h) (fun hc4 => ?_) (fun hc4 => ?_)
    · rw [if_pos hc4] at h
      exact hk105 _ _ _ v1 σ h
    · rw [if_neg hc4] at h
      refine go_st (k' := 48) (L' := [some (.ref 66), some (.int v1), some (.int v2), some (.int (0 : Int32)), d4]) (S' := []) (σ' := σ) 2 (fun n h => h) ?_
      refine t_M_laysIn_l48 d _ hp (fun d3 d4 y29 y30 σ31 h => ?_) N _ v1 v2 (0 : Int32) σ h
      · refine go_st (k' := 43) (L' := [some (.ref 66), some (.int y29), some (.int (y30 + (1 : Int32))), d3, d4]) (S' := []) (σ' := σ31) 2 (fun n h => h) ?_
        exact ih _ _ y29 (y30 + (1 : Int32)) σ31 h
def f_M_laysIn_l37 (N : Nat) : Nat → Int32 → aSt → Option aSt
  | 0, _, _ => none
  | n + 1, v1, σ => (if v1 = 0 then some σ else f_M_laysIn_l43 N (fun (y32 : Int32) σ33 => f_M_laysIn_l37 N n y32 σ33) N (0 : Int32) (0 : Int32) σ)
set_option maxRecDepth 20000 in
set_option maxHeartbeats 4000000 in
theorem t_M_laysIn_l37 (d : Nat) {N : Nat} {x : aSt} {P : Option Value → aSt → Prop} (hp : P none x) : ∀ (n : Nat) (d2 d3 d4 : Option Value) (v1 : Int32) (σ : aSt), f_M_laysIn_l37 N n v1 σ = some x → aGo (aCall MT (d + 4)) P mc_M_laysIn 37 [some (.ref 66), some (.int v1), d2, d3, d4] [] σ := by
  intro n
  induction n with
  | zero => intro d2 d3 d4 v1 σ h; cases h
  | succ n ih =>
    intro d2 d3 d4 v1 σ h
    rw [f_M_laysIn_l37] at h
    refine go_if (c := v1 = 0) (k1 := 106) (L1 := [some (.ref 66), some (.int v1), d2, d3, d4]) (S1 := []) (σ1 := σ) (k2 := 39) (L2 := [some (.ref 66), some (.int v1), d2, d3, d4]) (S2 := []) (σ2 := σ) 2 (fun n h => h) (fun hc3 => ?_) (fun hc3 => ?_)
    · rw [if_pos hc3] at h
      cases h
      exact go_ret 1 (fun _ => hp)
    · rw [if_neg hc3] at h
      refine go_st (k' := 43) (L' := [some (.ref 66), some (.int (0 : Int32)), some (.int (0 : Int32)), d3, d4]) (S' := []) (σ' := σ) 4 (fun n h => h) ?_
      refine t_M_laysIn_l43 d _ hp (fun d2 d3 d4 y32 σ33 h => ?_) N _ _ (0 : Int32) (0 : Int32) σ h
      · refine go_st (k' := 37) (L' := [some (.ref 66), some (.int y32), d2, d3, d4]) (S' := []) (σ' := σ33) 1 (fun n h => h) ?_
        exact ih _ _ _ y32 σ33 h
def f_M_laysIn_l19 (N : Nat) : Nat → Int32 → aSt → Option aSt
  | 0, _, _ => none
  | n + 1, v1, σ => (if (σ.1 66 55) ≤ v1 then f_M_laysIn_l37 N N (1 : Int32) σ else (if 0 ≤ v1 ∧ v1 < (120 : Int32) then (if 0 ≤ (f_M_placeOf (σ.1 85 v1.toNatClampNeg) σ) ∧ (f_M_placeOf (σ.1 85 v1.toNatClampNeg) σ) < (121 : Int32) then f_M_laysIn_l19 N n (v1 + (1 : Int32)) (s_b σ 84 (f_M_placeOf (σ.1 85 v1.toNatClampNeg) σ).toNatClampNeg true) else none) else none))
set_option maxRecDepth 20000 in
set_option maxHeartbeats 4000000 in
theorem t_M_laysIn_l19 (d : Nat) {N : Nat} {x : aSt} {P : Option Value → aSt → Prop} (hp : P none x) : ∀ (n : Nat) (d2 d3 d4 : Option Value) (v1 : Int32) (σ : aSt), f_M_laysIn_l19 N n v1 σ = some x → aGo (aCall MT (d + 4)) P mc_M_laysIn 19 [some (.ref 66), some (.int v1), d2, d3, d4] [] σ := by
  intro n
  induction n with
  | zero => intro d2 d3 d4 v1 σ h; cases h
  | succ n ih =>
    intro d2 d3 d4 v1 σ h
    rw [f_M_laysIn_l19] at h
    refine go_if (c := (σ.1 66 55) ≤ v1) (k1 := 35) (L1 := [some (.ref 66), some (.int v1), d2, d3, d4]) (S1 := []) (σ1 := σ) (k2 := 23) (L2 := [some (.ref 66), some (.int v1), d2, d3, d4]) (S2 := []) (σ2 := σ) 4 (fun n h => h) (fun hc2 => ?_) (fun hc2 => ?_)
    · rw [if_pos hc2] at h
      refine go_st (k' := 37) (L' := [some (.ref 66), some (.int (1 : Int32)), d2, d3, d4]) (S' := []) (σ' := σ) 2 (fun n h => h) ?_
      exact t_M_laysIn_l37 d hp N _ _ _ (1 : Int32) σ h
    · rw [if_neg hc2] at h
      obtain ⟨hc34, h⟩ := ite_of h
      refine go_q (Q := inb 0 σ 85 v1) (k' := 30) (L' := [some (.ref 66), some (.int v1), d2, d3, d4]) (S' := [.int (σ.1 85 v1.toNatClampNeg), .ref 66, .ref 84]) (σ' := σ) 7 (inb_mk rfl hc34.1 hc34.2) (fun n h => h) ?_
      refine go_call (r := some (.int (f_M_placeOf (σ.1 85 v1.toNatClampNeg) σ))) (σc := σ) (σ1 := σ) (mi := 222) (vs := [.ref 66, .int (σ.1 85 v1.toNatClampNeg)]) (k' := 31) (L' := [some (.ref 66), some (.int v1), d2, d3, d4]) (S' := [.ref 84]) 1 (fun P9 h9 => c_M_placeOf (d + 3) (σ.1 85 v1.toNatClampNeg) σ h9) (fun n h => h) ?_
      obtain ⟨hc35, h⟩ := ite_of h
      refine go_q2 (Q := inb 3 σ 84 (f_M_placeOf (σ.1 85 v1.toNatClampNeg) σ)) (Q2 := (1 : Int32) = 0 ∨ (1 : Int32) = 1) (k' := 33) (L' := [some (.ref 66), some (.int v1), d2, d3, d4]) (S' := []) (σ' := (s_b σ 84 (f_M_placeOf (σ.1 85 v1.toNatClampNeg) σ).toNatClampNeg true)) 2 (inb_mk rfl hc35.1 hc35.2) (Or.inr rfl) (fun n h => h) ?_
      refine go_st (k' := 19) (L' := [some (.ref 66), some (.int (v1 + (1 : Int32))), d2, d3, d4]) (S' := []) (σ' := (s_b σ 84 (f_M_placeOf (σ.1 85 v1.toNatClampNeg) σ).toNatClampNeg true)) 2 (fun n h => h) ?_
      exact ih _ _ _ (v1 + (1 : Int32)) (s_b σ 84 (f_M_placeOf (σ.1 85 v1.toNatClampNeg) σ).toNatClampNeg true) h
def f_M_laysIn_l2 (N : Nat) : Nat → Int32 → aSt → Option aSt
  | 0, _, _ => none
  | n + 1, v1, σ => (if (120 : Int32) < v1 then f_M_laysIn_l19 N N (0 : Int32) σ else (if v1 ≠ (120 : Int32) then (if 0 ≤ v1 ∧ v1 < (121 : Int32) then f_M_laysIn_l2 N n (v1 + (1 : Int32)) (s_b σ 84 v1.toNatClampNeg false) else none) else (if 0 ≤ v1 ∧ v1 < (121 : Int32) then f_M_laysIn_l2 N n (v1 + (1 : Int32)) (s_b σ 84 v1.toNatClampNeg true) else none)))
set_option maxRecDepth 20000 in
set_option maxHeartbeats 4000000 in
theorem t_M_laysIn_l2 (d : Nat) {N : Nat} {x : aSt} {P : Option Value → aSt → Prop} (hp : P none x) : ∀ (n : Nat) (d2 d3 d4 : Option Value) (v1 : Int32) (σ : aSt), f_M_laysIn_l2 N n v1 σ = some x → aGo (aCall MT (d + 4)) P mc_M_laysIn 2 [some (.ref 66), some (.int v1), d2, d3, d4] [] σ := by
  intro n
  induction n with
  | zero => intro d2 d3 d4 v1 σ h; cases h
  | succ n ih =>
    intro d2 d3 d4 v1 σ h
    rw [f_M_laysIn_l2] at h
    refine go_if (c := (120 : Int32) < v1) (k1 := 17) (L1 := [some (.ref 66), some (.int v1), d2, d3, d4]) (S1 := []) (σ1 := σ) (k2 := 5) (L2 := [some (.ref 66), some (.int v1), d2, d3, d4]) (S2 := []) (σ2 := σ) 3 (fun n h => h) (fun hc1 => ?_) (fun hc1 => ?_)
    · rw [if_pos hc1] at h
      refine go_st (k' := 19) (L' := [some (.ref 66), some (.int (0 : Int32)), d2, d3, d4]) (S' := []) (σ' := σ) 2 (fun n h => h) ?_
      exact t_M_laysIn_l19 d hp N _ _ _ (0 : Int32) σ h
    · rw [if_neg hc1] at h
      refine go_if (c := v1 ≠ (120 : Int32)) (k1 := 13) (L1 := [some (.ref 66), some (.int v1), d2, d3, d4]) (S1 := [.int v1, .ref 84]) (σ1 := σ) (k2 := 11) (L2 := [some (.ref 66), some (.int v1), d2, d3, d4]) (S2 := [.int v1, .ref 84]) (σ2 := σ) 6 (fun n h => h) (fun hc36 => ?_) (fun hc36 => ?_)
      · rw [if_pos hc36] at h
        obtain ⟨hc37, h⟩ := ite_of h
        refine go_q2 (Q := inb 3 σ 84 v1) (Q2 := (0 : Int32) = 0 ∨ (0 : Int32) = 1) (k' := 15) (L' := [some (.ref 66), some (.int v1), d2, d3, d4]) (S' := []) (σ' := (s_b σ 84 v1.toNatClampNeg false)) 2 (inb_mk rfl hc37.1 hc37.2) (Or.inl rfl) (fun n h => h) ?_
        refine go_st (k' := 2) (L' := [some (.ref 66), some (.int (v1 + (1 : Int32))), d2, d3, d4]) (S' := []) (σ' := (s_b σ 84 v1.toNatClampNeg false)) 2 (fun n h => h) ?_
        exact ih _ _ _ (v1 + (1 : Int32)) (s_b σ 84 v1.toNatClampNeg false) h
      · rw [if_neg hc36] at h
        obtain ⟨hc38, h⟩ := ite_of h
        refine go_q2 (Q := inb 3 σ 84 v1) (Q2 := (1 : Int32) = 0 ∨ (1 : Int32) = 1) (k' := 15) (L' := [some (.ref 66), some (.int v1), d2, d3, d4]) (S' := []) (σ' := (s_b σ 84 v1.toNatClampNeg true)) 3 (inb_mk rfl hc38.1 hc38.2) (Or.inr rfl) (fun n h => h) ?_
        refine go_st (k' := 2) (L' := [some (.ref 66), some (.int (v1 + (1 : Int32))), d2, d3, d4]) (S' := []) (σ' := (s_b σ 84 v1.toNatClampNeg true)) 2 (fun n h => h) ?_
        exact ih _ _ _ (v1 + (1 : Int32)) (s_b σ 84 v1.toNatClampNeg true) h
def f_M_laysIn (N : Nat) (σ : aSt) : Option aSt :=
  f_M_laysIn_l2 N N (0 : Int32) σ
set_option maxRecDepth 20000 in
set_option maxHeartbeats 4000000 in
theorem c_M_laysIn (d : Nat) {N : Nat} (σ : aSt) {P : Option Value → aSt → Prop} {x : aSt} (h : f_M_laysIn N σ = some x) (hp : P none x) : aCall MT (d + 5) 223 [.ref 66] σ P := by
  unfold f_M_laysIn at h
  refine call_of (code := mc_M_laysIn) (L := [some (.ref 66), none, none, none, none]) rfl rfl rfl rfl ?_
  refine go_st (k' := 2) (L' := [some (.ref 66), some (.int (0 : Int32)), none, none, none]) (S' := []) (σ' := σ) 2 (fun n h => h) ?_
  exact t_M_laysIn_l2 d hp N _ _ _ (0 : Int32) σ h
def f_M_made_l29 (N : Nat) : Nat → Int32 → Int32 → aSt → Option (Int32 × aSt)
  | 0, _, _, _ => none
  | n + 1, v3, v4, σ => (if (120 : Int32) < v4 then some (v3, σ) else (if 0 ≤ v4 ∧ v4 < (121 : Int32) then (if (σ.2.2 84 v4.toNatClampNeg) = true then f_M_made_l29 N n (v3 + (1 : Int32)) (v4 + (1 : Int32)) σ else f_M_made_l29 N n (v3 + (0 : Int32)) (v4 + (1 : Int32)) σ) else none))
set_option maxRecDepth 20000 in
set_option maxHeartbeats 4000000 in
theorem t_M_made_l29 (d : Nat) {N : Nat} {x : (Int32 × aSt)} {P : Option Value → aSt → Prop} (hp : P (some (.int x.1)) x.2) : ∀ (n : Nat) (d1 d2 : Option Value) (v3 : Int32) (v4 : Int32) (σ : aSt), f_M_made_l29 N n v3 v4 σ = some x → aGo (aCall MT (d + 5)) P mc_M_made 29 [some (.ref 66), d1, d2, some (.int v3), some (.int v4)] [] σ := by
  intro n
  induction n with
  | zero => intro d1 d2 v3 v4 σ h; cases h
  | succ n ih =>
    intro d1 d2 v3 v4 σ h
    rw [f_M_made_l29] at h
    refine go_if (c := (120 : Int32) < v4) (k1 := 45) (L1 := [some (.ref 66), d1, d2, some (.int v3), some (.int v4)]) (S1 := []) (σ1 := σ) (k2 := 32) (L2 := [some (.ref 66), d1, d2, some (.int v3), some (.int v4)]) (S2 := []) (σ2 := σ) 3 (fun n h => h) (fun hc4 => ?_) (fun hc4 => ?_)
    · rw [if_pos hc4] at h
      cases h
      exact go_ret 2 (fun _ => hp)
    · rw [if_neg hc4] at h
      obtain ⟨hc5, h⟩ := ite_of h
      refine go_q (Q := inb 3 σ 84 v4) (k' := 37) (L' := [some (.ref 66), d1, d2, some (.int v3), some (.int v4)]) (S' := [.int (b2i (σ.2.2 84 v4.toNatClampNeg)), .int v3]) (σ' := σ) 5 (inb_mk rfl hc5.1 hc5.2) (fun n h => h) ?_
      refine go_ifz (b := (σ.2.2 84 v4.toNatClampNeg)) (k1 := 40) (L1 := [some (.ref 66), d1, d2, some (.int v3), some (.int v4)]) (S1 := [.int v3]) (σ1 := σ) (k2 := 38) (L2 := [some (.ref 66), d1, d2, some (.int v3), some (.int v4)]) (S2 := [.int v3]) (σ2 := σ) 1 (fun n h => h) (fun hc6 => ?_) (fun hc6 => ?_)
      · rw [if_neg hc6] at h
        refine go_st (k' := 29) (L' := [some (.ref 66), d1, none, some (.int (v3 + (0 : Int32))), some (.int (v4 + (1 : Int32)))]) (S' := []) (σ' := σ) 5 (fun n h => h) ?_
        exact ih _ _ (v3 + (0 : Int32)) (v4 + (1 : Int32)) σ h
      · rw [if_pos hc6] at h
        refine go_st (k' := 29) (L' := [some (.ref 66), d1, none, some (.int (v3 + (1 : Int32))), some (.int (v4 + (1 : Int32)))]) (S' := []) (σ' := σ) 6 (fun n h => h) ?_
        exact ih _ _ (v3 + (1 : Int32)) (v4 + (1 : Int32)) σ h
def f_M_made (N : Nat) (p0 : Int32) (p1 : Int32) (σ : aSt) : Option (Int32 × aSt) :=
  (if (f_M_isPoint p0 σ) = true then (if (f_M_isPoint p1 σ) = true then ((f_M_laysIn N (s_i (s_i (s_i σ 85 0 p0) 85 1 p1) 66 55 (2 : Int32))).bind fun x3 => f_M_made_l29 N N (0 : Int32) (0 : Int32) x3) else some ((-2 : Int32), σ)) else some ((-2 : Int32), σ))
set_option maxRecDepth 20000 in
set_option maxHeartbeats 4000000 in
theorem c_M_made (d : Nat) {N : Nat} (p0 : Int32) (p1 : Int32) (σ : aSt) {P : Option Value → aSt → Prop} {x : (Int32 × aSt)} (h : f_M_made N p0 p1 σ = some x) (hp : P (some (.int x.1)) x.2) : aCall MT (d + 6) 224 [.ref 66, .int p0, .int p1] σ P := by
  unfold f_M_made at h
  refine call_of (code := mc_M_made) (L := [some (.ref 66), some (.int p0), some (.int p1), none, none]) rfl rfl rfl rfl ?_
  refine go_call (r := some (.int (b2i (f_M_isPoint p0 σ)))) (σc := σ) (σ1 := σ) (mi := 90) (vs := [.ref 66, .int p0]) (k' := 3) (L' := [some (.ref 66), some (.int p0), some (.int p1), none, none]) (S' := []) 3 (fun P9 h9 => c_M_isPoint (d + 2) p0 σ h9) (fun n h => h) ?_
  refine go_ifz (b := (f_M_isPoint p0 σ)) (k1 := 8) (L1 := [some (.ref 66), some (.int p0), some (.int p1), none, none]) (S1 := []) (σ1 := σ) (k2 := 4) (L2 := [some (.ref 66), some (.int p0), some (.int p1), none, none]) (S2 := []) (σ2 := σ) 1 (fun n h => h) (fun hc1 => ?_) (fun hc1 => ?_)
  · rw [if_neg hc1] at h
    cases h
    exact go_ret 2 (fun _ => hp)
  · rw [if_pos hc1] at h
    refine go_call (r := some (.int (b2i (f_M_isPoint p1 σ)))) (σc := σ) (σ1 := σ) (mi := 90) (vs := [.ref 66, .int p1]) (k' := 7) (L' := [some (.ref 66), some (.int p0), some (.int p1), none, none]) (S' := []) 3 (fun P9 h9 => c_M_isPoint (d + 2) p1 σ h9) (fun n h => h) ?_
    refine go_ifn (b := (f_M_isPoint p1 σ)) (k1 := 10) (L1 := [some (.ref 66), some (.int p0), some (.int p1), none, none]) (S1 := []) (σ1 := σ) (k2 := 8) (L2 := [some (.ref 66), some (.int p0), some (.int p1), none, none]) (S2 := []) (σ2 := σ) 1 (fun n h => h) (fun hc2 => ?_) (fun hc2 => ?_)
    · rw [if_pos hc2] at h
      refine go_q (Q := inb 0 σ 85 (0 : Int32)) (k' := 15) (L' := [some (.ref 66), some (.int p0), some (.int p1), none, none]) (S' := []) (σ' := (s_i σ 85 0 p0)) 5 (inb_mk rfl (by decide) (show (0 : Int32) < (120 : Int32) by decide)) (fun n h => h) ?_
      refine go_q (Q := inb 0 (s_i σ 85 0 p0) 85 (1 : Int32)) (k' := 20) (L' := [some (.ref 66), some (.int p0), some (.int p1), none, none]) (S' := []) (σ' := (s_i (s_i σ 85 0 p0) 85 1 p1)) 5 (inb_mk rfl (by decide) (show (1 : Int32) < (120 : Int32) by decide)) (fun n h => h) ?_
      obtain ⟨x3, hx3, h⟩ := bind_of h
      refine go_call (r := none) (σc := (s_i (s_i (s_i σ 85 0 p0) 85 1 p1) 66 55 (2 : Int32))) (σ1 := x3) (mi := 223) (vs := [.ref 66]) (k' := 25) (L' := [some (.ref 66), some (.int p0), some (.int p1), none, none]) (S' := []) 5 (fun P9 h9 => c_M_laysIn (d + 0) (s_i (s_i (s_i σ 85 0 p0) 85 1 p1) 66 55 (2 : Int32)) hx3 h9) (fun n h => h) ?_
      refine go_st (k' := 29) (L' := [some (.ref 66), some (.int p0), none, some (.int (0 : Int32)), some (.int (0 : Int32))]) (S' := []) (σ' := x3) 4 (fun n h => h) ?_
      exact t_M_made_l29 d hp N _ _ (0 : Int32) (0 : Int32) x3 h
    · rw [if_neg hc2] at h
      cases h
      exact go_ret 2 (fun _ => hp)
