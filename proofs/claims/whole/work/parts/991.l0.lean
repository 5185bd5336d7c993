set_option maxRecDepth 100000 in
theorem lw_feed {P : Option Value → aSt → Prop} {xs : Nat → Int32} {Ls i : Nat} {σ : aSt} (hl : Ls ≤ 3072) (hi : i + 6 ≤ Ls) (h : IV xs Ls σ) (g : ∀ σ2, IV xs Ls σ2 → aGo (aCall MT 140) P mc_law 1382 (LO i) [] σ2) : aGo (aCall MT 140) P mc_law 14 (LO i) [] σ := by
  obtain ⟨r, σ1, σ2, hx, hm, hs1, h2⟩ := s_feed h (xs (i + 1)) (xs (i + 2)) (xs (i + 3)) (xs (i + 4)) (xs (i + 5))
  have hs := IV_SC h
  refine go_rd (S' := [.ref 0]) (k' := 20) hs hl 1 (1 : Int32) rfl (by omega) 6 (fun K h => h) ?_
  refine go_rd (S' := [.int (xs (i + 1)), .ref 0]) (k' := 25) hs hl 2 (2 : Int32) rfl (by omega) 5 (fun K h => h) ?_
  refine go_rd (S' := [.int (xs (i + 2)), .int (xs (i + 1)), .ref 0]) (k' := 30) hs hl 3 (3 : Int32) rfl (by omega) 5 (fun K h => h) ?_
  refine go_rd (S' := [.int (xs (i + 3)), .int (xs (i + 2)), .int (xs (i + 1)), .ref 0]) (k' := 35) hs hl 4 (4 : Int32) rfl (by omega) 5 (fun K h => h) ?_
  refine go_rd (S' := [.int (xs (i + 4)), .int (xs (i + 3)), .int (xs (i + 2)), .int (xs (i + 1)), .ref 0]) (k' := 40) hs hl 5 (5 : Int32) rfl (by omega) 5 (fun K h => h) ?_
  refine go_call (r := some (.int r)) (σc := σ) (σ1 := σ1) (mi := 3) (vs := [.ref 0, .int (xs (i + 1)), .int (xs (i + 2)), .int (xs (i + 3)), .int (xs (i + 4)), .int (xs (i + 5))]) (k' := 41) (L' := LO i) (S' := []) 1 hx (fun K h => h) ?_
  refine go_rd (S' := [.ref 66, .int r]) (k' := 47) hs1 hl 1 (1 : Int32) rfl (by omega) 6 (fun K h => h) ?_
  refine go_rd (S' := [.int (xs (i + 1)), .ref 66, .int r]) (k' := 52) hs1 hl 2 (2 : Int32) rfl (by omega) 5 (fun K h => h) ?_
  refine go_rd (S' := [.int (xs (i + 2)), .int (xs (i + 1)), .ref 66, .int r]) (k' := 57) hs1 hl 3 (3 : Int32) rfl (by omega) 5 (fun K h => h) ?_
  refine go_rd (S' := [.int (xs (i + 3)), .int (xs (i + 2)), .int (xs (i + 1)), .ref 66, .int r]) (k' := 62) hs1 hl 4 (4 : Int32) rfl (by omega) 5 (fun K h => h) ?_
  refine go_rd (S' := [.int (xs (i + 4)), .int (xs (i + 3)), .int (xs (i + 2)), .int (xs (i + 1)), .ref 66, .int r]) (k' := 67) hs1 hl 5 (5 : Int32) rfl (by omega) 5 (fun K h => h) ?_
  refine go_call (r := some (.int r)) (σc := σ1) (σ1 := σ2) (mi := 4) (vs := [.ref 66, .int (xs (i + 1)), .int (xs (i + 2)), .int (xs (i + 3)), .int (xs (i + 4)), .int (xs (i + 5))]) (k' := 68) (L' := LO i) (S' := [.int r]) 1 hm (fun K h => h) ?_
  exact go_if (c := r = r) (k1 := 1382) (L1 := LO i) (S1 := []) (σ1 := σ2) (k2 := 69) (L2 := LO i) (S2 := []) (σ2 := σ2) 1 (fun K h => h) (fun _ => g σ2 h2) (fun q => absurd rfl q)
set_option maxRecDepth 100000 in
theorem lw_end {P : Option Value → aSt → Prop} {xs : Nat → Int32} {Ls i : Nat} {σ : aSt} (hl : Ls ≤ 3072) (hi : i + 6 ≤ Ls) (h : IV xs Ls σ) (g : ∀ σ2, IV xs Ls σ2 → aGo (aCall MT 140) P mc_law 1382 (LO i) [] σ2) : aGo (aCall MT 140) P mc_law 71 (LO i) [] σ := by
  obtain ⟨r, σ1, σ2, hx, hm, hs1, h2⟩ := s_end h (xs (i + 1))
  have hs := IV_SC h
  refine go_rd (S' := [.ref 0]) (k' := 77) hs hl 1 (1 : Int32) rfl (by omega) 6 (fun K h => h) ?_
  refine go_call (r := some (.int r)) (σc := σ) (σ1 := σ1) (mi := 6) (vs := [.ref 0, .int (xs (i + 1))]) (k' := 78) (L' := LO i) (S' := []) 1 hx (fun K h => h) ?_
  refine go_rd (S' := [.ref 66, .int r]) (k' := 84) hs1 hl 1 (1 : Int32) rfl (by omega) 6 (fun K h => h) ?_
  refine go_call (r := some (.int r)) (σc := σ1) (σ1 := σ2) (mi := 8) (vs := [.ref 66, .int (xs (i + 1))]) (k' := 85) (L' := LO i) (S' := [.int r]) 1 hm (fun K h => h) ?_
  exact go_if (c := r = r) (k1 := 1382) (L1 := LO i) (S1 := []) (σ1 := σ2) (k2 := 86) (L2 := LO i) (S2 := []) (σ2 := σ2) 1 (fun K h => h) (fun _ => g σ2 h2) (fun q => absurd rfl q)
set_option maxRecDepth 100000 in
theorem lw_curve {P : Option Value → aSt → Prop} {xs : Nat → Int32} {Ls i : Nat} {σ : aSt} (hl : Ls ≤ 3072) (hi : i + 6 ≤ Ls) (h : IV xs Ls σ) (g : ∀ σ2, IV xs Ls σ2 → aGo (aCall MT 140) P mc_law 1382 (LO i) [] σ2) : aGo (aCall MT 140) P mc_law 88 (LO i) [] σ := by
  obtain ⟨r, σ1, σ2, hx, hm, hs1, h2⟩ := s_curve h 
  refine go_call (r := some (.int r)) (σc := σ) (σ1 := σ1) (mi := 46) (vs := [.ref 0]) (k' := 90) (L' := LO i) (S' := []) 2 hx (fun K h => h) ?_
  refine go_call (r := some (.int r)) (σc := σ1) (σ1 := σ2) (mi := 63) (vs := [.ref 66]) (k' := 92) (L' := LO i) (S' := [.int r]) 2 hm (fun K h => h) ?_
  exact go_if (c := r = r) (k1 := 1382) (L1 := LO i) (S1 := []) (σ1 := σ2) (k2 := 93) (L2 := LO i) (S2 := []) (σ2 := σ2) 1 (fun K h => h) (fun _ => g σ2 h2) (fun q => absurd rfl q)
set_option maxRecDepth 100000 in
theorem lw_fault {P : Option Value → aSt → Prop} {xs : Nat → Int32} {Ls i : Nat} {σ : aSt} (hl : Ls ≤ 3072) (hi : i + 6 ≤ Ls) (h : IV xs Ls σ) (g : ∀ σ2, IV xs Ls σ2 → aGo (aCall MT 140) P mc_law 1382 (LO i) [] σ2) : aGo (aCall MT 140) P mc_law 95 (LO i) [] σ := by
  obtain ⟨r, σ1, σ2, hx, hm, hs1, h2⟩ := s_fault h (xs (i + 1))
  have hs := IV_SC h
  refine go_rd (S' := [.ref 0]) (k' := 101) hs hl 1 (1 : Int32) rfl (by omega) 6 (fun K h => h) ?_
  refine go_call (r := some (.int r)) (σc := σ) (σ1 := σ1) (mi := 66) (vs := [.ref 0, .int (xs (i + 1))]) (k' := 102) (L' := LO i) (S' := []) 1 hx (fun K h => h) ?_
  refine go_rd (S' := [.ref 66, .int r]) (k' := 108) hs1 hl 1 (1 : Int32) rfl (by omega) 6 (fun K h => h) ?_
  refine go_call (r := some (.int r)) (σc := σ1) (σ1 := σ2) (mi := 67) (vs := [.ref 66, .int (xs (i + 1))]) (k' := 109) (L' := LO i) (S' := [.int r]) 1 hm (fun K h => h) ?_
  exact go_if (c := r = r) (k1 := 1382) (L1 := LO i) (S1 := []) (σ1 := σ2) (k2 := 110) (L2 := LO i) (S2 := []) (σ2 := σ2) 1 (fun K h => h) (fun _ => g σ2 h2) (fun q => absurd rfl q)
set_option maxRecDepth 100000 in
theorem lw_count {P : Option Value → aSt → Prop} {xs : Nat → Int32} {Ls i : Nat} {σ : aSt} (hl : Ls ≤ 3072) (hi : i + 6 ≤ Ls) (h : IV xs Ls σ) (g : ∀ σ2, IV xs Ls σ2 → aGo (aCall MT 140) P mc_law 1382 (LO i) [] σ2) : aGo (aCall MT 140) P mc_law 112 (LO i) [] σ := by
  obtain ⟨r, σ1, σ2, hx, hm, hs1, h2⟩ := s_count h (xs (i + 1))
  have hs := IV_SC h
  refine go_rd (S' := [.ref 0]) (k' := 118) hs hl 1 (1 : Int32) rfl (by omega) 6 (fun K h => h) ?_
  refine go_call (r := some (.long r)) (σc := σ) (σ1 := σ1) (mi := 71) (vs := [.ref 0, .int (xs (i + 1))]) (k' := 119) (L' := LO i) (S' := []) 1 hx (fun K h => h) ?_
  refine go_rd (S' := [.ref 66, .long r]) (k' := 125) hs1 hl 1 (1 : Int32) rfl (by omega) 6 (fun K h => h) ?_
  refine go_call (r := some (.long r)) (σc := σ1) (σ1 := σ2) (mi := 72) (vs := [.ref 66, .int (xs (i + 1))]) (k' := 126) (L' := LO i) (S' := [.long r]) 1 hm (fun K h => h) ?_
  exact go_iff (lcmp_eq r r) (k1 := 1382) (L1 := LO i) (S1 := []) (σ1 := σ2) (k2 := 128) (L2 := LO i) (S2 := []) (σ2 := σ2) 2 (fun K h => h) (fun _ => g σ2 h2) (fun q => absurd rfl q)
set_option maxRecDepth 100000 in
theorem lw_point {P : Option Value → aSt → Prop} {xs : Nat → Int32} {Ls i : Nat} {σ : aSt} (hl : Ls ≤ 3072) (hi : i + 6 ≤ Ls) (h : IV xs Ls σ) (g : ∀ σ2, IV xs Ls σ2 → aGo (aCall MT 140) P mc_law 1382 (LO i) [] σ2) : aGo (aCall MT 140) P mc_law 130 (LO i) [] σ := by
  obtain ⟨r, σ1, σ2, hx, hm, hs1, h2⟩ := s_point h (xs (i + 1)) (xs (i + 2))
  have hs := IV_SC h
  refine go_rd (S' := [.ref 0]) (k' := 136) hs hl 1 (1 : Int32) rfl (by omega) 6 (fun K h => h) ?_
  refine go_rd (S' := [.int (xs (i + 1)), .ref 0]) (k' := 141) hs hl 2 (2 : Int32) rfl (by omega) 5 (fun K h => h) ?_
  refine go_call (r := some (.long r)) (σc := σ) (σ1 := σ1) (mi := 78) (vs := [.ref 0, .int (xs (i + 1)), .int (xs (i + 2))]) (k' := 142) (L' := LO i) (S' := []) 1 hx (fun K h => h) ?_
  refine go_rd (S' := [.ref 66, .long r]) (k' := 148) hs1 hl 1 (1 : Int32) rfl (by omega) 6 (fun K h => h) ?_
  refine go_rd (S' := [.int (xs (i + 1)), .ref 66, .long r]) (k' := 153) hs1 hl 2 (2 : Int32) rfl (by omega) 5 (fun K h => h) ?_
  refine go_call (r := some (.long r)) (σc := σ1) (σ1 := σ2) (mi := 80) (vs := [.ref 66, .int (xs (i + 1)), .int (xs (i + 2))]) (k' := 154) (L' := LO i) (S' := [.long r]) 1 hm (fun K h => h) ?_
  exact go_iff (lcmp_eq r r) (k1 := 1382) (L1 := LO i) (S1 := []) (σ1 := σ2) (k2 := 156) (L2 := LO i) (S2 := []) (σ2 := σ2) 2 (fun K h => h) (fun _ => g σ2 h2) (fun q => absurd rfl q)
set_option maxRecDepth 100000 in
theorem lw_at {P : Option Value → aSt → Prop} {xs : Nat → Int32} {Ls i : Nat} {σ : aSt} (hl : Ls ≤ 3072) (hi : i + 6 ≤ Ls) (h : IV xs Ls σ) (g : ∀ σ2, IV xs Ls σ2 → aGo (aCall MT 140) P mc_law 1382 (LO i) [] σ2) : aGo (aCall MT 140) P mc_law 158 (LO i) [] σ := by
  obtain ⟨r, σ1, σ2, hx, hm, hs1, h2⟩ := s_at h (xs (i + 1)) (xs (i + 2)) (xs (i + 3))
  have hs := IV_SC h
  refine go_rd (S' := [.ref 0]) (k' := 164) hs hl 1 (1 : Int32) rfl (by omega) 6 (fun K h => h) ?_
  refine go_rd (S' := [.int (xs (i + 1)), .ref 0]) (k' := 169) hs hl 2 (2 : Int32) rfl (by omega) 5 (fun K h => h) ?_
  refine go_rd (S' := [.int (xs (i + 2)), .int (xs (i + 1)), .ref 0]) (k' := 174) hs hl 3 (3 : Int32) rfl (by omega) 5 (fun K h => h) ?_
  refine go_call (r := some (.int r)) (σc := σ) (σ1 := σ1) (mi := 82) (vs := [.ref 0, .int (xs (i + 1)), .int (xs (i + 2)), .int (xs (i + 3))]) (k' := 175) (L' := LO i) (S' := []) 1 hx (fun K h => h) ?_
  refine go_rd (S' := [.ref 66, .int r]) (k' := 181) hs1 hl 1 (1 : Int32) rfl (by omega) 6 (fun K h => h) ?_
  refine go_rd (S' := [.int (xs (i + 1)), .ref 66, .int r]) (k' := 186) hs1 hl 2 (2 : Int32) rfl (by omega) 5 (fun K h => h) ?_
  refine go_rd (S' := [.int (xs (i + 2)), .int (xs (i + 1)), .ref 66, .int r]) (k' := 191) hs1 hl 3 (3 : Int32) rfl (by omega) 5 (fun K h => h) ?_
  refine go_call (r := some (.int r)) (σc := σ1) (σ1 := σ2) (mi := 84) (vs := [.ref 66, .int (xs (i + 1)), .int (xs (i + 2)), .int (xs (i + 3))]) (k' := 192) (L' := LO i) (S' := [.int r]) 1 hm (fun K h => h) ?_
  exact go_if (c := r = r) (k1 := 1382) (L1 := LO i) (S1 := []) (σ1 := σ2) (k2 := 193) (L2 := LO i) (S2 := []) (σ2 := σ2) 1 (fun K h => h) (fun _ => g σ2 h2) (fun q => absurd rfl q)
set_option maxRecDepth 100000 in
theorem lw_turned {P : Option Value → aSt → Prop} {xs : Nat → Int32} {Ls i : Nat} {σ : aSt} (hl : Ls ≤ 3072) (hi : i + 6 ≤ Ls) (h : IV xs Ls σ) (g : ∀ σ2, IV xs Ls σ2 → aGo (aCall MT 140) P mc_law 1382 (LO i) [] σ2) : aGo (aCall MT 140) P mc_law 195 (LO i) [] σ := by
  obtain ⟨r, σ1, σ2, hx, hm, hs1, h2⟩ := s_turned h (xs (i + 1))
  have hs := IV_SC h
  refine go_rd (S' := [.ref 0]) (k' := 201) hs hl 1 (1 : Int32) rfl (by omega) 6 (fun K h => h) ?_
  refine go_call (r := some (.int r)) (σc := σ) (σ1 := σ1) (mi := 89) (vs := [.ref 0, .int (xs (i + 1))]) (k' := 202) (L' := LO i) (S' := []) 1 hx (fun K h => h) ?_
  refine go_rd (S' := [.ref 66, .int r]) (k' := 208) hs1 hl 1 (1 : Int32) rfl (by omega) 6 (fun K h => h) ?_
  refine go_call (r := some (.int r)) (σc := σ1) (σ1 := σ2) (mi := 93) (vs := [.ref 66, .int (xs (i + 1))]) (k' := 209) (L' := LO i) (S' := [.int r]) 1 hm (fun K h => h) ?_
  exact go_if (c := r = r) (k1 := 1382) (L1 := LO i) (S1 := []) (σ1 := σ2) (k2 := 210) (L2 := LO i) (S2 := []) (σ2 := σ2) 1 (fun K h => h) (fun _ => g σ2 h2) (fun q => absurd rfl q)
set_option maxRecDepth 100000 in
theorem lw_sum {P : Option Value → aSt → Prop} {xs : Nat → Int32} {Ls i : Nat} {σ : aSt} (hl : Ls ≤ 3072) (hi : i + 6 ≤ Ls) (h : IV xs Ls σ) (g : ∀ σ2, IV xs Ls σ2 → aGo (aCall MT 140) P mc_law 1382 (LO i) [] σ2) : aGo (aCall MT 140) P mc_law 212 (LO i) [] σ := by
  obtain ⟨r, σ1, σ2, hx, hm, hs1, h2⟩ := s_sum h (xs (i + 1)) (xs (i + 2))
  have hs := IV_SC h
  refine go_rd (S' := [.ref 0]) (k' := 218) hs hl 1 (1 : Int32) rfl (by omega) 6 (fun K h => h) ?_
  refine go_rd (S' := [.int (xs (i + 1)), .ref 0]) (k' := 223) hs hl 2 (2 : Int32) rfl (by omega) 5 (fun K h => h) ?_
  refine go_call (r := some (.int r)) (σc := σ) (σ1 := σ1) (mi := 102) (vs := [.ref 0, .int (xs (i + 1)), .int (xs (i + 2))]) (k' := 224) (L' := LO i) (S' := []) 1 hx (fun K h => h) ?_
  refine go_rd (S' := [.ref 66, .int r]) (k' := 230) hs1 hl 1 (1 : Int32) rfl (by omega) 6 (fun K h => h) ?_
  refine go_rd (S' := [.int (xs (i + 1)), .ref 66, .int r]) (k' := 235) hs1 hl 2 (2 : Int32) rfl (by omega) 5 (fun K h => h) ?_
  refine go_call (r := some (.int r)) (σc := σ1) (σ1 := σ2) (mi := 106) (vs := [.ref 66, .int (xs (i + 1)), .int (xs (i + 2))]) (k' := 236) (L' := LO i) (S' := [.int r]) 1 hm (fun K h => h) ?_
  exact go_if (c := r = r) (k1 := 1382) (L1 := LO i) (S1 := []) (σ1 := σ2) (k2 := 237) (L2 := LO i) (S2 := []) (σ2 := σ2) 1 (fun K h => h) (fun _ => g σ2 h2) (fun q => absurd rfl q)
set_option maxRecDepth 100000 in
theorem lw_of {P : Option Value → aSt → Prop} {xs : Nat → Int32} {Ls i : Nat} {σ : aSt} (hl : Ls ≤ 3072) (hi : i + 6 ≤ Ls) (h : IV xs Ls σ) (g : ∀ σ2, IV xs Ls σ2 → aGo (aCall MT 140) P mc_law 1382 (LO i) [] σ2) : aGo (aCall MT 140) P mc_law 239 (LO i) [] σ := by
  obtain ⟨r, σ1, σ2, hx, hm, hs1, h2⟩ := s_of h (xs (i + 1)) (xs (i + 2)) (xs (i + 3)) (xs (i + 4))
  have hs := IV_SC h
  refine go_rd (S' := [.ref 0]) (k' := 245) hs hl 1 (1 : Int32) rfl (by omega) 6 (fun K h => h) ?_
  refine go_rd (S' := [.int (xs (i + 1)), .ref 0]) (k' := 250) hs hl 2 (2 : Int32) rfl (by omega) 5 (fun K h => h) ?_
  refine go_rd (S' := [.int (xs (i + 2)), .int (xs (i + 1)), .ref 0]) (k' := 255) hs hl 3 (3 : Int32) rfl (by omega) 5 (fun K h => h) ?_
  refine go_rd (S' := [.int (xs (i + 3)), .int (xs (i + 2)), .int (xs (i + 1)), .ref 0]) (k' := 260) hs hl 4 (4 : Int32) rfl (by omega) 5 (fun K h => h) ?_
  refine go_call (r := some (.long r)) (σc := σ) (σ1 := σ1) (mi := 113) (vs := [.ref 0, .int (xs (i + 1)), .int (xs (i + 2)), .int (xs (i + 3)), .int (xs (i + 4))]) (k' := 261) (L' := LO i) (S' := []) 1 hx (fun K h => h) ?_
  refine go_rd (S' := [.ref 66, .long r]) (k' := 267) hs1 hl 1 (1 : Int32) rfl (by omega) 6 (fun K h => h) ?_
  refine go_rd (S' := [.int (xs (i + 1)), .ref 66, .long r]) (k' := 272) hs1 hl 2 (2 : Int32) rfl (by omega) 5 (fun K h => h) ?_
  refine go_rd (S' := [.int (xs (i + 2)), .int (xs (i + 1)), .ref 66, .long r]) (k' := 277) hs1 hl 3 (3 : Int32) rfl (by omega) 5 (fun K h => h) ?_
  refine go_rd (S' := [.int (xs (i + 3)), .int (xs (i + 2)), .int (xs (i + 1)), .ref 66, .long r]) (k' := 282) hs1 hl 4 (4 : Int32) rfl (by omega) 5 (fun K h => h) ?_
  refine go_call (r := some (.long r)) (σc := σ1) (σ1 := σ2) (mi := 115) (vs := [.ref 66, .int (xs (i + 1)), .int (xs (i + 2)), .int (xs (i + 3)), .int (xs (i + 4))]) (k' := 283) (L' := LO i) (S' := [.long r]) 1 hm (fun K h => h) ?_
  exact go_iff (lcmp_eq r r) (k1 := 1382) (L1 := LO i) (S1 := []) (σ1 := σ2) (k2 := 285) (L2 := LO i) (S2 := []) (σ2 := σ2) 2 (fun K h => h) (fun _ => g σ2 h2) (fun q => absurd rfl q)
set_option maxRecDepth 100000 in
theorem lw_times {P : Option Value → aSt → Prop} {xs : Nat → Int32} {Ls i : Nat} {σ : aSt} (hl : Ls ≤ 3072) (hi : i + 6 ≤ Ls) (h : IV xs Ls σ) (g : ∀ σ2, IV xs Ls σ2 → aGo (aCall MT 140) P mc_law 1382 (LO i) [] σ2) : aGo (aCall MT 140) P mc_law 287 (LO i) [] σ := by
  obtain ⟨r, σ1, σ2, hx, hm, hs1, h2⟩ := s_times h (xs (i + 1)) (xs (i + 2))
  have hs := IV_SC h
  refine go_rd (S' := [.ref 0]) (k' := 293) hs hl 1 (1 : Int32) rfl (by omega) 6 (fun K h => h) ?_
  refine go_rd (S' := [.int (xs (i + 1)), .ref 0]) (k' := 298) hs hl 2 (2 : Int32) rfl (by omega) 5 (fun K h => h) ?_
  refine go_call (r := some (.int r)) (σc := σ) (σ1 := σ1) (mi := 117) (vs := [.ref 0, .int (xs (i + 1)), .int (xs (i + 2))]) (k' := 299) (L' := LO i) (S' := []) 1 hx (fun K h => h) ?_
  refine go_rd (S' := [.ref 66, .int r]) (k' := 305) hs1 hl 1 (1 : Int32) rfl (by omega) 6 (fun K h => h) ?_
  refine go_rd (S' := [.int (xs (i + 1)), .ref 66, .int r]) (k' := 310) hs1 hl 2 (2 : Int32) rfl (by omega) 5 (fun K h => h) ?_
  refine go_call (r := some (.int r)) (σc := σ1) (σ1 := σ2) (mi := 119) (vs := [.ref 66, .int (xs (i + 1)), .int (xs (i + 2))]) (k' := 311) (L' := LO i) (S' := [.int r]) 1 hm (fun K h => h) ?_
  exact go_if (c := r = r) (k1 := 1382) (L1 := LO i) (S1 := []) (σ1 := σ2) (k2 := 312) (L2 := LO i) (S2 := []) (σ2 := σ2) 1 (fun K h => h) (fun _ => g σ2 h2) (fun q => absurd rfl q)
set_option maxRecDepth 100000 in
theorem lw_order {P : Option Value → aSt → Prop} {xs : Nat → Int32} {Ls i : Nat} {σ : aSt} (hl : Ls ≤ 3072) (hi : i + 6 ≤ Ls) (h : IV xs Ls σ) (g : ∀ σ2, IV xs Ls σ2 → aGo (aCall MT 140) P mc_law 1382 (LO i) [] σ2) : aGo (aCall MT 140) P mc_law 314 (LO i) [] σ := by
  obtain ⟨r, σ1, σ2, hx, hm, hs1, h2⟩ := s_order h (xs (i + 1))
  have hs := IV_SC h
  refine go_rd (S' := [.ref 0]) (k' := 320) hs hl 1 (1 : Int32) rfl (by omega) 6 (fun K h => h) ?_
  refine go_call (r := some (.int r)) (σc := σ) (σ1 := σ1) (mi := 121) (vs := [.ref 0, .int (xs (i + 1))]) (k' := 321) (L' := LO i) (S' := []) 1 hx (fun K h => h) ?_
  refine go_rd (S' := [.ref 66, .int r]) (k' := 327) hs1 hl 1 (1 : Int32) rfl (by omega) 6 (fun K h => h) ?_
  refine go_call (r := some (.int r)) (σc := σ1) (σ1 := σ2) (mi := 123) (vs := [.ref 66, .int (xs (i + 1))]) (k' := 328) (L' := LO i) (S' := [.int r]) 1 hm (fun K h => h) ?_
  exact go_if (c := r = r) (k1 := 1382) (L1 := LO i) (S1 := []) (σ1 := σ2) (k2 := 329) (L2 := LO i) (S2 := []) (σ2 := σ2) 1 (fun K h => h) (fun _ => g σ2 h2) (fun q => absurd rfl q)
set_option maxRecDepth 100000 in
theorem lw_round {P : Option Value → aSt → Prop} {xs : Nat → Int32} {Ls i : Nat} {σ : aSt} (hl : Ls ≤ 3072) (hi : i + 6 ≤ Ls) (h : IV xs Ls σ) (g : ∀ σ2, IV xs Ls σ2 → aGo (aCall MT 140) P mc_law 1382 (LO i) [] σ2) : aGo (aCall MT 140) P mc_law 331 (LO i) [] σ := by
  obtain ⟨r, σ1, σ2, hx, hm, hs1, h2⟩ := s_round h (xs (i + 1))
  have hs := IV_SC h
  refine go_rd (S' := [.ref 0]) (k' := 337) hs hl 1 (1 : Int32) rfl (by omega) 6 (fun K h => h) ?_
  refine go_call (r := some (.int r)) (σc := σ) (σ1 := σ1) (mi := 124) (vs := [.ref 0, .int (xs (i + 1))]) (k' := 338) (L' := LO i) (S' := []) 1 hx (fun K h => h) ?_
  refine go_rd (S' := [.ref 66, .int r]) (k' := 344) hs1 hl 1 (1 : Int32) rfl (by omega) 6 (fun K h => h) ?_
  refine go_call (r := some (.int r)) (σc := σ1) (σ1 := σ2) (mi := 125) (vs := [.ref 66, .int (xs (i + 1))]) (k' := 345) (L' := LO i) (S' := [.int r]) 1 hm (fun K h => h) ?_
  exact go_if (c := r = r) (k1 := 1382) (L1 := LO i) (S1 := []) (σ1 := σ2) (k2 := 346) (L2 := LO i) (S2 := []) (σ2 := σ2) 1 (fun K h => h) (fun _ => g σ2 h2) (fun q => absurd rfl q)
set_option maxRecDepth 100000 in
theorem lw_formula {P : Option Value → aSt → Prop} {xs : Nat → Int32} {Ls i : Nat} {σ : aSt} (hl : Ls ≤ 3072) (hi : i + 6 ≤ Ls) (h : IV xs Ls σ) (g : ∀ σ2, IV xs Ls σ2 → aGo (aCall MT 140) P mc_law 1382 (LO i) [] σ2) : aGo (aCall MT 140) P mc_law 348 (LO i) [] σ := by
  obtain ⟨r, σ1, σ2, hx, hm, hs1, h2⟩ := s_formula h 
  refine go_call (r := some (.int r)) (σc := σ) (σ1 := σ1) (mi := 131) (vs := [.ref 0]) (k' := 350) (L' := LO i) (S' := []) 2 hx (fun K h => h) ?_
  refine go_call (r := some (.int r)) (σc := σ1) (σ1 := σ2) (mi := 135) (vs := [.ref 66]) (k' := 352) (L' := LO i) (S' := [.int r]) 2 hm (fun K h => h) ?_
  exact go_if (c := r = r) (k1 := 1382) (L1 := LO i) (S1 := []) (σ1 := σ2) (k2 := 353) (L2 := LO i) (S2 := []) (σ2 := σ2) 1 (fun K h => h) (fun _ => g σ2 h2) (fun q => absurd rfl q)
set_option maxRecDepth 100000 in
theorem lw_many {P : Option Value → aSt → Prop} {xs : Nat → Int32} {Ls i : Nat} {σ : aSt} (hl : Ls ≤ 3072) (hi : i + 6 ≤ Ls) (h : IV xs Ls σ) (g : ∀ σ2, IV xs Ls σ2 → aGo (aCall MT 140) P mc_law 1382 (LO i) [] σ2) : aGo (aCall MT 140) P mc_law 355 (LO i) [] σ := by
  obtain ⟨r, σ1, σ2, hx, hm, hs1, h2⟩ := s_many h (xs (i + 1))
  have hs := IV_SC h
  refine go_rd (S' := [.ref 0]) (k' := 361) hs hl 1 (1 : Int32) rfl (by omega) 6 (fun K h => h) ?_
  refine go_call (r := some (.int r)) (σc := σ) (σ1 := σ1) (mi := 144) (vs := [.ref 0, .int (xs (i + 1))]) (k' := 362) (L' := LO i) (S' := []) 1 hx (fun K h => h) ?_
  refine go_rd (S' := [.ref 66, .int r]) (k' := 368) hs1 hl 1 (1 : Int32) rfl (by omega) 6 (fun K h => h) ?_
  refine go_call (r := some (.int r)) (σc := σ1) (σ1 := σ2) (mi := 149) (vs := [.ref 66, .int (xs (i + 1))]) (k' := 369) (L' := LO i) (S' := [.int r]) 1 hm (fun K h => h) ?_
  exact go_if (c := r = r) (k1 := 1382) (L1 := LO i) (S1 := []) (σ1 := σ2) (k2 := 370) (L2 := LO i) (S2 := []) (σ2 := σ2) 1 (fun K h => h) (fun _ => g σ2 h2) (fun q => absurd rfl q)
set_option maxRecDepth 100000 in
theorem lw_orderBy {P : Option Value → aSt → Prop} {xs : Nat → Int32} {Ls i : Nat} {σ : aSt} (hl : Ls ≤ 3072) (hi : i + 6 ≤ Ls) (h : IV xs Ls σ) (g : ∀ σ2, IV xs Ls σ2 → aGo (aCall MT 140) P mc_law 1382 (LO i) [] σ2) : aGo (aCall MT 140) P mc_law 372 (LO i) [] σ := by
  obtain ⟨r, σ1, σ2, hx, hm, hs1, h2⟩ := s_orderBy h (xs (i + 1)) (xs (i + 2))
  have hs := IV_SC h
  refine go_rd (S' := [.ref 0]) (k' := 378) hs hl 1 (1 : Int32) rfl (by omega) 6 (fun K h => h) ?_
  refine go_rd (S' := [.int (xs (i + 1)), .ref 0]) (k' := 383) hs hl 2 (2 : Int32) rfl (by omega) 5 (fun K h => h) ?_
  refine go_call (r := some (.int r)) (σc := σ) (σ1 := σ1) (mi := 154) (vs := [.ref 0, .int (xs (i + 1)), .int (xs (i + 2))]) (k' := 384) (L' := LO i) (S' := []) 1 hx (fun K h => h) ?_
  refine go_rd (S' := [.ref 66, .int r]) (k' := 390) hs1 hl 1 (1 : Int32) rfl (by omega) 6 (fun K h => h) ?_
  refine go_rd (S' := [.int (xs (i + 1)), .ref 66, .int r]) (k' := 395) hs1 hl 2 (2 : Int32) rfl (by omega) 5 (fun K h => h) ?_
  refine go_call (r := some (.int r)) (σc := σ1) (σ1 := σ2) (mi := 159) (vs := [.ref 66, .int (xs (i + 1)), .int (xs (i + 2))]) (k' := 396) (L' := LO i) (S' := [.int r]) 1 hm (fun K h => h) ?_
  exact go_if (c := r = r) (k1 := 1382) (L1 := LO i) (S1 := []) (σ1 := σ2) (k2 := 397) (L2 := LO i) (S2 := []) (σ2 := σ2) 1 (fun K h => h) (fun _ => g σ2 h2) (fun q => absurd rfl q)
