set_option maxRecDepth 100000 in
theorem lw_twists {P : Option Value → aSt → Prop} {xs : Nat → Int32} {Ls i : Nat} {σ : aSt} (hl : Ls ≤ 3072) (hi : i + 6 ≤ Ls) (h : IV xs Ls σ) (g : ∀ σ2, IV xs Ls σ2 → aGo (aCall MT 140) P mc_law 1382 (LO i) [] σ2) : aGo (aCall MT 140) P mc_law 738 (LO i) [] σ := by
  obtain ⟨r, σ1, σ2, hx, hm, hs1, h2⟩ := s_twists h (xs (i + 1))
  have hs := IV_SC h
  refine go_rd (S' := [.ref 0]) (k' := 744) hs hl 1 (1 : Int32) rfl (by omega) 6 (fun K h => h) ?_
  refine go_call (r := some (.int r)) (σc := σ) (σ1 := σ1) (mi := 252) (vs := [.ref 0, .int (xs (i + 1))]) (k' := 745) (L' := LO i) (S' := []) 1 hx (fun K h => h) ?_
  refine go_rd (S' := [.ref 66, .int r]) (k' := 751) hs1 hl 1 (1 : Int32) rfl (by omega) 6 (fun K h => h) ?_
  refine go_call (r := some (.int r)) (σc := σ1) (σ1 := σ2) (mi := 253) (vs := [.ref 66, .int (xs (i + 1))]) (k' := 752) (L' := LO i) (S' := [.int r]) 1 hm (fun K h => h) ?_
  exact go_if (c := r = r) (k1 := 1382) (L1 := LO i) (S1 := []) (σ1 := σ2) (k2 := 753) (L2 := LO i) (S2 := []) (σ2 := σ2) 1 (fun K h => h) (fun _ => g σ2 h2) (fun q => absurd rfl q)
set_option maxRecDepth 100000 in
theorem lw_within {P : Option Value → aSt → Prop} {xs : Nat → Int32} {Ls i : Nat} {σ : aSt} (hl : Ls ≤ 3072) (hi : i + 6 ≤ Ls) (h : IV xs Ls σ) (g : ∀ σ2, IV xs Ls σ2 → aGo (aCall MT 140) P mc_law 1382 (LO i) [] σ2) : aGo (aCall MT 140) P mc_law 755 (LO i) [] σ := by
  obtain ⟨r, σ1, σ2, hx, hm, hs1, h2⟩ := s_within h (xs (i + 1)) (xs (i + 2))
  have hs := IV_SC h
  refine go_rd (S' := [.ref 0]) (k' := 761) hs hl 1 (1 : Int32) rfl (by omega) 6 (fun K h => h) ?_
  refine go_rd (S' := [.int (xs (i + 1)), .ref 0]) (k' := 766) hs hl 2 (2 : Int32) rfl (by omega) 5 (fun K h => h) ?_
  refine go_call (r := some (.int r)) (σc := σ) (σ1 := σ1) (mi := 254) (vs := [.ref 0, .int (xs (i + 1)), .int (xs (i + 2))]) (k' := 767) (L' := LO i) (S' := []) 1 hx (fun K h => h) ?_
  refine go_rd (S' := [.ref 66, .int r]) (k' := 773) hs1 hl 1 (1 : Int32) rfl (by omega) 6 (fun K h => h) ?_
  refine go_rd (S' := [.int (xs (i + 1)), .ref 66, .int r]) (k' := 778) hs1 hl 2 (2 : Int32) rfl (by omega) 5 (fun K h => h) ?_
  refine go_call (r := some (.int r)) (σc := σ1) (σ1 := σ2) (mi := 255) (vs := [.ref 66, .int (xs (i + 1)), .int (xs (i + 2))]) (k' := 779) (L' := LO i) (S' := [.int r]) 1 hm (fun K h => h) ?_
  exact go_if (c := r = r) (k1 := 1382) (L1 := LO i) (S1 := []) (σ1 := σ2) (k2 := 780) (L2 := LO i) (S2 := []) (σ2 := σ2) 1 (fun K h => h) (fun _ => g σ2 h2) (fun q => absurd rfl q)
set_option maxRecDepth 100000 in
theorem lw_tell {P : Option Value → aSt → Prop} {xs : Nat → Int32} {Ls i : Nat} {σ : aSt} (hl : Ls ≤ 3072) (hi : i + 6 ≤ Ls) (h : IV xs Ls σ) (g : ∀ σ2, IV xs Ls σ2 → aGo (aCall MT 140) P mc_law 1382 (LO i) [] σ2) : aGo (aCall MT 140) P mc_law 782 (LO i) [] σ := by
  obtain ⟨r, σ1, σ2, hx, hm, hs1, h2⟩ := s_tell h (xs (i + 1))
  have hs := IV_SC h
  refine go_rd (S' := [.ref 0]) (k' := 788) hs hl 1 (1 : Int32) rfl (by omega) 6 (fun K h => h) ?_
  refine go_call (r := some (.int r)) (σc := σ) (σ1 := σ1) (mi := 261) (vs := [.ref 0, .int (xs (i + 1))]) (k' := 789) (L' := LO i) (S' := []) 1 hx (fun K h => h) ?_
  refine go_rd (S' := [.ref 66, .int r]) (k' := 795) hs1 hl 1 (1 : Int32) rfl (by omega) 6 (fun K h => h) ?_
  refine go_call (r := some (.int r)) (σc := σ1) (σ1 := σ2) (mi := 265) (vs := [.ref 66, .int (xs (i + 1))]) (k' := 796) (L' := LO i) (S' := [.int r]) 1 hm (fun K h => h) ?_
  exact go_if (c := r = r) (k1 := 1382) (L1 := LO i) (S1 := []) (σ1 := σ2) (k2 := 797) (L2 := LO i) (S2 := []) (σ2 := σ2) 1 (fun K h => h) (fun _ => g σ2 h2) (fun q => absurd rfl q)
set_option maxRecDepth 100000 in
theorem lw_octet {P : Option Value → aSt → Prop} {xs : Nat → Int32} {Ls i : Nat} {σ : aSt} (hl : Ls ≤ 3072) (hi : i + 6 ≤ Ls) (h : IV xs Ls σ) (g : ∀ σ2, IV xs Ls σ2 → aGo (aCall MT 140) P mc_law 1382 (LO i) [] σ2) : aGo (aCall MT 140) P mc_law 799 (LO i) [] σ := by
  obtain ⟨r, σ1, σ2, hx, hm, hs1, h2⟩ := s_octet h (xs (i + 1))
  have hs := IV_SC h
  refine go_rd (S' := [.ref 0]) (k' := 805) hs hl 1 (1 : Int32) rfl (by omega) 6 (fun K h => h) ?_
  refine go_call (r := some (.int r)) (σc := σ) (σ1 := σ1) (mi := 267) (vs := [.ref 0, .int (xs (i + 1))]) (k' := 806) (L' := LO i) (S' := []) 1 hx (fun K h => h) ?_
  refine go_rd (S' := [.ref 66, .int r]) (k' := 812) hs1 hl 1 (1 : Int32) rfl (by omega) 6 (fun K h => h) ?_
  refine go_call (r := some (.int r)) (σc := σ1) (σ1 := σ2) (mi := 268) (vs := [.ref 66, .int (xs (i + 1))]) (k' := 813) (L' := LO i) (S' := [.int r]) 1 hm (fun K h => h) ?_
  exact go_if (c := r = r) (k1 := 1382) (L1 := LO i) (S1 := []) (σ1 := σ2) (k2 := 814) (L2 := LO i) (S2 := []) (σ2 := σ2) 1 (fun K h => h) (fun _ => g σ2 h2) (fun q => absurd rfl q)
set_option maxRecDepth 100000 in
theorem lw_half {P : Option Value → aSt → Prop} {xs : Nat → Int32} {Ls i : Nat} {σ : aSt} (hl : Ls ≤ 3072) (hi : i + 6 ≤ Ls) (h : IV xs Ls σ) (g : ∀ σ2, IV xs Ls σ2 → aGo (aCall MT 140) P mc_law 1382 (LO i) [] σ2) : aGo (aCall MT 140) P mc_law 816 (LO i) [] σ := by
  obtain ⟨r, σ1, σ2, hx, hm, hs1, h2⟩ := s_half h (xs (i + 1)) (xs (i + 2))
  have hs := IV_SC h
  refine go_rd (S' := [.ref 0]) (k' := 822) hs hl 1 (1 : Int32) rfl (by omega) 6 (fun K h => h) ?_
  refine go_rd (S' := [.int (xs (i + 1)), .ref 0]) (k' := 827) hs hl 2 (2 : Int32) rfl (by omega) 5 (fun K h => h) ?_
  refine go_call (r := some (.int r)) (σc := σ) (σ1 := σ1) (mi := 269) (vs := [.ref 0, .int (xs (i + 1)), .int (xs (i + 2))]) (k' := 828) (L' := LO i) (S' := []) 1 hx (fun K h => h) ?_
  refine go_rd (S' := [.ref 66, .int r]) (k' := 834) hs1 hl 1 (1 : Int32) rfl (by omega) 6 (fun K h => h) ?_
  refine go_rd (S' := [.int (xs (i + 1)), .ref 66, .int r]) (k' := 839) hs1 hl 2 (2 : Int32) rfl (by omega) 5 (fun K h => h) ?_
  refine go_call (r := some (.int r)) (σc := σ1) (σ1 := σ2) (mi := 270) (vs := [.ref 66, .int (xs (i + 1)), .int (xs (i + 2))]) (k' := 840) (L' := LO i) (S' := [.int r]) 1 hm (fun K h => h) ?_
  exact go_if (c := r = r) (k1 := 1382) (L1 := LO i) (S1 := []) (σ1 := σ2) (k2 := 841) (L2 := LO i) (S2 := []) (σ2 := σ2) 1 (fun K h => h) (fun _ => g σ2 h2) (fun q => absurd rfl q)
set_option maxRecDepth 100000 in
theorem lw_straight {P : Option Value → aSt → Prop} {xs : Nat → Int32} {Ls i : Nat} {σ : aSt} (hl : Ls ≤ 3072) (hi : i + 6 ≤ Ls) (h : IV xs Ls σ) (g : ∀ σ2, IV xs Ls σ2 → aGo (aCall MT 140) P mc_law 1382 (LO i) [] σ2) : aGo (aCall MT 140) P mc_law 843 (LO i) [] σ := by
  obtain ⟨r, σ1, σ2, hx, hm, hs1, h2⟩ := s_straight h (xs (i + 1)) (xs (i + 2)) (xs (i + 3))
  have hs := IV_SC h
  refine go_rd (S' := [.ref 0]) (k' := 849) hs hl 1 (1 : Int32) rfl (by omega) 6 (fun K h => h) ?_
  refine go_rd (S' := [.int (xs (i + 1)), .ref 0]) (k' := 854) hs hl 2 (2 : Int32) rfl (by omega) 5 (fun K h => h) ?_
  refine go_rd (S' := [.int (xs (i + 2)), .int (xs (i + 1)), .ref 0]) (k' := 859) hs hl 3 (3 : Int32) rfl (by omega) 5 (fun K h => h) ?_
  refine go_call (r := some (.int r)) (σc := σ) (σ1 := σ1) (mi := 271) (vs := [.ref 0, .int (xs (i + 1)), .int (xs (i + 2)), .int (xs (i + 3))]) (k' := 860) (L' := LO i) (S' := []) 1 hx (fun K h => h) ?_
  refine go_rd (S' := [.ref 66, .int r]) (k' := 866) hs1 hl 1 (1 : Int32) rfl (by omega) 6 (fun K h => h) ?_
  refine go_rd (S' := [.int (xs (i + 1)), .ref 66, .int r]) (k' := 871) hs1 hl 2 (2 : Int32) rfl (by omega) 5 (fun K h => h) ?_
  refine go_rd (S' := [.int (xs (i + 2)), .int (xs (i + 1)), .ref 66, .int r]) (k' := 876) hs1 hl 3 (3 : Int32) rfl (by omega) 5 (fun K h => h) ?_
  refine go_call (r := some (.int r)) (σc := σ1) (σ1 := σ2) (mi := 273) (vs := [.ref 66, .int (xs (i + 1)), .int (xs (i + 2)), .int (xs (i + 3))]) (k' := 877) (L' := LO i) (S' := [.int r]) 1 hm (fun K h => h) ?_
  exact go_if (c := r = r) (k1 := 1382) (L1 := LO i) (S1 := []) (σ1 := σ2) (k2 := 878) (L2 := LO i) (S2 := []) (σ2 := σ2) 1 (fun K h => h) (fun _ => g σ2 h2) (fun q => absurd rfl q)
set_option maxRecDepth 100000 in
theorem lw_lines {P : Option Value → aSt → Prop} {xs : Nat → Int32} {Ls i : Nat} {σ : aSt} (hl : Ls ≤ 3072) (hi : i + 6 ≤ Ls) (h : IV xs Ls σ) (g : ∀ σ2, IV xs Ls σ2 → aGo (aCall MT 140) P mc_law 1382 (LO i) [] σ2) : aGo (aCall MT 140) P mc_law 880 (LO i) [] σ := by
  obtain ⟨r, σ1, σ2, hx, hm, hs1, h2⟩ := s_lines h 
  refine go_call (r := some (.int r)) (σc := σ) (σ1 := σ1) (mi := 275) (vs := [.ref 0]) (k' := 882) (L' := LO i) (S' := []) 2 hx (fun K h => h) ?_
  refine go_call (r := some (.int r)) (σc := σ1) (σ1 := σ2) (mi := 276) (vs := [.ref 66]) (k' := 884) (L' := LO i) (S' := [.int r]) 2 hm (fun K h => h) ?_
  exact go_if (c := r = r) (k1 := 1382) (L1 := LO i) (S1 := []) (σ1 := σ2) (k2 := 885) (L2 := LO i) (S2 := []) (σ2 := σ2) 1 (fun K h => h) (fun _ => g σ2 h2) (fun q => absurd rfl q)
set_option maxRecDepth 100000 in
theorem lw_part {P : Option Value → aSt → Prop} {xs : Nat → Int32} {Ls i : Nat} {σ : aSt} (hl : Ls ≤ 3072) (hi : i + 6 ≤ Ls) (h : IV xs Ls σ) (g : ∀ σ2, IV xs Ls σ2 → aGo (aCall MT 140) P mc_law 1382 (LO i) [] σ2) : aGo (aCall MT 140) P mc_law 887 (LO i) [] σ := by
  obtain ⟨r, σ1, σ2, hx, hm, hs1, h2⟩ := s_part h (xs (i + 1))
  have hs := IV_SC h
  refine go_rd (S' := [.ref 0]) (k' := 893) hs hl 1 (1 : Int32) rfl (by omega) 6 (fun K h => h) ?_
  refine go_call (r := some (.int r)) (σc := σ) (σ1 := σ1) (mi := 277) (vs := [.ref 0, .int (xs (i + 1))]) (k' := 894) (L' := LO i) (S' := []) 1 hx (fun K h => h) ?_
  refine go_rd (S' := [.ref 66, .int r]) (k' := 900) hs1 hl 1 (1 : Int32) rfl (by omega) 6 (fun K h => h) ?_
  refine go_call (r := some (.int r)) (σc := σ1) (σ1 := σ2) (mi := 278) (vs := [.ref 66, .int (xs (i + 1))]) (k' := 901) (L' := LO i) (S' := [.int r]) 1 hm (fun K h => h) ?_
  exact go_if (c := r = r) (k1 := 1382) (L1 := LO i) (S1 := []) (σ1 := σ2) (k2 := 902) (L2 := LO i) (S2 := []) (σ2 := σ2) 1 (fun K h => h) (fun _ => g σ2 h2) (fun q => absurd rfl q)
set_option maxRecDepth 100000 in
theorem lw_shows {P : Option Value → aSt → Prop} {xs : Nat → Int32} {Ls i : Nat} {σ : aSt} (hl : Ls ≤ 3072) (hi : i + 6 ≤ Ls) (h : IV xs Ls σ) (g : ∀ σ2, IV xs Ls σ2 → aGo (aCall MT 140) P mc_law 1382 (LO i) [] σ2) : aGo (aCall MT 140) P mc_law 904 (LO i) [] σ := by
  obtain ⟨r, σ1, σ2, hx, hm, hs1, h2⟩ := s_shows h (xs (i + 1))
  have hs := IV_SC h
  refine go_rd (S' := [.ref 0]) (k' := 910) hs hl 1 (1 : Int32) rfl (by omega) 6 (fun K h => h) ?_
  refine go_call (r := some (.int r)) (σc := σ) (σ1 := σ1) (mi := 280) (vs := [.ref 0, .int (xs (i + 1))]) (k' := 911) (L' := LO i) (S' := []) 1 hx (fun K h => h) ?_
  refine go_rd (S' := [.ref 66, .int r]) (k' := 917) hs1 hl 1 (1 : Int32) rfl (by omega) 6 (fun K h => h) ?_
  refine go_call (r := some (.int r)) (σc := σ1) (σ1 := σ2) (mi := 281) (vs := [.ref 66, .int (xs (i + 1))]) (k' := 918) (L' := LO i) (S' := [.int r]) 1 hm (fun K h => h) ?_
  exact go_if (c := r = r) (k1 := 1382) (L1 := LO i) (S1 := []) (σ1 := σ2) (k2 := 919) (L2 := LO i) (S2 := []) (σ2 := σ2) 1 (fun K h => h) (fun _ => g σ2 h2) (fun q => absurd rfl q)
set_option maxRecDepth 100000 in
theorem lw_groupBy {P : Option Value → aSt → Prop} {xs : Nat → Int32} {Ls i : Nat} {σ : aSt} (hl : Ls ≤ 3072) (hi : i + 6 ≤ Ls) (h : IV xs Ls σ) (g : ∀ σ2, IV xs Ls σ2 → aGo (aCall MT 140) P mc_law 1382 (LO i) [] σ2) : aGo (aCall MT 140) P mc_law 921 (LO i) [] σ := by
  obtain ⟨r, σ1, σ2, hx, hm, hs1, h2⟩ := s_groupBy h (xs (i + 1)) (xs (i + 2))
  have hs := IV_SC h
  refine go_rd (S' := [.ref 0]) (k' := 927) hs hl 1 (1 : Int32) rfl (by omega) 6 (fun K h => h) ?_
  refine go_rd (S' := [.int (xs (i + 1)), .ref 0]) (k' := 932) hs hl 2 (2 : Int32) rfl (by omega) 5 (fun K h => h) ?_
  refine go_call (r := some (.int r)) (σc := σ) (σ1 := σ1) (mi := 287) (vs := [.ref 0, .int (xs (i + 1)), .int (xs (i + 2))]) (k' := 933) (L' := LO i) (S' := []) 1 hx (fun K h => h) ?_
  refine go_rd (S' := [.ref 66, .int r]) (k' := 939) hs1 hl 1 (1 : Int32) rfl (by omega) 6 (fun K h => h) ?_
  refine go_rd (S' := [.int (xs (i + 1)), .ref 66, .int r]) (k' := 944) hs1 hl 2 (2 : Int32) rfl (by omega) 5 (fun K h => h) ?_
  refine go_call (r := some (.int r)) (σc := σ1) (σ1 := σ2) (mi := 289) (vs := [.ref 66, .int (xs (i + 1)), .int (xs (i + 2))]) (k' := 945) (L' := LO i) (S' := [.int r]) 1 hm (fun K h => h) ?_
  exact go_if (c := r = r) (k1 := 1382) (L1 := LO i) (S1 := []) (σ1 := σ2) (k2 := 946) (L2 := LO i) (S2 := []) (σ2 := σ2) 1 (fun K h => h) (fun _ => g σ2 h2) (fun q => absurd rfl q)
set_option maxRecDepth 100000 in
theorem lw_logBy {P : Option Value → aSt → Prop} {xs : Nat → Int32} {Ls i : Nat} {σ : aSt} (hl : Ls ≤ 3072) (hi : i + 6 ≤ Ls) (h : IV xs Ls σ) (g : ∀ σ2, IV xs Ls σ2 → aGo (aCall MT 140) P mc_law 1382 (LO i) [] σ2) : aGo (aCall MT 140) P mc_law 948 (LO i) [] σ := by
  obtain ⟨r, σ1, σ2, hx, hm, hs1, h2⟩ := s_logBy h (xs (i + 1)) (xs (i + 2)) (xs (i + 3))
  have hs := IV_SC h
  refine go_rd (S' := [.ref 0]) (k' := 954) hs hl 1 (1 : Int32) rfl (by omega) 6 (fun K h => h) ?_
  refine go_rd (S' := [.int (xs (i + 1)), .ref 0]) (k' := 959) hs hl 2 (2 : Int32) rfl (by omega) 5 (fun K h => h) ?_
  refine go_rd (S' := [.int (xs (i + 2)), .int (xs (i + 1)), .ref 0]) (k' := 964) hs hl 3 (3 : Int32) rfl (by omega) 5 (fun K h => h) ?_
  refine go_call (r := some (.int r)) (σc := σ) (σ1 := σ1) (mi := 291) (vs := [.ref 0, .int (xs (i + 1)), .int (xs (i + 2)), .int (xs (i + 3))]) (k' := 965) (L' := LO i) (S' := []) 1 hx (fun K h => h) ?_
  refine go_rd (S' := [.ref 66, .int r]) (k' := 971) hs1 hl 1 (1 : Int32) rfl (by omega) 6 (fun K h => h) ?_
  refine go_rd (S' := [.int (xs (i + 1)), .ref 66, .int r]) (k' := 976) hs1 hl 2 (2 : Int32) rfl (by omega) 5 (fun K h => h) ?_
  refine go_rd (S' := [.int (xs (i + 2)), .int (xs (i + 1)), .ref 66, .int r]) (k' := 981) hs1 hl 3 (3 : Int32) rfl (by omega) 5 (fun K h => h) ?_
  refine go_call (r := some (.int r)) (σc := σ1) (σ1 := σ2) (mi := 292) (vs := [.ref 66, .int (xs (i + 1)), .int (xs (i + 2)), .int (xs (i + 3))]) (k' := 982) (L' := LO i) (S' := [.int r]) 1 hm (fun K h => h) ?_
  exact go_if (c := r = r) (k1 := 1382) (L1 := LO i) (S1 := []) (σ1 := σ2) (k2 := 983) (L2 := LO i) (S2 := []) (σ2 := σ2) 1 (fun K h => h) (fun _ => g σ2 h2) (fun q => absurd rfl q)
set_option maxRecDepth 100000 in
theorem lw_bestBy {P : Option Value → aSt → Prop} {xs : Nat → Int32} {Ls i : Nat} {σ : aSt} (hl : Ls ≤ 3072) (hi : i + 6 ≤ Ls) (h : IV xs Ls σ) (g : ∀ σ2, IV xs Ls σ2 → aGo (aCall MT 140) P mc_law 1382 (LO i) [] σ2) : aGo (aCall MT 140) P mc_law 985 (LO i) [] σ := by
  obtain ⟨r, σ1, σ2, hx, hm, hs1, h2⟩ := s_bestBy h (xs (i + 1)) (xs (i + 2))
  have hs := IV_SC h
  refine go_rd (S' := [.ref 0]) (k' := 991) hs hl 1 (1 : Int32) rfl (by omega) 6 (fun K h => h) ?_
  refine go_rd (S' := [.int (xs (i + 1)), .ref 0]) (k' := 996) hs hl 2 (2 : Int32) rfl (by omega) 5 (fun K h => h) ?_
  refine go_call (r := some (.int r)) (σc := σ) (σ1 := σ1) (mi := 294) (vs := [.ref 0, .int (xs (i + 1)), .int (xs (i + 2))]) (k' := 997) (L' := LO i) (S' := []) 1 hx (fun K h => h) ?_
  refine go_rd (S' := [.ref 66, .int r]) (k' := 1003) hs1 hl 1 (1 : Int32) rfl (by omega) 6 (fun K h => h) ?_
  refine go_rd (S' := [.int (xs (i + 1)), .ref 66, .int r]) (k' := 1008) hs1 hl 2 (2 : Int32) rfl (by omega) 5 (fun K h => h) ?_
  refine go_call (r := some (.int r)) (σc := σ1) (σ1 := σ2) (mi := 295) (vs := [.ref 66, .int (xs (i + 1)), .int (xs (i + 2))]) (k' := 1009) (L' := LO i) (S' := [.int r]) 1 hm (fun K h => h) ?_
  exact go_if (c := r = r) (k1 := 1382) (L1 := LO i) (S1 := []) (σ1 := σ2) (k2 := 1010) (L2 := LO i) (S2 := []) (σ2 := σ2) 1 (fun K h => h) (fun _ => g σ2 h2) (fun q => absurd rfl q)
set_option maxRecDepth 100000 in
theorem lw_walk {P : Option Value → aSt → Prop} {xs : Nat → Int32} {Ls i : Nat} {σ : aSt} (hl : Ls ≤ 3072) (hi : i + 6 ≤ Ls) (h : IV xs Ls σ) (g : ∀ σ2, IV xs Ls σ2 → aGo (aCall MT 140) P mc_law 1382 (LO i) [] σ2) : aGo (aCall MT 140) P mc_law 1012 (LO i) [] σ := by
  obtain ⟨r, σ1, σ2, hx, hm, hs1, h2⟩ := s_walk h (xs (i + 1))
  have hs := IV_SC h
  refine go_rd (S' := [.ref 0]) (k' := 1018) hs hl 1 (1 : Int32) rfl (by omega) 6 (fun K h => h) ?_
  refine go_call (r := some (.int r)) (σc := σ) (σ1 := σ1) (mi := 296) (vs := [.ref 0, .int (xs (i + 1))]) (k' := 1019) (L' := LO i) (S' := []) 1 hx (fun K h => h) ?_
  refine go_rd (S' := [.ref 66, .int r]) (k' := 1025) hs1 hl 1 (1 : Int32) rfl (by omega) 6 (fun K h => h) ?_
  refine go_call (r := some (.int r)) (σc := σ1) (σ1 := σ2) (mi := 297) (vs := [.ref 66, .int (xs (i + 1))]) (k' := 1026) (L' := LO i) (S' := [.int r]) 1 hm (fun K h => h) ?_
  exact go_if (c := r = r) (k1 := 1382) (L1 := LO i) (S1 := []) (σ1 := σ2) (k2 := 1027) (L2 := LO i) (S2 := []) (σ2 := σ2) 1 (fun K h => h) (fun _ => g σ2 h2) (fun q => absurd rfl q)
set_option maxRecDepth 100000 in
theorem lw_between {P : Option Value → aSt → Prop} {xs : Nat → Int32} {Ls i : Nat} {σ : aSt} (hl : Ls ≤ 3072) (hi : i + 6 ≤ Ls) (h : IV xs Ls σ) (g : ∀ σ2, IV xs Ls σ2 → aGo (aCall MT 140) P mc_law 1382 (LO i) [] σ2) : aGo (aCall MT 140) P mc_law 1029 (LO i) [] σ := by
  obtain ⟨r, σ1, σ2, hx, hm, hs1, h2⟩ := s_between h (xs (i + 1)) (xs (i + 2)) (xs (i + 3))
  have hs := IV_SC h
  refine go_rd (S' := [.ref 0]) (k' := 1035) hs hl 1 (1 : Int32) rfl (by omega) 6 (fun K h => h) ?_
  refine go_rd (S' := [.int (xs (i + 1)), .ref 0]) (k' := 1040) hs hl 2 (2 : Int32) rfl (by omega) 5 (fun K h => h) ?_
  refine go_rd (S' := [.int (xs (i + 2)), .int (xs (i + 1)), .ref 0]) (k' := 1045) hs hl 3 (3 : Int32) rfl (by omega) 5 (fun K h => h) ?_
  refine go_call (r := some (.int r)) (σc := σ) (σ1 := σ1) (mi := 299) (vs := [.ref 0, .int (xs (i + 1)), .int (xs (i + 2)), .int (xs (i + 3))]) (k' := 1046) (L' := LO i) (S' := []) 1 hx (fun K h => h) ?_
  refine go_rd (S' := [.ref 66, .int r]) (k' := 1052) hs1 hl 1 (1 : Int32) rfl (by omega) 6 (fun K h => h) ?_
  refine go_rd (S' := [.int (xs (i + 1)), .ref 66, .int r]) (k' := 1057) hs1 hl 2 (2 : Int32) rfl (by omega) 5 (fun K h => h) ?_
  refine go_rd (S' := [.int (xs (i + 2)), .int (xs (i + 1)), .ref 66, .int r]) (k' := 1062) hs1 hl 3 (3 : Int32) rfl (by omega) 5 (fun K h => h) ?_
  refine go_call (r := some (.int r)) (σc := σ1) (σ1 := σ2) (mi := 300) (vs := [.ref 66, .int (xs (i + 1)), .int (xs (i + 2)), .int (xs (i + 3))]) (k' := 1063) (L' := LO i) (S' := [.int r]) 1 hm (fun K h => h) ?_
  exact go_if (c := r = r) (k1 := 1382) (L1 := LO i) (S1 := []) (σ1 := σ2) (k2 := 1064) (L2 := LO i) (S2 := []) (σ2 := σ2) 1 (fun K h => h) (fun _ => g σ2 h2) (fun q => absurd rfl q)
set_option maxRecDepth 100000 in
theorem lw_nearest {P : Option Value → aSt → Prop} {xs : Nat → Int32} {Ls i : Nat} {σ : aSt} (hl : Ls ≤ 3072) (hi : i + 6 ≤ Ls) (h : IV xs Ls σ) (g : ∀ σ2, IV xs Ls σ2 → aGo (aCall MT 140) P mc_law 1382 (LO i) [] σ2) : aGo (aCall MT 140) P mc_law 1066 (LO i) [] σ := by
  obtain ⟨r, σ1, σ2, hx, hm, hs1, h2⟩ := s_nearest h (xs (i + 1)) (xs (i + 2))
  have hs := IV_SC h
  refine go_rd (S' := [.ref 0]) (k' := 1072) hs hl 1 (1 : Int32) rfl (by omega) 6 (fun K h => h) ?_
  refine go_rd (S' := [.int (xs (i + 1)), .ref 0]) (k' := 1077) hs hl 2 (2 : Int32) rfl (by omega) 5 (fun K h => h) ?_
  refine go_call (r := some (.int r)) (σc := σ) (σ1 := σ1) (mi := 301) (vs := [.ref 0, .int (xs (i + 1)), .int (xs (i + 2))]) (k' := 1078) (L' := LO i) (S' := []) 1 hx (fun K h => h) ?_
  refine go_rd (S' := [.ref 66, .int r]) (k' := 1084) hs1 hl 1 (1 : Int32) rfl (by omega) 6 (fun K h => h) ?_
  refine go_rd (S' := [.int (xs (i + 1)), .ref 66, .int r]) (k' := 1089) hs1 hl 2 (2 : Int32) rfl (by omega) 5 (fun K h => h) ?_
  refine go_call (r := some (.int r)) (σc := σ1) (σ1 := σ2) (mi := 302) (vs := [.ref 66, .int (xs (i + 1)), .int (xs (i + 2))]) (k' := 1090) (L' := LO i) (S' := [.int r]) 1 hm (fun K h => h) ?_
  exact go_if (c := r = r) (k1 := 1382) (L1 := LO i) (S1 := []) (σ1 := σ2) (k2 := 1091) (L2 := LO i) (S2 := []) (σ2 := σ2) 1 (fun K h => h) (fun _ => g σ2 h2) (fun q => absurd rfl q)
set_option maxRecDepth 100000 in
theorem lw_undo {P : Option Value → aSt → Prop} {xs : Nat → Int32} {Ls i : Nat} {σ : aSt} (hl : Ls ≤ 3072) (hi : i + 6 ≤ Ls) (h : IV xs Ls σ) (g : ∀ σ2, IV xs Ls σ2 → aGo (aCall MT 140) P mc_law 1382 (LO i) [] σ2) : aGo (aCall MT 140) P mc_law 1093 (LO i) [] σ := by
  obtain ⟨r, σ1, σ2, hx, hm, hs1, h2⟩ := s_undo h 
  refine go_call (r := some (.int r)) (σc := σ) (σ1 := σ1) (mi := 306) (vs := [.ref 0]) (k' := 1095) (L' := LO i) (S' := []) 2 hx (fun K h => h) ?_
  refine go_call (r := some (.int r)) (σc := σ1) (σ1 := σ2) (mi := 307) (vs := [.ref 66]) (k' := 1097) (L' := LO i) (S' := [.int r]) 2 hm (fun K h => h) ?_
  exact go_if (c := r = r) (k1 := 1382) (L1 := LO i) (S1 := []) (σ1 := σ2) (k2 := 1098) (L2 := LO i) (S2 := []) (σ2 := σ2) 1 (fun K h => h) (fun _ => g σ2 h2) (fun q => absurd rfl q)
