set_option maxRecDepth 100000 in
theorem lw_bound {P : Option Value → aSt → Prop} {xs : Nat → Int32} {Ls i : Nat} {σ : aSt} (hl : Ls ≤ 3072) (hi : i + 6 ≤ Ls) (h : IV xs Ls σ) (g : ∀ σ2, IV xs Ls σ2 → aGo (aCall MT 140) P mc_law 1382 (LO i) [] σ2) : aGo (aCall MT 140) P mc_law 399 (LO i) [] σ := by
  obtain ⟨r, σ1, σ2, hx, hm, hs1, h2⟩ := s_bound h 
  refine go_call (r := some (.int r)) (σc := σ) (σ1 := σ1) (mi := 160) (vs := [.ref 0]) (k' := 401) (L' := LO i) (S' := []) 2 hx (fun K h => h) ?_
  refine go_call (r := some (.int r)) (σc := σ1) (σ1 := σ2) (mi := 161) (vs := [.ref 66]) (k' := 403) (L' := LO i) (S' := [.int r]) 2 hm (fun K h => h) ?_
  exact go_if (c := r = r) (k1 := 1382) (L1 := LO i) (S1 := []) (σ1 := σ2) (k2 := 404) (L2 := LO i) (S2 := []) (σ2 := σ2) 1 (fun K h => h) (fun _ => g σ2 h2) (fun q => absurd rfl q)
set_option maxRecDepth 100000 in
theorem lw_trace {P : Option Value → aSt → Prop} {xs : Nat → Int32} {Ls i : Nat} {σ : aSt} (hl : Ls ≤ 3072) (hi : i + 6 ≤ Ls) (h : IV xs Ls σ) (g : ∀ σ2, IV xs Ls σ2 → aGo (aCall MT 140) P mc_law 1382 (LO i) [] σ2) : aGo (aCall MT 140) P mc_law 406 (LO i) [] σ := by
  obtain ⟨r, σ1, σ2, hx, hm, hs1, h2⟩ := s_trace h (xs (i + 1))
  have hs := IV_SC h
  refine go_rd (S' := [.ref 0]) (k' := 412) hs hl 1 (1 : Int32) rfl (by omega) 6 (fun K h => h) ?_
  refine go_call (r := some (.long r)) (σc := σ) (σ1 := σ1) (mi := 162) (vs := [.ref 0, .int (xs (i + 1))]) (k' := 413) (L' := LO i) (S' := []) 1 hx (fun K h => h) ?_
  refine go_rd (S' := [.ref 66, .long r]) (k' := 419) hs1 hl 1 (1 : Int32) rfl (by omega) 6 (fun K h => h) ?_
  refine go_call (r := some (.long r)) (σc := σ1) (σ1 := σ2) (mi := 163) (vs := [.ref 66, .int (xs (i + 1))]) (k' := 420) (L' := LO i) (S' := [.long r]) 1 hm (fun K h => h) ?_
  exact go_iff (lcmp_eq r r) (k1 := 1382) (L1 := LO i) (S1 := []) (σ1 := σ2) (k2 := 422) (L2 := LO i) (S2 := []) (σ2 := σ2) 2 (fun K h => h) (fun _ => g σ2 h2) (fun q => absurd rfl q)
set_option maxRecDepth 100000 in
theorem lw_classes {P : Option Value → aSt → Prop} {xs : Nat → Int32} {Ls i : Nat} {σ : aSt} (hl : Ls ≤ 3072) (hi : i + 6 ≤ Ls) (h : IV xs Ls σ) (g : ∀ σ2, IV xs Ls σ2 → aGo (aCall MT 140) P mc_law 1382 (LO i) [] σ2) : aGo (aCall MT 140) P mc_law 424 (LO i) [] σ := by
  obtain ⟨r, σ1, σ2, hx, hm, hs1, h2⟩ := s_classes h (xs (i + 1)) (xs (i + 2))
  have hs := IV_SC h
  refine go_rd (S' := [.ref 0]) (k' := 430) hs hl 1 (1 : Int32) rfl (by omega) 6 (fun K h => h) ?_
  refine go_rd (S' := [.int (xs (i + 1)), .ref 0]) (k' := 435) hs hl 2 (2 : Int32) rfl (by omega) 5 (fun K h => h) ?_
  refine go_call (r := some (.int r)) (σc := σ) (σ1 := σ1) (mi := 180) (vs := [.ref 0, .int (xs (i + 1)), .int (xs (i + 2))]) (k' := 436) (L' := LO i) (S' := []) 1 hx (fun K h => h) ?_
  refine go_rd (S' := [.ref 66, .int r]) (k' := 442) hs1 hl 1 (1 : Int32) rfl (by omega) 6 (fun K h => h) ?_
  refine go_rd (S' := [.int (xs (i + 1)), .ref 66, .int r]) (k' := 447) hs1 hl 2 (2 : Int32) rfl (by omega) 5 (fun K h => h) ?_
  refine go_call (r := some (.int r)) (σc := σ1) (σ1 := σ2) (mi := 192) (vs := [.ref 66, .int (xs (i + 1)), .int (xs (i + 2))]) (k' := 448) (L' := LO i) (S' := [.int r]) 1 hm (fun K h => h) ?_
  exact go_if (c := r = r) (k1 := 1382) (L1 := LO i) (S1 := []) (σ1 := σ2) (k2 := 449) (L2 := LO i) (S2 := []) (σ2 := σ2) 1 (fun K h => h) (fun _ => g σ2 h2) (fun q => absurd rfl q)
set_option maxRecDepth 100000 in
theorem lw_classOf {P : Option Value → aSt → Prop} {xs : Nat → Int32} {Ls i : Nat} {σ : aSt} (hl : Ls ≤ 3072) (hi : i + 6 ≤ Ls) (h : IV xs Ls σ) (g : ∀ σ2, IV xs Ls σ2 → aGo (aCall MT 140) P mc_law 1382 (LO i) [] σ2) : aGo (aCall MT 140) P mc_law 451 (LO i) [] σ := by
  obtain ⟨r, σ1, σ2, hx, hm, hs1, h2⟩ := s_classOf h (xs (i + 1)) (xs (i + 2)) (xs (i + 3))
  have hs := IV_SC h
  refine go_rd (S' := [.ref 0]) (k' := 457) hs hl 1 (1 : Int32) rfl (by omega) 6 (fun K h => h) ?_
  refine go_rd (S' := [.int (xs (i + 1)), .ref 0]) (k' := 462) hs hl 2 (2 : Int32) rfl (by omega) 5 (fun K h => h) ?_
  refine go_rd (S' := [.int (xs (i + 2)), .int (xs (i + 1)), .ref 0]) (k' := 467) hs hl 3 (3 : Int32) rfl (by omega) 5 (fun K h => h) ?_
  refine go_call (r := some (.long r)) (σc := σ) (σ1 := σ1) (mi := 197) (vs := [.ref 0, .int (xs (i + 1)), .int (xs (i + 2)), .int (xs (i + 3))]) (k' := 468) (L' := LO i) (S' := []) 1 hx (fun K h => h) ?_
  refine go_rd (S' := [.ref 66, .long r]) (k' := 474) hs1 hl 1 (1 : Int32) rfl (by omega) 6 (fun K h => h) ?_
  refine go_rd (S' := [.int (xs (i + 1)), .ref 66, .long r]) (k' := 479) hs1 hl 2 (2 : Int32) rfl (by omega) 5 (fun K h => h) ?_
  refine go_rd (S' := [.int (xs (i + 2)), .int (xs (i + 1)), .ref 66, .long r]) (k' := 484) hs1 hl 3 (3 : Int32) rfl (by omega) 5 (fun K h => h) ?_
  refine go_call (r := some (.long r)) (σc := σ1) (σ1 := σ2) (mi := 198) (vs := [.ref 66, .int (xs (i + 1)), .int (xs (i + 2)), .int (xs (i + 3))]) (k' := 485) (L' := LO i) (S' := [.long r]) 1 hm (fun K h => h) ?_
  exact go_iff (lcmp_eq r r) (k1 := 1382) (L1 := LO i) (S1 := []) (σ1 := σ2) (k2 := 487) (L2 := LO i) (S2 := []) (σ2 := σ2) 2 (fun K h => h) (fun _ => g σ2 h2) (fun q => absurd rfl q)
set_option maxRecDepth 100000 in
theorem lw_rank {P : Option Value → aSt → Prop} {xs : Nat → Int32} {Ls i : Nat} {σ : aSt} (hl : Ls ≤ 3072) (hi : i + 6 ≤ Ls) (h : IV xs Ls σ) (g : ∀ σ2, IV xs Ls σ2 → aGo (aCall MT 140) P mc_law 1382 (LO i) [] σ2) : aGo (aCall MT 140) P mc_law 489 (LO i) [] σ := by
  obtain ⟨r, σ1, σ2, hx, hm, hs1, h2⟩ := s_rank h (xs (i + 1))
  have hs := IV_SC h
  refine go_rd (S' := [.ref 0]) (k' := 495) hs hl 1 (1 : Int32) rfl (by omega) 6 (fun K h => h) ?_
  refine go_call (r := some (.int r)) (σc := σ) (σ1 := σ1) (mi := 201) (vs := [.ref 0, .int (xs (i + 1))]) (k' := 496) (L' := LO i) (S' := []) 1 hx (fun K h => h) ?_
  refine go_rd (S' := [.ref 66, .int r]) (k' := 502) hs1 hl 1 (1 : Int32) rfl (by omega) 6 (fun K h => h) ?_
  refine go_call (r := some (.int r)) (σc := σ1) (σ1 := σ2) (mi := 203) (vs := [.ref 66, .int (xs (i + 1))]) (k' := 503) (L' := LO i) (S' := [.int r]) 1 hm (fun K h => h) ?_
  exact go_if (c := r = r) (k1 := 1382) (L1 := LO i) (S1 := []) (σ1 := σ2) (k2 := 504) (L2 := LO i) (S2 := []) (σ2 := σ2) 1 (fun K h => h) (fun _ => g σ2 h2) (fun q => absurd rfl q)
set_option maxRecDepth 100000 in
theorem lw_classAt {P : Option Value → aSt → Prop} {xs : Nat → Int32} {Ls i : Nat} {σ : aSt} (hl : Ls ≤ 3072) (hi : i + 6 ≤ Ls) (h : IV xs Ls σ) (g : ∀ σ2, IV xs Ls σ2 → aGo (aCall MT 140) P mc_law 1382 (LO i) [] σ2) : aGo (aCall MT 140) P mc_law 506 (LO i) [] σ := by
  obtain ⟨r, σ1, σ2, hx, hm, hs1, h2⟩ := s_classAt h (xs (i + 1))
  have hs := IV_SC h
  refine go_rd (S' := [.ref 0]) (k' := 512) hs hl 1 (1 : Int32) rfl (by omega) 6 (fun K h => h) ?_
  refine go_call (r := some (.long r)) (σc := σ) (σ1 := σ1) (mi := 204) (vs := [.ref 0, .int (xs (i + 1))]) (k' := 513) (L' := LO i) (S' := []) 1 hx (fun K h => h) ?_
  refine go_rd (S' := [.ref 66, .long r]) (k' := 519) hs1 hl 1 (1 : Int32) rfl (by omega) 6 (fun K h => h) ?_
  refine go_call (r := some (.long r)) (σc := σ1) (σ1 := σ2) (mi := 206) (vs := [.ref 66, .int (xs (i + 1))]) (k' := 520) (L' := LO i) (S' := [.long r]) 1 hm (fun K h => h) ?_
  exact go_iff (lcmp_eq r r) (k1 := 1382) (L1 := LO i) (S1 := []) (σ1 := σ2) (k2 := 522) (L2 := LO i) (S2 := []) (σ2 := σ2) 2 (fun K h => h) (fun _ => g σ2 h2) (fun q => absurd rfl q)
set_option maxRecDepth 100000 in
theorem lw_bits {P : Option Value → aSt → Prop} {xs : Nat → Int32} {Ls i : Nat} {σ : aSt} (hl : Ls ≤ 3072) (hi : i + 6 ≤ Ls) (h : IV xs Ls σ) (g : ∀ σ2, IV xs Ls σ2 → aGo (aCall MT 140) P mc_law 1382 (LO i) [] σ2) : aGo (aCall MT 140) P mc_law 524 (LO i) [] σ := by
  obtain ⟨r, σ1, σ2, hx, hm, hs1, h2⟩ := s_bits h (xs (i + 1))
  have hs := IV_SC h
  refine go_rd (S' := [.ref 0]) (k' := 530) hs hl 1 (1 : Int32) rfl (by omega) 6 (fun K h => h) ?_
  refine go_call (r := some (.int r)) (σc := σ) (σ1 := σ1) (mi := 208) (vs := [.ref 0, .int (xs (i + 1))]) (k' := 531) (L' := LO i) (S' := []) 1 hx (fun K h => h) ?_
  refine go_rd (S' := [.ref 66, .int r]) (k' := 537) hs1 hl 1 (1 : Int32) rfl (by omega) 6 (fun K h => h) ?_
  refine go_call (r := some (.int r)) (σc := σ1) (σ1 := σ2) (mi := 211) (vs := [.ref 66, .int (xs (i + 1))]) (k' := 538) (L' := LO i) (S' := [.int r]) 1 hm (fun K h => h) ?_
  exact go_if (c := r = r) (k1 := 1382) (L1 := LO i) (S1 := []) (σ1 := σ2) (k2 := 539) (L2 := LO i) (S2 := []) (σ2 := σ2) 1 (fun K h => h) (fun _ => g σ2 h2) (fun q => absurd rfl q)
set_option maxRecDepth 100000 in
theorem lw_parallel {P : Option Value → aSt → Prop} {xs : Nat → Int32} {Ls i : Nat} {σ : aSt} (hl : Ls ≤ 3072) (hi : i + 6 ≤ Ls) (h : IV xs Ls σ) (g : ∀ σ2, IV xs Ls σ2 → aGo (aCall MT 140) P mc_law 1382 (LO i) [] σ2) : aGo (aCall MT 140) P mc_law 541 (LO i) [] σ := by
  obtain ⟨r, σ1, σ2, hx, hm, hs1, h2⟩ := s_parallel h (xs (i + 1)) (xs (i + 2))
  have hs := IV_SC h
  refine go_rd (S' := [.ref 0]) (k' := 547) hs hl 1 (1 : Int32) rfl (by omega) 6 (fun K h => h) ?_
  refine go_rd (S' := [.int (xs (i + 1)), .ref 0]) (k' := 552) hs hl 2 (2 : Int32) rfl (by omega) 5 (fun K h => h) ?_
  refine go_call (r := some (.long r)) (σc := σ) (σ1 := σ1) (mi := 213) (vs := [.ref 0, .int (xs (i + 1)), .int (xs (i + 2))]) (k' := 553) (L' := LO i) (S' := []) 1 hx (fun K h => h) ?_
  refine go_rd (S' := [.ref 66, .long r]) (k' := 559) hs1 hl 1 (1 : Int32) rfl (by omega) 6 (fun K h => h) ?_
  refine go_rd (S' := [.int (xs (i + 1)), .ref 66, .long r]) (k' := 564) hs1 hl 2 (2 : Int32) rfl (by omega) 5 (fun K h => h) ?_
  refine go_call (r := some (.long r)) (σc := σ1) (σ1 := σ2) (mi := 215) (vs := [.ref 66, .int (xs (i + 1)), .int (xs (i + 2))]) (k' := 565) (L' := LO i) (S' := [.long r]) 1 hm (fun K h => h) ?_
  exact go_iff (lcmp_eq r r) (k1 := 1382) (L1 := LO i) (S1 := []) (σ1 := σ2) (k2 := 567) (L2 := LO i) (S2 := []) (σ2 := σ2) 2 (fun K h => h) (fun _ => g σ2 h2) (fun q => absurd rfl q)
set_option maxRecDepth 100000 in
theorem lw_made {P : Option Value → aSt → Prop} {xs : Nat → Int32} {Ls i : Nat} {σ : aSt} (hl : Ls ≤ 3072) (hi : i + 6 ≤ Ls) (h : IV xs Ls σ) (g : ∀ σ2, IV xs Ls σ2 → aGo (aCall MT 140) P mc_law 1382 (LO i) [] σ2) : aGo (aCall MT 140) P mc_law 569 (LO i) [] σ := by
  obtain ⟨r, σ1, σ2, hx, hm, hs1, h2⟩ := s_made h (xs (i + 1)) (xs (i + 2))
  have hs := IV_SC h
  refine go_rd (S' := [.ref 0]) (k' := 575) hs hl 1 (1 : Int32) rfl (by omega) 6 (fun K h => h) ?_
  refine go_rd (S' := [.int (xs (i + 1)), .ref 0]) (k' := 580) hs hl 2 (2 : Int32) rfl (by omega) 5 (fun K h => h) ?_
  refine go_call (r := some (.int r)) (σc := σ) (σ1 := σ1) (mi := 221) (vs := [.ref 0, .int (xs (i + 1)), .int (xs (i + 2))]) (k' := 581) (L' := LO i) (S' := []) 1 hx (fun K h => h) ?_
  refine go_rd (S' := [.ref 66, .int r]) (k' := 587) hs1 hl 1 (1 : Int32) rfl (by omega) 6 (fun K h => h) ?_
  refine go_rd (S' := [.int (xs (i + 1)), .ref 66, .int r]) (k' := 592) hs1 hl 2 (2 : Int32) rfl (by omega) 5 (fun K h => h) ?_
  refine go_call (r := some (.int r)) (σc := σ1) (σ1 := σ2) (mi := 224) (vs := [.ref 66, .int (xs (i + 1)), .int (xs (i + 2))]) (k' := 593) (L' := LO i) (S' := [.int r]) 1 hm (fun K h => h) ?_
  exact go_if (c := r = r) (k1 := 1382) (L1 := LO i) (S1 := []) (σ1 := σ2) (k2 := 594) (L2 := LO i) (S2 := []) (σ2 := σ2) 1 (fun K h => h) (fun _ => g σ2 h2) (fun q => absurd rfl q)
set_option maxRecDepth 100000 in
theorem lw_makers {P : Option Value → aSt → Prop} {xs : Nat → Int32} {Ls i : Nat} {σ : aSt} (hl : Ls ≤ 3072) (hi : i + 6 ≤ Ls) (h : IV xs Ls σ) (g : ∀ σ2, IV xs Ls σ2 → aGo (aCall MT 140) P mc_law 1382 (LO i) [] σ2) : aGo (aCall MT 140) P mc_law 596 (LO i) [] σ := by
  obtain ⟨r, σ1, σ2, hx, hm, hs1, h2⟩ := s_makers h (xs (i + 1))
  have hs := IV_SC h
  refine go_rd (S' := [.ref 0]) (k' := 602) hs hl 1 (1 : Int32) rfl (by omega) 6 (fun K h => h) ?_
  refine go_call (r := some (.int r)) (σc := σ) (σ1 := σ1) (mi := 227) (vs := [.ref 0, .int (xs (i + 1))]) (k' := 603) (L' := LO i) (S' := []) 1 hx (fun K h => h) ?_
  refine go_rd (S' := [.ref 66, .int r]) (k' := 609) hs1 hl 1 (1 : Int32) rfl (by omega) 6 (fun K h => h) ?_
  refine go_call (r := some (.int r)) (σc := σ1) (σ1 := σ2) (mi := 228) (vs := [.ref 66, .int (xs (i + 1))]) (k' := 610) (L' := LO i) (S' := [.int r]) 1 hm (fun K h => h) ?_
  exact go_if (c := r = r) (k1 := 1382) (L1 := LO i) (S1 := []) (σ1 := σ2) (k2 := 611) (L2 := LO i) (S2 := []) (σ2 := σ2) 1 (fun K h => h) (fun _ => g σ2 h2) (fun q => absurd rfl q)
set_option maxRecDepth 100000 in
theorem lw_related {P : Option Value → aSt → Prop} {xs : Nat → Int32} {Ls i : Nat} {σ : aSt} (hl : Ls ≤ 3072) (hi : i + 6 ≤ Ls) (h : IV xs Ls σ) (g : ∀ σ2, IV xs Ls σ2 → aGo (aCall MT 140) P mc_law 1382 (LO i) [] σ2) : aGo (aCall MT 140) P mc_law 613 (LO i) [] σ := by
  obtain ⟨r, σ1, σ2, hx, hm, hs1, h2⟩ := s_related h (xs (i + 1)) (xs (i + 2)) (xs (i + 3))
  have hs := IV_SC h
  refine go_rd (S' := [.ref 0]) (k' := 619) hs hl 1 (1 : Int32) rfl (by omega) 6 (fun K h => h) ?_
  refine go_rd (S' := [.int (xs (i + 1)), .ref 0]) (k' := 624) hs hl 2 (2 : Int32) rfl (by omega) 5 (fun K h => h) ?_
  refine go_rd (S' := [.int (xs (i + 2)), .int (xs (i + 1)), .ref 0]) (k' := 629) hs hl 3 (3 : Int32) rfl (by omega) 5 (fun K h => h) ?_
  refine go_call (r := some (.long r)) (σc := σ) (σ1 := σ1) (mi := 233) (vs := [.ref 0, .int (xs (i + 1)), .int (xs (i + 2)), .int (xs (i + 3))]) (k' := 630) (L' := LO i) (S' := []) 1 hx (fun K h => h) ?_
  refine go_rd (S' := [.ref 66, .long r]) (k' := 636) hs1 hl 1 (1 : Int32) rfl (by omega) 6 (fun K h => h) ?_
  refine go_rd (S' := [.int (xs (i + 1)), .ref 66, .long r]) (k' := 641) hs1 hl 2 (2 : Int32) rfl (by omega) 5 (fun K h => h) ?_
  refine go_rd (S' := [.int (xs (i + 2)), .int (xs (i + 1)), .ref 66, .long r]) (k' := 646) hs1 hl 3 (3 : Int32) rfl (by omega) 5 (fun K h => h) ?_
  refine go_call (r := some (.long r)) (σc := σ1) (σ1 := σ2) (mi := 236) (vs := [.ref 66, .int (xs (i + 1)), .int (xs (i + 2)), .int (xs (i + 3))]) (k' := 647) (L' := LO i) (S' := [.long r]) 1 hm (fun K h => h) ?_
  exact go_iff (lcmp_eq r r) (k1 := 1382) (L1 := LO i) (S1 := []) (σ1 := σ2) (k2 := 649) (L2 := LO i) (S2 := []) (σ2 := σ2) 2 (fun K h => h) (fun _ => g σ2 h2) (fun q => absurd rfl q)
set_option maxRecDepth 100000 in
theorem lw_above {P : Option Value → aSt → Prop} {xs : Nat → Int32} {Ls i : Nat} {σ : aSt} (hl : Ls ≤ 3072) (hi : i + 6 ≤ Ls) (h : IV xs Ls σ) (g : ∀ σ2, IV xs Ls σ2 → aGo (aCall MT 140) P mc_law 1382 (LO i) [] σ2) : aGo (aCall MT 140) P mc_law 651 (LO i) [] σ := by
  obtain ⟨r, σ1, σ2, hx, hm, hs1, h2⟩ := s_above h (xs (i + 1))
  have hs := IV_SC h
  refine go_rd (S' := [.ref 0]) (k' := 657) hs hl 1 (1 : Int32) rfl (by omega) 6 (fun K h => h) ?_
  refine go_call (r := some (.int r)) (σc := σ) (σ1 := σ1) (mi := 237) (vs := [.ref 0, .int (xs (i + 1))]) (k' := 658) (L' := LO i) (S' := []) 1 hx (fun K h => h) ?_
  refine go_rd (S' := [.ref 66, .int r]) (k' := 664) hs1 hl 1 (1 : Int32) rfl (by omega) 6 (fun K h => h) ?_
  refine go_call (r := some (.int r)) (σc := σ1) (σ1 := σ2) (mi := 238) (vs := [.ref 66, .int (xs (i + 1))]) (k' := 665) (L' := LO i) (S' := [.int r]) 1 hm (fun K h => h) ?_
  exact go_if (c := r = r) (k1 := 1382) (L1 := LO i) (S1 := []) (σ1 := σ2) (k2 := 666) (L2 := LO i) (S2 := []) (σ2 := σ2) 1 (fun K h => h) (fun _ => g σ2 h2) (fun q => absurd rfl q)
set_option maxRecDepth 100000 in
theorem lw_upTo {P : Option Value → aSt → Prop} {xs : Nat → Int32} {Ls i : Nat} {σ : aSt} (hl : Ls ≤ 3072) (hi : i + 6 ≤ Ls) (h : IV xs Ls σ) (g : ∀ σ2, IV xs Ls σ2 → aGo (aCall MT 140) P mc_law 1382 (LO i) [] σ2) : aGo (aCall MT 140) P mc_law 668 (LO i) [] σ := by
  obtain ⟨r, σ1, σ2, hx, hm, hs1, h2⟩ := s_upTo h (xs (i + 1))
  have hs := IV_SC h
  refine go_rd (S' := [.ref 0]) (k' := 674) hs hl 1 (1 : Int32) rfl (by omega) 6 (fun K h => h) ?_
  refine go_call (r := some (.int r)) (σc := σ) (σ1 := σ1) (mi := 239) (vs := [.ref 0, .int (xs (i + 1))]) (k' := 675) (L' := LO i) (S' := []) 1 hx (fun K h => h) ?_
  refine go_rd (S' := [.ref 66, .int r]) (k' := 681) hs1 hl 1 (1 : Int32) rfl (by omega) 6 (fun K h => h) ?_
  refine go_call (r := some (.int r)) (σc := σ1) (σ1 := σ2) (mi := 240) (vs := [.ref 66, .int (xs (i + 1))]) (k' := 682) (L' := LO i) (S' := [.int r]) 1 hm (fun K h => h) ?_
  exact go_if (c := r = r) (k1 := 1382) (L1 := LO i) (S1 := []) (σ1 := σ2) (k2 := 683) (L2 := LO i) (S2 := []) (σ2 := σ2) 1 (fun K h => h) (fun _ => g σ2 h2) (fun q => absurd rfl q)
set_option maxRecDepth 100000 in
theorem lw_beside {P : Option Value → aSt → Prop} {xs : Nat → Int32} {Ls i : Nat} {σ : aSt} (hl : Ls ≤ 3072) (hi : i + 6 ≤ Ls) (h : IV xs Ls σ) (g : ∀ σ2, IV xs Ls σ2 → aGo (aCall MT 140) P mc_law 1382 (LO i) [] σ2) : aGo (aCall MT 140) P mc_law 685 (LO i) [] σ := by
  obtain ⟨r, σ1, σ2, hx, hm, hs1, h2⟩ := s_beside h (xs (i + 1)) (xs (i + 2))
  have hs := IV_SC h
  refine go_rd (S' := [.ref 0]) (k' := 691) hs hl 1 (1 : Int32) rfl (by omega) 6 (fun K h => h) ?_
  refine go_rd (S' := [.int (xs (i + 1)), .ref 0]) (k' := 696) hs hl 2 (2 : Int32) rfl (by omega) 5 (fun K h => h) ?_
  refine go_call (r := some (.long r)) (σc := σ) (σ1 := σ1) (mi := 241) (vs := [.ref 0, .int (xs (i + 1)), .int (xs (i + 2))]) (k' := 697) (L' := LO i) (S' := []) 1 hx (fun K h => h) ?_
  refine go_rd (S' := [.ref 66, .long r]) (k' := 703) hs1 hl 1 (1 : Int32) rfl (by omega) 6 (fun K h => h) ?_
  refine go_rd (S' := [.int (xs (i + 1)), .ref 66, .long r]) (k' := 708) hs1 hl 2 (2 : Int32) rfl (by omega) 5 (fun K h => h) ?_
  refine go_call (r := some (.long r)) (σc := σ1) (σ1 := σ2) (mi := 242) (vs := [.ref 66, .int (xs (i + 1)), .int (xs (i + 2))]) (k' := 709) (L' := LO i) (S' := [.long r]) 1 hm (fun K h => h) ?_
  exact go_iff (lcmp_eq r r) (k1 := 1382) (L1 := LO i) (S1 := []) (σ1 := σ2) (k2 := 711) (L2 := LO i) (S2 := []) (σ2 := σ2) 2 (fun K h => h) (fun _ => g σ2 h2) (fun q => absurd rfl q)
set_option maxRecDepth 100000 in
theorem lw_same {P : Option Value → aSt → Prop} {xs : Nat → Int32} {Ls i : Nat} {σ : aSt} (hl : Ls ≤ 3072) (hi : i + 6 ≤ Ls) (h : IV xs Ls σ) (g : ∀ σ2, IV xs Ls σ2 → aGo (aCall MT 140) P mc_law 1382 (LO i) [] σ2) : aGo (aCall MT 140) P mc_law 713 (LO i) [] σ := by
  obtain ⟨r, σ1, σ2, hx, hm, hs1, h2⟩ := s_same h (xs (i + 1))
  have hs := IV_SC h
  refine go_rd (S' := [.ref 0]) (k' := 719) hs hl 1 (1 : Int32) rfl (by omega) 6 (fun K h => h) ?_
  refine go_call (r := some (.long r)) (σc := σ) (σ1 := σ1) (mi := 243) (vs := [.ref 0, .int (xs (i + 1))]) (k' := 720) (L' := LO i) (S' := []) 1 hx (fun K h => h) ?_
  refine go_rd (S' := [.ref 66, .long r]) (k' := 726) hs1 hl 1 (1 : Int32) rfl (by omega) 6 (fun K h => h) ?_
  refine go_call (r := some (.long r)) (σc := σ1) (σ1 := σ2) (mi := 244) (vs := [.ref 66, .int (xs (i + 1))]) (k' := 727) (L' := LO i) (S' := [.long r]) 1 hm (fun K h => h) ?_
  exact go_iff (lcmp_eq r r) (k1 := 1382) (L1 := LO i) (S1 := []) (σ1 := σ2) (k2 := 729) (L2 := LO i) (S2 := []) (σ2 := σ2) 2 (fun K h => h) (fun _ => g σ2 h2) (fun q => absurd rfl q)
set_option maxRecDepth 100000 in
theorem lw_goesBeside {P : Option Value → aSt → Prop} {xs : Nat → Int32} {Ls i : Nat} {σ : aSt} (hl : Ls ≤ 3072) (hi : i + 6 ≤ Ls) (h : IV xs Ls σ) (g : ∀ σ2, IV xs Ls σ2 → aGo (aCall MT 140) P mc_law 1382 (LO i) [] σ2) : aGo (aCall MT 140) P mc_law 731 (LO i) [] σ := by
  obtain ⟨r, σ1, σ2, hx, hm, hs1, h2⟩ := s_goesBeside h 
  refine go_call (r := some (.int r)) (σc := σ) (σ1 := σ1) (mi := 248) (vs := [.ref 0]) (k' := 733) (L' := LO i) (S' := []) 2 hx (fun K h => h) ?_
  refine go_call (r := some (.int r)) (σc := σ1) (σ1 := σ2) (mi := 251) (vs := [.ref 66]) (k' := 735) (L' := LO i) (S' := [.int r]) 2 hm (fun K h => h) ?_
  exact go_if (c := r = r) (k1 := 1382) (L1 := LO i) (S1 := []) (σ1 := σ2) (k2 := 736) (L2 := LO i) (S2 := []) (σ2 := σ2) 1 (fun K h => h) (fun _ => g σ2 h2) (fun q => absurd rfl q)
