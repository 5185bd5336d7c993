set_option maxRecDepth 100000 in
theorem lw_overMany {P : Option Value → aSt → Prop} {xs : Nat → Int32} {Ls i : Nat} {σ : aSt} (hl : Ls ≤ 3072) (hi : i + 6 ≤ Ls) (h : IV xs Ls σ) (g : ∀ σ2, IV xs Ls σ2 → aGo (aCall MT 140) P mc_law 1382 (LO i) [] σ2) : aGo (aCall MT 140) P mc_law 1100 (LO i) [] σ := by
  obtain ⟨r, σ1, σ2, hx, hm, hs1, h2⟩ := s_overMany h 
  refine go_call (r := some (.int r)) (σc := σ) (σ1 := σ1) (mi := 309) (vs := [.ref 0]) (k' := 1102) (L' := LO i) (S' := []) 2 hx (fun K h => h) ?_
  refine go_call (r := some (.int r)) (σc := σ1) (σ1 := σ2) (mi := 312) (vs := [.ref 66]) (k' := 1104) (L' := LO i) (S' := [.int r]) 2 hm (fun K h => h) ?_
  exact go_if (c := r = r) (k1 := 1382) (L1 := LO i) (S1 := []) (σ1 := σ2) (k2 := 1105) (L2 := LO i) (S2 := []) (σ2 := σ2) 1 (fun K h => h) (fun _ => g σ2 h2) (fun q => absurd rfl q)
set_option maxRecDepth 100000 in
theorem lw_overPoint {P : Option Value → aSt → Prop} {xs : Nat → Int32} {Ls i : Nat} {σ : aSt} (hl : Ls ≤ 3072) (hi : i + 6 ≤ Ls) (h : IV xs Ls σ) (g : ∀ σ2, IV xs Ls σ2 → aGo (aCall MT 140) P mc_law 1382 (LO i) [] σ2) : aGo (aCall MT 140) P mc_law 1107 (LO i) [] σ := by
  obtain ⟨r, σ1, σ2, hx, hm, hs1, h2⟩ := s_overPoint h (xs (i + 1)) (xs (i + 2))
  have hs := IV_SC h
  refine go_rd (S' := [.ref 0]) (k' := 1113) hs hl 1 (1 : Int32) rfl (by omega) 6 (fun K h => h) ?_
  refine go_rd (S' := [.int (xs (i + 1)), .ref 0]) (k' := 1118) hs hl 2 (2 : Int32) rfl (by omega) 5 (fun K h => h) ?_
  refine go_call (r := some (.long r)) (σc := σ) (σ1 := σ1) (mi := 313) (vs := [.ref 0, .int (xs (i + 1)), .int (xs (i + 2))]) (k' := 1119) (L' := LO i) (S' := []) 1 hx (fun K h => h) ?_
  refine go_rd (S' := [.ref 66, .long r]) (k' := 1125) hs1 hl 1 (1 : Int32) rfl (by omega) 6 (fun K h => h) ?_
  refine go_rd (S' := [.int (xs (i + 1)), .ref 66, .long r]) (k' := 1130) hs1 hl 2 (2 : Int32) rfl (by omega) 5 (fun K h => h) ?_
  refine go_call (r := some (.long r)) (σc := σ1) (σ1 := σ2) (mi := 314) (vs := [.ref 66, .int (xs (i + 1)), .int (xs (i + 2))]) (k' := 1131) (L' := LO i) (S' := [.long r]) 1 hm (fun K h => h) ?_
  exact go_iff (lcmp_eq r r) (k1 := 1382) (L1 := LO i) (S1 := []) (σ1 := σ2) (k2 := 1133) (L2 := LO i) (S2 := []) (σ2 := σ2) 2 (fun K h => h) (fun _ => g σ2 h2) (fun q => absurd rfl q)
set_option maxRecDepth 100000 in
theorem lw_over {P : Option Value → aSt → Prop} {xs : Nat → Int32} {Ls i : Nat} {σ : aSt} (hl : Ls ≤ 3072) (hi : i + 6 ≤ Ls) (h : IV xs Ls σ) (g : ∀ σ2, IV xs Ls σ2 → aGo (aCall MT 140) P mc_law 1382 (LO i) [] σ2) : aGo (aCall MT 140) P mc_law 1135 (LO i) [] σ := by
  obtain ⟨r, σ1, σ2, hx, hm, hs1, h2⟩ := s_over h (xs (i + 1))
  have hs := IV_SC h
  refine go_rd (S' := [.ref 0]) (k' := 1141) hs hl 1 (1 : Int32) rfl (by omega) 6 (fun K h => h) ?_
  refine go_call (r := some (.int r)) (σc := σ) (σ1 := σ1) (mi := 316) (vs := [.ref 0, .int (xs (i + 1))]) (k' := 1142) (L' := LO i) (S' := []) 1 hx (fun K h => h) ?_
  refine go_rd (S' := [.ref 66, .int r]) (k' := 1148) hs1 hl 1 (1 : Int32) rfl (by omega) 6 (fun K h => h) ?_
  refine go_call (r := some (.int r)) (σc := σ1) (σ1 := σ2) (mi := 319) (vs := [.ref 66, .int (xs (i + 1))]) (k' := 1149) (L' := LO i) (S' := [.int r]) 1 hm (fun K h => h) ?_
  exact go_if (c := r = r) (k1 := 1382) (L1 := LO i) (S1 := []) (σ1 := σ2) (k2 := 1150) (L2 := LO i) (S2 := []) (σ2 := σ2) 1 (fun K h => h) (fun _ => g σ2 h2) (fun q => absurd rfl q)
set_option maxRecDepth 100000 in
theorem lw_back {P : Option Value → aSt → Prop} {xs : Nat → Int32} {Ls i : Nat} {σ : aSt} (hl : Ls ≤ 3072) (hi : i + 6 ≤ Ls) (h : IV xs Ls σ) (g : ∀ σ2, IV xs Ls σ2 → aGo (aCall MT 140) P mc_law 1382 (LO i) [] σ2) : aGo (aCall MT 140) P mc_law 1152 (LO i) [] σ := by
  obtain ⟨r, σ1, σ2, hx, hm, hs1, h2⟩ := s_back h (xs (i + 1))
  have hs := IV_SC h
  refine go_rd (S' := [.ref 0]) (k' := 1158) hs hl 1 (1 : Int32) rfl (by omega) 6 (fun K h => h) ?_
  refine go_call (r := some (.int r)) (σc := σ) (σ1 := σ1) (mi := 320) (vs := [.ref 0, .int (xs (i + 1))]) (k' := 1159) (L' := LO i) (S' := []) 1 hx (fun K h => h) ?_
  refine go_rd (S' := [.ref 66, .int r]) (k' := 1165) hs1 hl 1 (1 : Int32) rfl (by omega) 6 (fun K h => h) ?_
  refine go_call (r := some (.int r)) (σc := σ1) (σ1 := σ2) (mi := 321) (vs := [.ref 66, .int (xs (i + 1))]) (k' := 1166) (L' := LO i) (S' := [.int r]) 1 hm (fun K h => h) ?_
  exact go_if (c := r = r) (k1 := 1382) (L1 := LO i) (S1 := []) (σ1 := σ2) (k2 := 1167) (L2 := LO i) (S2 := []) (σ2 := σ2) 1 (fun K h => h) (fun _ => g σ2 h2) (fun q => absurd rfl q)
set_option maxRecDepth 100000 in
theorem lw_bad {P : Option Value → aSt → Prop} {xs : Nat → Int32} {Ls i : Nat} {σ : aSt} (hl : Ls ≤ 3072) (hi : i + 6 ≤ Ls) (h : IV xs Ls σ) (g : ∀ σ2, IV xs Ls σ2 → aGo (aCall MT 140) P mc_law 1382 (LO i) [] σ2) : aGo (aCall MT 140) P mc_law 1169 (LO i) [] σ := by
  obtain ⟨r, σ1, σ2, hx, hm, hs1, h2⟩ := s_bad h (xs (i + 1))
  have hs := IV_SC h
  refine go_rd (S' := [.ref 0]) (k' := 1175) hs hl 1 (1 : Int32) rfl (by omega) 6 (fun K h => h) ?_
  refine go_call (r := some (.int r)) (σc := σ) (σ1 := σ1) (mi := 322) (vs := [.ref 0, .int (xs (i + 1))]) (k' := 1176) (L' := LO i) (S' := []) 1 hx (fun K h => h) ?_
  refine go_rd (S' := [.ref 66, .int r]) (k' := 1182) hs1 hl 1 (1 : Int32) rfl (by omega) 6 (fun K h => h) ?_
  refine go_call (r := some (.int r)) (σc := σ1) (σ1 := σ2) (mi := 323) (vs := [.ref 66, .int (xs (i + 1))]) (k' := 1183) (L' := LO i) (S' := [.int r]) 1 hm (fun K h => h) ?_
  exact go_if (c := r = r) (k1 := 1382) (L1 := LO i) (S1 := []) (σ1 := σ2) (k2 := 1184) (L2 := LO i) (S2 := []) (σ2 := σ2) 1 (fun K h => h) (fun _ => g σ2 h2) (fun q => absurd rfl q)
set_option maxRecDepth 100000 in
theorem lw_solves {P : Option Value → aSt → Prop} {xs : Nat → Int32} {Ls i : Nat} {σ : aSt} (hl : Ls ≤ 3072) (hi : i + 6 ≤ Ls) (h : IV xs Ls σ) (g : ∀ σ2, IV xs Ls σ2 → aGo (aCall MT 140) P mc_law 1382 (LO i) [] σ2) : aGo (aCall MT 140) P mc_law 1186 (LO i) [] σ := by
  obtain ⟨r, σ1, σ2, hx, hm, hs1, h2⟩ := s_solves h (xs (i + 1)) (xs (i + 2)) (xs (i + 3)) (xs (i + 4))
  have hs := IV_SC h
  refine go_rd (S' := [.ref 0]) (k' := 1192) hs hl 1 (1 : Int32) rfl (by omega) 6 (fun K h => h) ?_
  refine go_rd (S' := [.int (xs (i + 1)), .ref 0]) (k' := 1197) hs hl 2 (2 : Int32) rfl (by omega) 5 (fun K h => h) ?_
  refine go_rd (S' := [.int (xs (i + 2)), .int (xs (i + 1)), .ref 0]) (k' := 1202) hs hl 3 (3 : Int32) rfl (by omega) 5 (fun K h => h) ?_
  refine go_rd (S' := [.int (xs (i + 3)), .int (xs (i + 2)), .int (xs (i + 1)), .ref 0]) (k' := 1207) hs hl 4 (4 : Int32) rfl (by omega) 5 (fun K h => h) ?_
  refine go_call (r := some (.long r)) (σc := σ) (σ1 := σ1) (mi := 324) (vs := [.ref 0, .int (xs (i + 1)), .int (xs (i + 2)), .int (xs (i + 3)), .int (xs (i + 4))]) (k' := 1208) (L' := LO i) (S' := []) 1 hx (fun K h => h) ?_
  refine go_rd (S' := [.ref 66, .long r]) (k' := 1214) hs1 hl 1 (1 : Int32) rfl (by omega) 6 (fun K h => h) ?_
  refine go_rd (S' := [.int (xs (i + 1)), .ref 66, .long r]) (k' := 1219) hs1 hl 2 (2 : Int32) rfl (by omega) 5 (fun K h => h) ?_
  refine go_rd (S' := [.int (xs (i + 2)), .int (xs (i + 1)), .ref 66, .long r]) (k' := 1224) hs1 hl 3 (3 : Int32) rfl (by omega) 5 (fun K h => h) ?_
  refine go_rd (S' := [.int (xs (i + 3)), .int (xs (i + 2)), .int (xs (i + 1)), .ref 66, .long r]) (k' := 1229) hs1 hl 4 (4 : Int32) rfl (by omega) 5 (fun K h => h) ?_
  refine go_call (r := some (.long r)) (σc := σ1) (σ1 := σ2) (mi := 326) (vs := [.ref 66, .int (xs (i + 1)), .int (xs (i + 2)), .int (xs (i + 3)), .int (xs (i + 4))]) (k' := 1230) (L' := LO i) (S' := [.long r]) 1 hm (fun K h => h) ?_
  exact go_iff (lcmp_eq r r) (k1 := 1382) (L1 := LO i) (S1 := []) (σ1 := σ2) (k2 := 1232) (L2 := LO i) (S2 := []) (σ2 := σ2) 2 (fun K h => h) (fun _ => g σ2 h2) (fun q => absurd rfl q)
set_option maxRecDepth 100000 in
theorem lw_deep {P : Option Value → aSt → Prop} {xs : Nat → Int32} {Ls i : Nat} {σ : aSt} (hl : Ls ≤ 3072) (hi : i + 6 ≤ Ls) (h : IV xs Ls σ) (g : ∀ σ2, IV xs Ls σ2 → aGo (aCall MT 140) P mc_law 1382 (LO i) [] σ2) : aGo (aCall MT 140) P mc_law 1234 (LO i) [] σ := by
  obtain ⟨r, σ1, σ2, hx, hm, hs1, h2⟩ := s_deep h (xs (i + 1))
  have hs := IV_SC h
  refine go_rd (S' := [.ref 0]) (k' := 1240) hs hl 1 (1 : Int32) rfl (by omega) 6 (fun K h => h) ?_
  refine go_call (r := some (.int r)) (σc := σ) (σ1 := σ1) (mi := 328) (vs := [.ref 0, .int (xs (i + 1))]) (k' := 1241) (L' := LO i) (S' := []) 1 hx (fun K h => h) ?_
  refine go_rd (S' := [.ref 66, .int r]) (k' := 1247) hs1 hl 1 (1 : Int32) rfl (by omega) 6 (fun K h => h) ?_
  refine go_call (r := some (.int r)) (σc := σ1) (σ1 := σ2) (mi := 330) (vs := [.ref 66, .int (xs (i + 1))]) (k' := 1248) (L' := LO i) (S' := [.int r]) 1 hm (fun K h => h) ?_
  exact go_if (c := r = r) (k1 := 1382) (L1 := LO i) (S1 := []) (σ1 := σ2) (k2 := 1249) (L2 := LO i) (S2 := []) (σ2 := σ2) 1 (fun K h => h) (fun _ => g σ2 h2) (fun q => absurd rfl q)
set_option maxRecDepth 100000 in
theorem lw_tellCurve {P : Option Value → aSt → Prop} {xs : Nat → Int32} {Ls i : Nat} {σ : aSt} (hl : Ls ≤ 3072) (hi : i + 6 ≤ Ls) (h : IV xs Ls σ) (g : ∀ σ2, IV xs Ls σ2 → aGo (aCall MT 140) P mc_law 1382 (LO i) [] σ2) : aGo (aCall MT 140) P mc_law 1251 (LO i) [] σ := by
  obtain ⟨r, σ1, σ2, hx, hm, hs1, h2⟩ := s_tellCurve h 
  refine go_call (r := some (.int r)) (σc := σ) (σ1 := σ1) (mi := 332) (vs := [.ref 0]) (k' := 1253) (L' := LO i) (S' := []) 2 hx (fun K h => h) ?_
  refine go_call (r := some (.int r)) (σc := σ1) (σ1 := σ2) (mi := 334) (vs := [.ref 66]) (k' := 1255) (L' := LO i) (S' := [.int r]) 2 hm (fun K h => h) ?_
  exact go_if (c := r = r) (k1 := 1382) (L1 := LO i) (S1 := []) (σ1 := σ2) (k2 := 1256) (L2 := LO i) (S2 := []) (σ2 := σ2) 1 (fun K h => h) (fun _ => g σ2 h2) (fun q => absurd rfl q)
set_option maxRecDepth 100000 in
theorem lw_seenBy {P : Option Value → aSt → Prop} {xs : Nat → Int32} {Ls i : Nat} {σ : aSt} (hl : Ls ≤ 3072) (hi : i + 6 ≤ Ls) (h : IV xs Ls σ) (g : ∀ σ2, IV xs Ls σ2 → aGo (aCall MT 140) P mc_law 1382 (LO i) [] σ2) : aGo (aCall MT 140) P mc_law 1258 (LO i) [] σ := by
  obtain ⟨r, σ1, σ2, hx, hm, hs1, h2⟩ := s_seenBy h (xs (i + 1))
  have hs := IV_SC h
  refine go_rd (S' := [.ref 0]) (k' := 1264) hs hl 1 (1 : Int32) rfl (by omega) 6 (fun K h => h) ?_
  refine go_call (r := some (.int r)) (σc := σ) (σ1 := σ1) (mi := 337) (vs := [.ref 0, .int (xs (i + 1))]) (k' := 1265) (L' := LO i) (S' := []) 1 hx (fun K h => h) ?_
  refine go_rd (S' := [.ref 66, .int r]) (k' := 1271) hs1 hl 1 (1 : Int32) rfl (by omega) 6 (fun K h => h) ?_
  refine go_call (r := some (.int r)) (σc := σ1) (σ1 := σ2) (mi := 339) (vs := [.ref 66, .int (xs (i + 1))]) (k' := 1272) (L' := LO i) (S' := [.int r]) 1 hm (fun K h => h) ?_
  exact go_if (c := r = r) (k1 := 1382) (L1 := LO i) (S1 := []) (σ1 := σ2) (k2 := 1273) (L2 := LO i) (S2 := []) (σ2 := σ2) 1 (fun K h => h) (fun _ => g σ2 h2) (fun q => absurd rfl q)
set_option maxRecDepth 100000 in
theorem lw_firstAlike {P : Option Value → aSt → Prop} {xs : Nat → Int32} {Ls i : Nat} {σ : aSt} (hl : Ls ≤ 3072) (hi : i + 6 ≤ Ls) (h : IV xs Ls σ) (g : ∀ σ2, IV xs Ls σ2 → aGo (aCall MT 140) P mc_law 1382 (LO i) [] σ2) : aGo (aCall MT 140) P mc_law 1275 (LO i) [] σ := by
  obtain ⟨r, σ1, σ2, hx, hm, hs1, h2⟩ := s_firstAlike h (xs (i + 1)) (xs (i + 2))
  have hs := IV_SC h
  refine go_rd (S' := [.ref 0]) (k' := 1281) hs hl 1 (1 : Int32) rfl (by omega) 6 (fun K h => h) ?_
  refine go_rd (S' := [.int (xs (i + 1)), .ref 0]) (k' := 1286) hs hl 2 (2 : Int32) rfl (by omega) 5 (fun K h => h) ?_
  refine go_call (r := some (.int r)) (σc := σ) (σ1 := σ1) (mi := 341) (vs := [.ref 0, .int (xs (i + 1)), .int (xs (i + 2))]) (k' := 1287) (L' := LO i) (S' := []) 1 hx (fun K h => h) ?_
  refine go_rd (S' := [.ref 66, .int r]) (k' := 1293) hs1 hl 1 (1 : Int32) rfl (by omega) 6 (fun K h => h) ?_
  refine go_rd (S' := [.int (xs (i + 1)), .ref 66, .int r]) (k' := 1298) hs1 hl 2 (2 : Int32) rfl (by omega) 5 (fun K h => h) ?_
  refine go_call (r := some (.int r)) (σc := σ1) (σ1 := σ2) (mi := 342) (vs := [.ref 66, .int (xs (i + 1)), .int (xs (i + 2))]) (k' := 1299) (L' := LO i) (S' := [.int r]) 1 hm (fun K h => h) ?_
  exact go_if (c := r = r) (k1 := 1382) (L1 := LO i) (S1 := []) (σ1 := σ2) (k2 := 1300) (L2 := LO i) (S2 := []) (σ2 := σ2) 1 (fun K h => h) (fun _ => g σ2 h2) (fun q => absurd rfl q)
set_option maxRecDepth 100000 in
theorem lw_turnsRank {P : Option Value → aSt → Prop} {xs : Nat → Int32} {Ls i : Nat} {σ : aSt} (hl : Ls ≤ 3072) (hi : i + 6 ≤ Ls) (h : IV xs Ls σ) (g : ∀ σ2, IV xs Ls σ2 → aGo (aCall MT 140) P mc_law 1382 (LO i) [] σ2) : aGo (aCall MT 140) P mc_law 1302 (LO i) [] σ := by
  obtain ⟨r, σ1, σ2, hx, hm, hs1, h2⟩ := s_turnsRank h (xs (i + 1))
  have hs := IV_SC h
  refine go_rd (S' := [.ref 0]) (k' := 1308) hs hl 1 (1 : Int32) rfl (by omega) 6 (fun K h => h) ?_
  refine go_call (r := some (.int r)) (σc := σ) (σ1 := σ1) (mi := 344) (vs := [.ref 0, .int (xs (i + 1))]) (k' := 1309) (L' := LO i) (S' := []) 1 hx (fun K h => h) ?_
  refine go_rd (S' := [.ref 66, .int r]) (k' := 1315) hs1 hl 1 (1 : Int32) rfl (by omega) 6 (fun K h => h) ?_
  refine go_call (r := some (.int r)) (σc := σ1) (σ1 := σ2) (mi := 345) (vs := [.ref 66, .int (xs (i + 1))]) (k' := 1316) (L' := LO i) (S' := [.int r]) 1 hm (fun K h => h) ?_
  exact go_if (c := r = r) (k1 := 1382) (L1 := LO i) (S1 := []) (σ1 := σ2) (k2 := 1317) (L2 := LO i) (S2 := []) (σ2 := σ2) 1 (fun K h => h) (fun _ => g σ2 h2) (fun q => absurd rfl q)
set_option maxRecDepth 100000 in
theorem lw_breaks {P : Option Value → aSt → Prop} {xs : Nat → Int32} {Ls i : Nat} {σ : aSt} (hl : Ls ≤ 3072) (hi : i + 6 ≤ Ls) (h : IV xs Ls σ) (g : ∀ σ2, IV xs Ls σ2 → aGo (aCall MT 140) P mc_law 1382 (LO i) [] σ2) : aGo (aCall MT 140) P mc_law 1319 (LO i) [] σ := by
  obtain ⟨r, σ1, σ2, hx, hm, hs1, h2⟩ := s_breaks h (xs (i + 1))
  have hs := IV_SC h
  refine go_rd (S' := [.ref 0]) (k' := 1325) hs hl 1 (1 : Int32) rfl (by omega) 6 (fun K h => h) ?_
  refine go_call (r := some (.long r)) (σc := σ) (σ1 := σ1) (mi := 346) (vs := [.ref 0, .int (xs (i + 1))]) (k' := 1326) (L' := LO i) (S' := []) 1 hx (fun K h => h) ?_
  refine go_rd (S' := [.ref 66, .long r]) (k' := 1332) hs1 hl 1 (1 : Int32) rfl (by omega) 6 (fun K h => h) ?_
  refine go_call (r := some (.long r)) (σc := σ1) (σ1 := σ2) (mi := 347) (vs := [.ref 66, .int (xs (i + 1))]) (k' := 1333) (L' := LO i) (S' := [.long r]) 1 hm (fun K h => h) ?_
  exact go_iff (lcmp_eq r r) (k1 := 1382) (L1 := LO i) (S1 := []) (σ1 := σ2) (k2 := 1335) (L2 := LO i) (S2 := []) (σ2 := σ2) 2 (fun K h => h) (fun _ => g σ2 h2) (fun q => absurd rfl q)
set_option maxRecDepth 100000 in
theorem lw_traces {P : Option Value → aSt → Prop} {xs : Nat → Int32} {Ls i : Nat} {σ : aSt} (hl : Ls ≤ 3072) (hi : i + 6 ≤ Ls) (h : IV xs Ls σ) (g : ∀ σ2, IV xs Ls σ2 → aGo (aCall MT 140) P mc_law 1382 (LO i) [] σ2) : aGo (aCall MT 140) P mc_law 1337 (LO i) [] σ := by
  obtain ⟨r, σ1, σ2, hx, hm, hs1, h2⟩ := s_traces h (xs (i + 1))
  have hs := IV_SC h
  refine go_rd (S' := [.ref 0]) (k' := 1343) hs hl 1 (1 : Int32) rfl (by omega) 6 (fun K h => h) ?_
  refine go_call (r := some (.long r)) (σc := σ) (σ1 := σ1) (mi := 348) (vs := [.ref 0, .int (xs (i + 1))]) (k' := 1344) (L' := LO i) (S' := []) 1 hx (fun K h => h) ?_
  refine go_rd (S' := [.ref 66, .long r]) (k' := 1350) hs1 hl 1 (1 : Int32) rfl (by omega) 6 (fun K h => h) ?_
  refine go_call (r := some (.long r)) (σc := σ1) (σ1 := σ2) (mi := 349) (vs := [.ref 66, .int (xs (i + 1))]) (k' := 1351) (L' := LO i) (S' := [.long r]) 1 hm (fun K h => h) ?_
  exact go_iff (lcmp_eq r r) (k1 := 1382) (L1 := LO i) (S1 := []) (σ1 := σ2) (k2 := 1353) (L2 := LO i) (S2 := []) (σ2 := σ2) 2 (fun K h => h) (fun _ => g σ2 h2) (fun q => absurd rfl q)
set_option maxRecDepth 100000 in
theorem lw_sorts {P : Option Value → aSt → Prop} {xs : Nat → Int32} {Ls i : Nat} {σ : aSt} (hl : Ls ≤ 3072) (hi : i + 6 ≤ Ls) (h : IV xs Ls σ) (g : ∀ σ2, IV xs Ls σ2 → aGo (aCall MT 140) P mc_law 1382 (LO i) [] σ2) : aGo (aCall MT 140) P mc_law 1355 (LO i) [] σ := by
  obtain ⟨r, σ1, σ2, hx, hm, hs1, h2⟩ := s_sorts h (xs (i + 1)) (xs (i + 2))
  have hs := IV_SC h
  refine go_rd (S' := [.ref 0]) (k' := 1361) hs hl 1 (1 : Int32) rfl (by omega) 6 (fun K h => h) ?_
  refine go_rd (S' := [.int (xs (i + 1)), .ref 0]) (k' := 1366) hs hl 2 (2 : Int32) rfl (by omega) 5 (fun K h => h) ?_
  refine go_call (r := some (.int r)) (σc := σ) (σ1 := σ1) (mi := 350) (vs := [.ref 0, .int (xs (i + 1)), .int (xs (i + 2))]) (k' := 1367) (L' := LO i) (S' := []) 1 hx (fun K h => h) ?_
  refine go_rd (S' := [.ref 66, .int r]) (k' := 1373) hs1 hl 1 (1 : Int32) rfl (by omega) 6 (fun K h => h) ?_
  refine go_rd (S' := [.int (xs (i + 1)), .ref 66, .int r]) (k' := 1378) hs1 hl 2 (2 : Int32) rfl (by omega) 5 (fun K h => h) ?_
  refine go_call (r := some (.int r)) (σc := σ1) (σ1 := σ2) (mi := 351) (vs := [.ref 66, .int (xs (i + 1)), .int (xs (i + 2))]) (k' := 1379) (L' := LO i) (S' := [.int r]) 1 hm (fun K h => h) ?_
  exact go_if (c := r = r) (k1 := 1382) (L1 := LO i) (S1 := []) (σ1 := σ2) (k2 := 1380) (L2 := LO i) (S2 := []) (σ2 := σ2) 1 (fun K h => h) (fun _ => g σ2 h2) (fun q => absurd rfl q)
