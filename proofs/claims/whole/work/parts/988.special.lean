/-! the calls of the law that change more (printed by g988.py) -/
theorem IV_SC {xs : Nat → Int32} {Ls : Nat} {σ : aSt} (h : IV xs Ls σ) : SC xs Ls σ := by
  rcases h with ⟨T, n, len, h⟩ | ⟨a, b, M, E, H, d, T, n, len, h⟩
  · exact h.2.2.2.2.2.2.2.2.2.2.2.2
  · exact h.2.2.2.2.2.2.2.2.2.2.2.2
theorem s_lines {xs : Nat → Int32} {Ls : Nat} {σ : aSt} (h : IV xs Ls σ) : ∃ r σ1 σ2, (∀ P' : Option Value → aSt → Prop, P' (some (.int r)) σ1 → aCall MT 140 275 [.ref 0] σ P') ∧ (∀ P' : Option Value → aSt → Prop, P' (some (.int r)) σ2 → aCall MT 140 276 [.ref 66] σ1 P') ∧ SC xs Ls σ1 ∧ IV xs Ls σ2 := by
  rcases h with ⟨T, n, len, h⟩ | ⟨a, b, M, E, H, d, T, n, len, h⟩
  · have hb := h.2.1
    have e1 : f_X_lines 10000 σ = some ((-2 : Int32), σ) := by simp [f_X_lines, f_X_isListed, f_X_isPoint, f_X_isByPrime, hb.1]
    have e2 : f_M_lines 10000 σ = some ((-2 : Int32), σ) := by simp [f_M_lines, f_M_isListed, f_M_isPoint, f_M_isGoodPrime, hb.2.1]
    exact ⟨(-2 : Int32), σ, σ, fun P' hp => c_X_lines 135  σ e1 hp, fun P' hp => c_M_lines 136  σ e2 hp, h.2.2.2.2.2.2.2.2.2.2.2.2, Or.inl ⟨T, n, len, h⟩⟩
  · have hR := h
    obtain ⟨⟨hc, hV, hT0⟩, ⟨hRX, hOR, hLN, hMK, hBS, hGI, hTR, hXH, hRM, hMH⟩, ⟨hXT, hMT, hZ9, hK1, hK9, hK7, hCP, hCM, hTD, hFl, hSC⟩⟩ := h
    obtain ⟨σ1, e1, fX, n_LN⟩ := xlines_ok (N := 10000) (CVc_CV hc) (Nat.le_refl _) hRX hLN
    have g1 := kp_fr21 fX hR n_LN
    obtain ⟨σ2, e2, fM⟩ := mlines_ok (N := 10000) (CVc_CV hc) (Nat.le_refl _) (g1.2.1.2.2.2.2.2.2.2.2.1)
    exact ⟨_, σ1, σ2, fun P' hp => c_X_lines 135  σ e1 hp, fun P' hp => c_M_lines 136  σ1 e2 hp, g1.2.2.2.2.2.2.2.2.2.2.2.2, Or.inr ⟨a, b, M, E, H, d, T, n, len, kp_fr23 fM g1⟩⟩
theorem count_nr {T : Nat → Int} {n len : Nat} {σ : aSt} (h1 : σ.2.2 0 13 = false) (h2 : σ.2.2 66 1 = false) (h3 : σ.1 11 5 = 0) (h4 : σ.1 66 9 = 0) (hT : XT T n σ) (hU : MT' T n σ) (h : ToD len σ σ) (p : Int32) : f_X_count p σ = f_M_count p σ := by
  have sh : f_PointList_shown_11 σ = 0 := by unfold f_PointList_shown_11; rw [h3]; decide
  have e6 : f_Told_length σ = iZ (len : Int) := h.1
  have e5 : f_Reader_length σ = iZ (n : Int) := hT.1
  unfold f_X_count f_M_count
  rw [h1, h2, h4, sh, e6, e5, hU.1, h.2.1]
  simp only [Bool.false_eq_true, if_false]
  by_cases c4 : p = 4
  · subst c4
    rw [if_neg (fun h => h rfl), if_neg (by decide), if_neg (by decide), if_neg (by decide), if_neg (by decide), if_pos rfl]
  by_cases c5 : p = 5
  · subst c5
    rw [if_pos (by decide), if_neg (fun h => h rfl), if_neg (by decide), if_neg (by decide), if_neg (by decide), if_neg (by decide), if_neg (by decide), if_pos rfl]
  by_cases c6 : p = 6
  · subst c6
    rw [if_pos (by decide), if_pos (by decide), if_neg (fun h => h rfl), if_neg (by decide), if_neg (by decide), if_neg (by decide), if_neg (by decide), if_neg (by decide), if_neg (by decide), if_pos rfl]
  rw [if_pos c4, if_pos c5, if_pos c6, if_neg c4, if_neg c5, if_neg c6]
  simp only [ite_self]
theorem s_count {xs : Nat → Int32} {Ls : Nat} {σ : aSt} (h : IV xs Ls σ) (p0 : Int32) : ∃ r σ1 σ2, (∀ P' : Option Value → aSt → Prop, P' (some (.long r)) σ1 → aCall MT 140 71 [.ref 0, .int p0] σ P') ∧ (∀ P' : Option Value → aSt → Prop, P' (some (.long r)) σ2 → aCall MT 140 72 [.ref 66, .int p0] σ1 P') ∧ SC xs Ls σ1 ∧ IV xs Ls σ2 := by
  have hh := h
  have e : f_X_count p0 σ = f_M_count p0 σ := by
    rcases h with ⟨T, n, len, h⟩ | ⟨a, b, M, E, H, d, T, n, len, h⟩
    · obtain ⟨_, hb, ⟨hXT, hMT, hZ9, hK1, hK9, hK7, hCP, hCM, hTD, hFl, hSC⟩⟩ := h
      exact count_nr hb.1 hb.2.1 hb.2.2.1 hb.2.2.2 hXT hMT hTD p0
    · obtain ⟨⟨hc, hV, hT0⟩, ⟨hRX, hOR, hLN, hMK, hBS, hGI, hTR, hXH, hRM, hMH⟩, ⟨hXT, hMT, hZ9, hK1, hK9, hK7, hCP, hCM, hTD, hFl, hSC⟩⟩ := h
      exact count_eq hRX hRM hXT hMT hTD p0
  exact ⟨f_X_count p0 σ, σ, σ, fun P' hp => c_X_count 138 p0 σ hp, fun P' hp => c_M_count 139 p0 σ (by rw [← e]; exact hp), IV_SC hh, hh⟩
theorem s_fault {xs : Nat → Int32} {Ls : Nat} {σ : aSt} (h : IV xs Ls σ) (p0 : Int32) : ∃ r σ1 σ2, (∀ P' : Option Value → aSt → Prop, P' (some (.int r)) σ1 → aCall MT 140 66 [.ref 0, .int p0] σ P') ∧ (∀ P' : Option Value → aSt → Prop, P' (some (.int r)) σ2 → aCall MT 140 67 [.ref 66, .int p0] σ1 P') ∧ SC xs Ls σ1 ∧ IV xs Ls σ2 := by
  have hh := h
  have hf : Fl σ := by
    rcases h with ⟨T, n, len, h⟩ | ⟨a, b, M, E, H, d, T, n, len, h⟩
    · exact h.2.2.2.2.2.2.2.2.2.2.2.1
    · exact h.2.2.2.2.2.2.2.2.2.2.2.1
  have e := fault_eq hf.1 hf.2 p0
  exact ⟨f_X_fault p0 σ, σ, σ, fun P' hp => c_X_fault 138 p0 σ hp, fun P' hp => c_M_fault 139 p0 σ (by rw [← e]; exact hp), IV_SC hh, hh⟩
theorem s_octet {xs : Nat → Int32} {Ls : Nat} {σ : aSt} (h : IV xs Ls σ) (p0 : Int32) : ∃ r σ1 σ2, (∀ P' : Option Value → aSt → Prop, P' (some (.int r)) σ1 → aCall MT 140 267 [.ref 0, .int p0] σ P') ∧ (∀ P' : Option Value → aSt → Prop, P' (some (.int r)) σ2 → aCall MT 140 268 [.ref 66, .int p0] σ1 P') ∧ SC xs Ls σ1 ∧ IV xs Ls σ2 := by
  have hh := h
  have hf : ∃ len, ToD len σ σ := by
    rcases h with ⟨T, n, len, h⟩ | ⟨a, b, M, E, H, d, T, n, len, h⟩
    · exact ⟨len, h.2.2.2.2.2.2.2.2.2.2.1⟩
    · exact ⟨len, h.2.2.2.2.2.2.2.2.2.2.1⟩
  obtain ⟨len, hf⟩ := hf
  have e2 := octet_eq (N := 10000) hf p0
  exact ⟨f_X_octet p0 σ, σ, σ, fun P' hp => c_X_octet 137 p0 σ hp, fun P' hp => c_M_octet 138 p0 σ e2 hp, IV_SC hh, hh⟩
theorem s_feed {xs : Nat → Int32} {Ls : Nat} {σ : aSt} (h : IV xs Ls σ) (p0 p1 p2 p3 p4 : Int32) : ∃ r σ1 σ2, (∀ P' : Option Value → aSt → Prop, P' (some (.int r)) σ1 → aCall MT 140 3 [.ref 0, .int p0, .int p1, .int p2, .int p3, .int p4] σ P') ∧ (∀ P' : Option Value → aSt → Prop, P' (some (.int r)) σ2 → aCall MT 140 4 [.ref 66, .int p0, .int p1, .int p2, .int p3, .int p4] σ1 P') ∧ SC xs Ls σ1 ∧ IV xs Ls σ2 := by
  rcases h with ⟨T, n, len, h⟩ | ⟨a, b, M, E, H, d, T, n, len, h⟩
  · obtain ⟨hT0, hb, ⟨hXT, hMT, hZ9, hK1, hK9, hK7, hCP, hCM, hTD, hFl, hSC⟩⟩ := h
    obtain ⟨r, σ1, t1, T1, n1, e1, _, _, n_XT, _, fX, _⟩ := feed_eq (N := 10000) (by decide) (σ := σ) (τ := σ) hXT hMT hT0 p0 p1 p2 p3 p4
    obtain ⟨r', σ1', σ2, T2, n2, e1', e2, o2, y_XT, y_MT, fX2, fM⟩ := feed_eq (N := 10000) (by decide) (σ := σ) (τ := σ1) hXT (MTq_k fX (fun _ => ⟨rfl, rfl⟩) hMT) hT0 p0 p1 p2 p3 p4
    obtain ⟨q1, q2⟩ := Prod.mk.inj (Option.some.inj (e1.symm.trans e1'))
    subst q1; subst q2
    exact ⟨r, σ1, σ2, fun P' hp => c_X_feed 137 p0 p1 p2 p3 p4 σ e1 hp, fun P' hp => c_M_feed 139 p0 p1 p2 p3 p4 σ1 e2 hp, (SC_k fX (fun _ => ⟨rfl, rfl⟩) hSC), Or.inl ⟨T2, n2, len, o2, ⟨by rw [(fM 0 13 rfl).2.2, (fX 0 13 rfl).2.2]; exact hb.1, by rw [(fM 66 1 rfl).2.2, (fX 66 1 rfl).2.2]; exact hb.2.1, by rw [(fM 11 5 rfl).1, (fX 11 5 rfl).1]; exact hb.2.2.1, by rw [(fM 66 9 rfl).1, (fX 66 9 rfl).1]; exact hb.2.2.2⟩, ⟨(XT_k fM (fun _ => ⟨rfl, rfl⟩) y_XT), y_MT, (Z9_k fM (fun _ => rfl) (Z9_k fX (fun _ => rfl) hZ9)), (KT_41_k fM (fun _ => ⟨rfl, rfl, rfl, rfl, rfl, rfl, rfl, rfl, rfl, rfl⟩) (KT_41_k fX (fun _ => ⟨rfl, rfl, rfl, rfl, rfl, rfl, rfl, rfl, rfl, rfl⟩) hK1)), (KT_49_k fM (fun _ => ⟨rfl, rfl, rfl, rfl, rfl, rfl, rfl, rfl, rfl, rfl⟩) (KT_49_k fX (fun _ => ⟨rfl, rfl, rfl, rfl, rfl, rfl, rfl, rfl, rfl, rfl⟩) hK9)), (KT_57_k fM (fun _ => ⟨rfl, rfl, rfl, rfl, rfl, rfl, rfl, rfl, rfl, rfl⟩) (KT_57_k fX (fun _ => ⟨rfl, rfl, rfl, rfl, rfl, rfl, rfl, rfl, rfl, rfl⟩) hK7)), (CP_k fM (fun _ => rfl) (CP_k fX (fun _ => rfl) hCP)), (CM_k fM (fun _ => ⟨rfl, rfl, rfl⟩) (CM_k fX (fun _ => ⟨rfl, rfl, rfl⟩) hCM)), (TD1_k fM (fun _ => ⟨rfl, rfl, rfl, rfl⟩) (TD1_k fX (fun _ => ⟨rfl, rfl, rfl, rfl⟩) hTD)), (Fl_k fM (fun _ => ⟨rfl, rfl, rfl, rfl⟩) (Fl_k fX (fun _ => ⟨rfl, rfl, rfl, rfl⟩) hFl)), (SC_k fM (fun _ => ⟨rfl, rfl⟩) (SC_k fX (fun _ => ⟨rfl, rfl⟩) hSC))⟩⟩⟩
  · obtain ⟨⟨hc, hV, hT0⟩, ⟨hRX, hOR, hLN, hMK, hBS, hGI, hTR, hXH, hRM, hMH⟩, ⟨hXT, hMT, hZ9, hK1, hK9, hK7, hCP, hCM, hTD, hFl, hSC⟩⟩ := h
    obtain ⟨r, σ1, t1, T1, n1, e1, _, _, n_XT, _, fX, _⟩ := feed_eq (N := 10000) (by decide) (σ := σ) (τ := σ) hXT hMT hT0 p0 p1 p2 p3 p4
    obtain ⟨r', σ1', σ2, T2, n2, e1', e2, o2, y_XT, y_MT, fX2, fM⟩ := feed_eq (N := 10000) (by decide) (σ := σ) (τ := σ1) hXT (MTq_k fX (fun _ => ⟨rfl, rfl⟩) hMT) hT0 p0 p1 p2 p3 p4
    obtain ⟨q1, q2⟩ := Prod.mk.inj (Option.some.inj (e1.symm.trans e1'))
    subst q1; subst q2
    exact ⟨r, σ1, σ2, fun P' hp => c_X_feed 137 p0 p1 p2 p3 p4 σ e1 hp, fun P' hp => c_M_feed 139 p0 p1 p2 p3 p4 σ1 e2 hp, (SC_k fX (fun _ => ⟨rfl, rfl⟩) hSC), Or.inr ⟨a, b, M, E, H, d, T2, n2, len, ⟨hc, hV, o2⟩, ⟨(RX_k fM (fun _ => ⟨rfl, rfl, rfl, rfl, rfl, rfl⟩) (RX_k fX (fun _ => ⟨rfl, rfl, rfl, rfl, rfl, rfl⟩) hRX)), (OR_k fM (fun _ => rfl) (OR_k fX (fun _ => rfl) hOR)), (LN_k fM (fun _ => rfl) (LN_k fX (fun _ => rfl) hLN)), (MKc_k fM (fun _ => ⟨rfl, rfl, rfl, rfl, rfl, rfl⟩) (MKc_k fX (fun _ => ⟨rfl, rfl, rfl, rfl, rfl, rfl⟩) hMK)), (BS_k fM (fun _ => ⟨rfl, rfl, rfl, rfl, rfl, rfl⟩) (BS_k fX (fun _ => ⟨rfl, rfl, rfl, rfl, rfl, rfl⟩) hBS)), (GI_k fM (fun _ => ⟨rfl, rfl, rfl, rfl⟩) (GI_k fX (fun _ => ⟨rfl, rfl, rfl, rfl⟩) hGI)), (TR_k fM (fun _ => ⟨rfl, rfl⟩) (TR_k fX (fun _ => ⟨rfl, rfl⟩) hTR)), (XH_k fM (fun _ => ⟨rfl, rfl⟩) (XH_k fX (fun _ => ⟨rfl, rfl⟩) hXH)), (RM_k fM (fun _ => ⟨rfl, rfl, rfl, rfl, rfl, rfl, rfl, rfl, rfl⟩) (RM_k fX (fun _ => ⟨rfl, rfl, rfl, rfl, rfl, rfl, rfl, rfl, rfl⟩) hRM)), (MH_k fM (fun _ => ⟨rfl, rfl⟩) (MH_k fX (fun _ => ⟨rfl, rfl⟩) hMH))⟩, ⟨(XT_k fM (fun _ => ⟨rfl, rfl⟩) y_XT), y_MT, (Z9_k fM (fun _ => rfl) (Z9_k fX (fun _ => rfl) hZ9)), (KT_41_k fM (fun _ => ⟨rfl, rfl, rfl, rfl, rfl, rfl, rfl, rfl, rfl, rfl⟩) (KT_41_k fX (fun _ => ⟨rfl, rfl, rfl, rfl, rfl, rfl, rfl, rfl, rfl, rfl⟩) hK1)), (KT_49_k fM (fun _ => ⟨rfl, rfl, rfl, rfl, rfl, rfl, rfl, rfl, rfl, rfl⟩) (KT_49_k fX (fun _ => ⟨rfl, rfl, rfl, rfl, rfl, rfl, rfl, rfl, rfl, rfl⟩) hK9)), (KT_57_k fM (fun _ => ⟨rfl, rfl, rfl, rfl, rfl, rfl, rfl, rfl, rfl, rfl⟩) (KT_57_k fX (fun _ => ⟨rfl, rfl, rfl, rfl, rfl, rfl, rfl, rfl, rfl, rfl⟩) hK7)), (CP_k fM (fun _ => rfl) (CP_k fX (fun _ => rfl) hCP)), (CM_k fM (fun _ => ⟨rfl, rfl, rfl⟩) (CM_k fX (fun _ => ⟨rfl, rfl, rfl⟩) hCM)), (TD1_k fM (fun _ => ⟨rfl, rfl, rfl, rfl⟩) (TD1_k fX (fun _ => ⟨rfl, rfl, rfl, rfl⟩) hTD)), (Fl_k fM (fun _ => ⟨rfl, rfl, rfl, rfl⟩) (Fl_k fX (fun _ => ⟨rfl, rfl, rfl, rfl⟩) hFl)), (SC_k fM (fun _ => ⟨rfl, rfl⟩) (SC_k fX (fun _ => ⟨rfl, rfl⟩) hSC))⟩⟩⟩
theorem s_end {xs : Nat → Int32} {Ls : Nat} {σ : aSt} (h : IV xs Ls σ) (p0 : Int32) : ∃ r σ1 σ2, (∀ P' : Option Value → aSt → Prop, P' (some (.int r)) σ1 → aCall MT 140 6 [.ref 0, .int p0] σ P') ∧ (∀ P' : Option Value → aSt → Prop, P' (some (.int r)) σ2 → aCall MT 140 8 [.ref 66, .int p0] σ1 P') ∧ SC xs Ls σ1 ∧ IV xs Ls σ2 := by
  rcases h with ⟨T, n, len, h⟩ | ⟨a, b, M, E, H, d, T, n, len, h⟩
  · obtain ⟨hT0, hb, ⟨hXT, hMT, hZ9, hK1, hK9, hK7, hCP, hCM, hTD, hFl, hSC⟩⟩ := h
    obtain ⟨r, σ1, t1, n1, e1, _, _, n_XT, _, fX, _⟩ := end_eq (σ := σ) (τ := σ) hXT hMT p0
    obtain ⟨r', σ1', σ2, n2, e1', e2, l2, y_XT, y_MT, fX2, fM⟩ := end_eq (σ := σ) (τ := σ1) hXT (MTq_k fX (fun _ => ⟨rfl, rfl⟩) hMT) p0
    obtain ⟨q1, q2⟩ := Prod.mk.inj (e1.symm.trans e1')
    subst q1; subst q2
    have o2 : okT T n2 := fun i hi => hT0 i (by omega)
    exact ⟨r, σ1, σ2, fun P' hp => c_X_end 138 p0 σ (by rw [e1]; exact hp), fun P' hp => c_M_end 138 p0 σ1 (by rw [e2]; exact hp), (SC_k fX (fun _ => ⟨rfl, rfl⟩) hSC), Or.inl ⟨T, n2, len, o2, ⟨by rw [(fM 0 13 rfl).2.2, (fX 0 13 rfl).2.2]; exact hb.1, by rw [(fM 66 1 rfl).2.2, (fX 66 1 rfl).2.2]; exact hb.2.1, by rw [(fM 11 5 rfl).1, (fX 11 5 rfl).1]; exact hb.2.2.1, by rw [(fM 66 9 rfl).1, (fX 66 9 rfl).1]; exact hb.2.2.2⟩, ⟨(XT_k fM (fun _ => ⟨rfl, rfl⟩) y_XT), y_MT, (Z9_k fM (fun _ => rfl) (Z9_k fX (fun _ => rfl) hZ9)), (KT_41_k fM (fun _ => ⟨rfl, rfl, rfl, rfl, rfl, rfl, rfl, rfl, rfl, rfl⟩) (KT_41_k fX (fun _ => ⟨rfl, rfl, rfl, rfl, rfl, rfl, rfl, rfl, rfl, rfl⟩) hK1)), (KT_49_k fM (fun _ => ⟨rfl, rfl, rfl, rfl, rfl, rfl, rfl, rfl, rfl, rfl⟩) (KT_49_k fX (fun _ => ⟨rfl, rfl, rfl, rfl, rfl, rfl, rfl, rfl, rfl, rfl⟩) hK9)), (KT_57_k fM (fun _ => ⟨rfl, rfl, rfl, rfl, rfl, rfl, rfl, rfl, rfl, rfl⟩) (KT_57_k fX (fun _ => ⟨rfl, rfl, rfl, rfl, rfl, rfl, rfl, rfl, rfl, rfl⟩) hK7)), (CP_k fM (fun _ => rfl) (CP_k fX (fun _ => rfl) hCP)), (CM_k fM (fun _ => ⟨rfl, rfl, rfl⟩) (CM_k fX (fun _ => ⟨rfl, rfl, rfl⟩) hCM)), (TD1_k fM (fun _ => ⟨rfl, rfl, rfl, rfl⟩) (TD1_k fX (fun _ => ⟨rfl, rfl, rfl, rfl⟩) hTD)), (Fl_k fM (fun _ => ⟨rfl, rfl, rfl, rfl⟩) (Fl_k fX (fun _ => ⟨rfl, rfl, rfl, rfl⟩) hFl)), (SC_k fM (fun _ => ⟨rfl, rfl⟩) (SC_k fX (fun _ => ⟨rfl, rfl⟩) hSC))⟩⟩⟩
  · obtain ⟨⟨hc, hV, hT0⟩, ⟨hRX, hOR, hLN, hMK, hBS, hGI, hTR, hXH, hRM, hMH⟩, ⟨hXT, hMT, hZ9, hK1, hK9, hK7, hCP, hCM, hTD, hFl, hSC⟩⟩ := h
    obtain ⟨r, σ1, t1, n1, e1, _, _, n_XT, _, fX, _⟩ := end_eq (σ := σ) (τ := σ) hXT hMT p0
    obtain ⟨r', σ1', σ2, n2, e1', e2, l2, y_XT, y_MT, fX2, fM⟩ := end_eq (σ := σ) (τ := σ1) hXT (MTq_k fX (fun _ => ⟨rfl, rfl⟩) hMT) p0
    obtain ⟨q1, q2⟩ := Prod.mk.inj (e1.symm.trans e1')
    subst q1; subst q2
    have o2 : okT T n2 := fun i hi => hT0 i (by omega)
    exact ⟨r, σ1, σ2, fun P' hp => c_X_end 138 p0 σ (by rw [e1]; exact hp), fun P' hp => c_M_end 138 p0 σ1 (by rw [e2]; exact hp), (SC_k fX (fun _ => ⟨rfl, rfl⟩) hSC), Or.inr ⟨a, b, M, E, H, d, T, n2, len, ⟨hc, hV, o2⟩, ⟨(RX_k fM (fun _ => ⟨rfl, rfl, rfl, rfl, rfl, rfl⟩) (RX_k fX (fun _ => ⟨rfl, rfl, rfl, rfl, rfl, rfl⟩) hRX)), (OR_k fM (fun _ => rfl) (OR_k fX (fun _ => rfl) hOR)), (LN_k fM (fun _ => rfl) (LN_k fX (fun _ => rfl) hLN)), (MKc_k fM (fun _ => ⟨rfl, rfl, rfl, rfl, rfl, rfl⟩) (MKc_k fX (fun _ => ⟨rfl, rfl, rfl, rfl, rfl, rfl⟩) hMK)), (BS_k fM (fun _ => ⟨rfl, rfl, rfl, rfl, rfl, rfl⟩) (BS_k fX (fun _ => ⟨rfl, rfl, rfl, rfl, rfl, rfl⟩) hBS)), (GI_k fM (fun _ => ⟨rfl, rfl, rfl, rfl⟩) (GI_k fX (fun _ => ⟨rfl, rfl, rfl, rfl⟩) hGI)), (TR_k fM (fun _ => ⟨rfl, rfl⟩) (TR_k fX (fun _ => ⟨rfl, rfl⟩) hTR)), (XH_k fM (fun _ => ⟨rfl, rfl⟩) (XH_k fX (fun _ => ⟨rfl, rfl⟩) hXH)), (RM_k fM (fun _ => ⟨rfl, rfl, rfl, rfl, rfl, rfl, rfl, rfl, rfl⟩) (RM_k fX (fun _ => ⟨rfl, rfl, rfl, rfl, rfl, rfl, rfl, rfl, rfl⟩) hRM)), (MH_k fM (fun _ => ⟨rfl, rfl⟩) (MH_k fX (fun _ => ⟨rfl, rfl⟩) hMH))⟩, ⟨(XT_k fM (fun _ => ⟨rfl, rfl⟩) y_XT), y_MT, (Z9_k fM (fun _ => rfl) (Z9_k fX (fun _ => rfl) hZ9)), (KT_41_k fM (fun _ => ⟨rfl, rfl, rfl, rfl, rfl, rfl, rfl, rfl, rfl, rfl⟩) (KT_41_k fX (fun _ => ⟨rfl, rfl, rfl, rfl, rfl, rfl, rfl, rfl, rfl, rfl⟩) hK1)), (KT_49_k fM (fun _ => ⟨rfl, rfl, rfl, rfl, rfl, rfl, rfl, rfl, rfl, rfl⟩) (KT_49_k fX (fun _ => ⟨rfl, rfl, rfl, rfl, rfl, rfl, rfl, rfl, rfl, rfl⟩) hK9)), (KT_57_k fM (fun _ => ⟨rfl, rfl, rfl, rfl, rfl, rfl, rfl, rfl, rfl, rfl⟩) (KT_57_k fX (fun _ => ⟨rfl, rfl, rfl, rfl, rfl, rfl, rfl, rfl, rfl, rfl⟩) hK7)), (CP_k fM (fun _ => rfl) (CP_k fX (fun _ => rfl) hCP)), (CM_k fM (fun _ => ⟨rfl, rfl, rfl⟩) (CM_k fX (fun _ => ⟨rfl, rfl, rfl⟩) hCM)), (TD1_k fM (fun _ => ⟨rfl, rfl, rfl, rfl⟩) (TD1_k fX (fun _ => ⟨rfl, rfl, rfl, rfl⟩) hTD)), (Fl_k fM (fun _ => ⟨rfl, rfl, rfl, rfl⟩) (Fl_k fX (fun _ => ⟨rfl, rfl, rfl, rfl⟩) hFl)), (SC_k fM (fun _ => ⟨rfl, rfl⟩) (SC_k fX (fun _ => ⟨rfl, rfl⟩) hSC))⟩⟩⟩
theorem s_formula {xs : Nat → Int32} {Ls : Nat} {σ : aSt} (h : IV xs Ls σ) : ∃ r σ1 σ2, (∀ P' : Option Value → aSt → Prop, P' (some (.int r)) σ1 → aCall MT 140 131 [.ref 0] σ P') ∧ (∀ P' : Option Value → aSt → Prop, P' (some (.int r)) σ2 → aCall MT 140 135 [.ref 66] σ1 P') ∧ SC xs Ls σ1 ∧ IV xs Ls σ2 := by
  rcases h with ⟨T, n, len, h⟩ | ⟨a, b, M, E, H, d, T, n, len, h⟩
  · have hb := h.2.1
    have e1 : f_X_formula 10000 σ = some ((-2 : Int32), σ) := by simp [f_X_formula, f_X_isListed, f_X_isPoint, f_X_isByPrime, hb.1]
    have e2 : f_M_formula 10000 σ = some ((-2 : Int32), σ) := by simp [f_M_formula, f_M_isListed, f_M_isPoint, f_M_isGoodPrime, hb.2.1]
    exact ⟨(-2 : Int32), σ, σ, fun P' hp => c_X_formula 132  σ e1 hp, fun P' hp => c_M_formula 132  σ e2 hp, h.2.2.2.2.2.2.2.2.2.2.2.2, Or.inl ⟨T, n, len, h⟩⟩
  · obtain ⟨⟨hc, hV, hT0⟩, ⟨hRX, hOR, hLN, hMK, hBS, hGI, hTR, hXH, hRM, hMH⟩, ⟨hXT, hMT, hZ9, hK1, hK9, hK7, hCP, hCM, hTD, hFl, hSC⟩⟩ := h
    obtain ⟨r, σ1, t1, e1, _, _, fX, _⟩ := formula_eq (N := 10000) (CVc_CV hc) (Nat.le_refl _) hT0 (σ := σ) (τ := σ) hXT hMT hRX hRM
    obtain ⟨r', σ1', σ2, e1', e2, emp, fX2, fM⟩ := formula_eq (N := 10000) (CVc_CV hc) (Nat.le_refl _) hT0 (σ := σ) (τ := σ1) hXT (MTq_k fX (fun _ => ⟨rfl, rfl⟩) hMT) hRX (RM_k fX (fun _ => ⟨rfl, rfl, rfl, rfl, rfl, rfl, rfl, rfl, rfl⟩) hRM)
    obtain ⟨q1, q2⟩ := Prod.mk.inj (Option.some.inj (e1.symm.trans e1'))
    subst q1; subst q2
    have y_XT : XT T 0 σ2 := ⟨by rw [(fM 1 2 rfl).1]; exact emp.1, by omega, fun i hi => by omega⟩
    have y_MT : MT' T 0 σ2 := ⟨emp.2.1, fun i hi => by omega⟩
    have y_Fl : Fl σ2 := ⟨by rw [(fM 1 7 rfl).1]; exact emp.2.2.1, by rw [(fM 1 8 rfl).1]; exact emp.2.2.2⟩
    have o2 : okT T 0 := fun i hi => by omega
    exact ⟨r, σ1, σ2, fun P' hp => c_X_formula 132  σ e1 hp, fun P' hp => c_M_formula 132  σ1 e2 hp, (SC_k fX (fun _ => ⟨rfl, rfl⟩) hSC), Or.inr ⟨a, b, M, E, H, d, T, 0, len, ⟨hc, hV, o2⟩, ⟨(RX_k fM (fun _ => ⟨rfl, rfl, rfl, rfl, rfl, rfl⟩) (RX_k fX (fun _ => ⟨rfl, rfl, rfl, rfl, rfl, rfl⟩) hRX)), (OR_k fM (fun _ => rfl) (OR_k fX (fun _ => rfl) hOR)), (LN_k fM (fun _ => rfl) (LN_k fX (fun _ => rfl) hLN)), (MKc_k fM (fun _ => ⟨rfl, rfl, rfl, rfl, rfl, rfl⟩) (MKc_k fX (fun _ => ⟨rfl, rfl, rfl, rfl, rfl, rfl⟩) hMK)), (BS_k fM (fun _ => ⟨rfl, rfl, rfl, rfl, rfl, rfl⟩) (BS_k fX (fun _ => ⟨rfl, rfl, rfl, rfl, rfl, rfl⟩) hBS)), (GI_k fM (fun _ => ⟨rfl, rfl, rfl, rfl⟩) (GI_k fX (fun _ => ⟨rfl, rfl, rfl, rfl⟩) hGI)), (TR_k fM (fun _ => ⟨rfl, rfl⟩) (TR_k fX (fun _ => ⟨rfl, rfl⟩) hTR)), (XH_k fM (fun _ => ⟨rfl, rfl⟩) (XH_k fX (fun _ => ⟨rfl, rfl⟩) hXH)), (RM_k fM (fun _ => ⟨rfl, rfl, rfl, rfl, rfl, rfl, rfl, rfl, rfl⟩) (RM_k fX (fun _ => ⟨rfl, rfl, rfl, rfl, rfl, rfl, rfl, rfl, rfl⟩) hRM)), (MH_k fM (fun _ => ⟨rfl, rfl⟩) (MH_k fX (fun _ => ⟨rfl, rfl⟩) hMH))⟩, ⟨y_XT, y_MT, (Z9_k fM (fun _ => rfl) (Z9_k fX (fun _ => rfl) hZ9)), (KT_41_k fM (fun _ => ⟨rfl, rfl, rfl, rfl, rfl, rfl, rfl, rfl, rfl, rfl⟩) (KT_41_k fX (fun _ => ⟨rfl, rfl, rfl, rfl, rfl, rfl, rfl, rfl, rfl, rfl⟩) hK1)), (KT_49_k fM (fun _ => ⟨rfl, rfl, rfl, rfl, rfl, rfl, rfl, rfl, rfl, rfl⟩) (KT_49_k fX (fun _ => ⟨rfl, rfl, rfl, rfl, rfl, rfl, rfl, rfl, rfl, rfl⟩) hK9)), (KT_57_k fM (fun _ => ⟨rfl, rfl, rfl, rfl, rfl, rfl, rfl, rfl, rfl, rfl⟩) (KT_57_k fX (fun _ => ⟨rfl, rfl, rfl, rfl, rfl, rfl, rfl, rfl, rfl, rfl⟩) hK7)), (CP_k fM (fun _ => rfl) (CP_k fX (fun _ => rfl) hCP)), (CM_k fM (fun _ => ⟨rfl, rfl, rfl⟩) (CM_k fX (fun _ => ⟨rfl, rfl, rfl⟩) hCM)), (TD1_k fM (fun _ => ⟨rfl, rfl, rfl, rfl⟩) (TD1_k fX (fun _ => ⟨rfl, rfl, rfl, rfl⟩) hTD)), y_Fl, (SC_k fM (fun _ => ⟨rfl, rfl⟩) (SC_k fX (fun _ => ⟨rfl, rfl⟩) hSC))⟩⟩⟩
theorem s_curve {xs : Nat → Int32} {Ls : Nat} {σ : aSt} (h : IV xs Ls σ) : ∃ r σ1 σ2, (∀ P' : Option Value → aSt → Prop, P' (some (.int r)) σ1 → aCall MT 140 46 [.ref 0] σ P') ∧ (∀ P' : Option Value → aSt → Prop, P' (some (.int r)) σ2 → aCall MT 140 63 [.ref 66] σ1 P') ∧ SC xs Ls σ1 ∧ IV xs Ls σ2 := by
  rcases h with ⟨T, n, len, h⟩ | ⟨a, b, M, E, H, d, T, n, len, h⟩
  · obtain ⟨hT0, hb, ⟨hXT, hMT, hZ9, hK1, hK9, hK7, hCP, hCM, hTD, hFl, hSC⟩⟩ := h
    obtain ⟨r, σ1, t1, e1, _, _, hor⟩ := curve_eq (N := 10000) (Nat.le_refl _) hT0 (σ := σ) (τ := σ) hXT hMT hZ9
    have y01 : MT' T n σ1 ∧ SC xs Ls σ1 := by
      rcases hor with ⟨fX, _⟩ | ⟨_, _, _, _, _, _, _, _, _, _, fX, _⟩
      · exact ⟨(MTq_k fX (fun _ => ⟨rfl, rfl⟩) hMT), (SC_k fX (fun _ => ⟨rfl, rfl⟩) hSC)⟩
      · exact ⟨(MTq_k fX (fun _ => ⟨rfl, rfl⟩) hMT), (SC_k fX (fun _ => ⟨rfl, rfl⟩) hSC)⟩
    obtain ⟨y0, y1⟩ := y01
    obtain ⟨r', σ1', σ2, e1', e2, emp, hor2⟩ := curve_eq (N := 10000) (Nat.le_refl _) hT0 (σ := σ) (τ := σ1) hXT y0 hZ9
    obtain ⟨q1, q2⟩ := Prod.mk.inj (Option.some.inj (e1.symm.trans e1'))
    subst q1; subst q2
    refine ⟨r, σ1, σ2, fun P' hp => c_X_curve 133  σ e1 hp, fun P' hp => c_M_curve 135  σ1 e2 hp, y1, ?_⟩
    rcases hor2 with ⟨fX, fM⟩ | ⟨a', b', M', E', hc', ⟨z1, z2, z3, z4, z5, z6⟩, hg, z7, z8, z9, fX, fM⟩
    · have y_XT : XT T 0 σ2 := ⟨by rw [(fM 1 2 rfl).1]; exact emp.1, by omega, fun i hi => by omega⟩
      have y_MT : MT' T 0 σ2 := ⟨emp.2.1, fun i hi => by omega⟩
      have y_Fl : Fl σ2 := ⟨by rw [(fM 1 7 rfl).1]; exact emp.2.2.1, by rw [(fM 1 8 rfl).1]; exact emp.2.2.2⟩
      have o2 : okT T 0 := fun i hi => by omega
      exact Or.inl ⟨T, 0, len, o2, ⟨by rw [(fM 0 13 rfl).2.2, (fX 0 13 rfl).2.2]; exact hb.1, by rw [(fM 66 1 rfl).2.2, (fX 66 1 rfl).2.2]; exact hb.2.1, by rw [(fM 11 5 rfl).1, (fX 11 5 rfl).1]; exact hb.2.2.1, by rw [(fM 66 9 rfl).1, (fX 66 9 rfl).1]; exact hb.2.2.2⟩, ⟨y_XT, y_MT, (Z9_k fM (fun _ => rfl) (Z9_k fX (fun _ => rfl) hZ9)), (KT_41_k fM (fun _ => ⟨rfl, rfl, rfl, rfl, rfl, rfl, rfl, rfl, rfl, rfl⟩) (KT_41_k fX (fun _ => ⟨rfl, rfl, rfl, rfl, rfl, rfl, rfl, rfl, rfl, rfl⟩) hK1)), (KT_49_k fM (fun _ => ⟨rfl, rfl, rfl, rfl, rfl, rfl, rfl, rfl, rfl, rfl⟩) (KT_49_k fX (fun _ => ⟨rfl, rfl, rfl, rfl, rfl, rfl, rfl, rfl, rfl, rfl⟩) hK9)), (KT_57_k fM (fun _ => ⟨rfl, rfl, rfl, rfl, rfl, rfl, rfl, rfl, rfl, rfl⟩) (KT_57_k fX (fun _ => ⟨rfl, rfl, rfl, rfl, rfl, rfl, rfl, rfl, rfl, rfl⟩) hK7)), (CP_k fM (fun _ => rfl) (CP_k fX (fun _ => rfl) hCP)), (CM_k fM (fun _ => ⟨rfl, rfl, rfl⟩) (CM_k fX (fun _ => ⟨rfl, rfl, rfl⟩) hCM)), (TD1_k fM (fun _ => ⟨rfl, rfl, rfl, rfl⟩) (TD1_k fX (fun _ => ⟨rfl, rfl, rfl, rfl⟩) hTD)), y_Fl, (SC_k fM (fun _ => ⟨rfl, rfl⟩) (SC_k fX (fun _ => ⟨rfl, rfl⟩) hSC))⟩⟩
    · have y_XT : XT T 0 σ2 := ⟨by rw [(fM 1 2 rfl).1]; exact emp.1, by omega, fun i hi => by omega⟩
      have y_MT : MT' T 0 σ2 := ⟨emp.2.1, fun i hi => by omega⟩
      have y_Fl : Fl σ2 := ⟨by rw [(fM 1 7 rfl).1]; exact emp.2.2.1, by rw [(fM 1 8 rfl).1]; exact emp.2.2.2⟩
      have o2 : okT T 0 := fun i hi => by omega
      have yG : GI a' b' σ1 ∧ TR a' b' σ1 := by
        rcases hg with hg | ⟨g1, g2, g3, g4⟩
        · exact ⟨newG_GI hg, fun q => by rw [hg.2.2.2.2] at q; exact absurd q ff_tt⟩
        · rw [hb.1] at g1; exact absurd g1 ff_tt
      have yB : BS a' b' M' E' σ1 := fun q => by rw [z5] at q; exact absurd q ff_tt
      have yX : XH (fun _ => 0) 0 σ1 := ⟨z8, by omega, fun i hi => by omega⟩
      have yM : MH (fun _ => 0) 0 σ2 := ⟨z9, by omega, fun i hi => by omega⟩
      exact Or.inr ⟨a', b', M', E', fun _ => 0, 0, T, 0, len, ⟨hc', fun r hr => by omega, o2⟩, ⟨(RX_k fM (fun _ => ⟨rfl, rfl, rfl, rfl, rfl, rfl⟩) z1), (OR_k fM (fun _ => rfl) z2), (LN_k fM (fun _ => rfl) z3), (MKc_k fM (fun _ => ⟨rfl, rfl, rfl, rfl, rfl, rfl⟩) z4), (BS_k fM (fun _ => ⟨rfl, rfl, rfl, rfl, rfl, rfl⟩) yB), (GI_k fM (fun _ => ⟨rfl, rfl, rfl, rfl⟩) yG.1), (TR_k fM (fun _ => ⟨rfl, rfl⟩) yG.2), (XH_k fM (fun _ => ⟨rfl, rfl⟩) yX), z7, yM⟩, ⟨y_XT, y_MT, (Z9_k fM (fun _ => rfl) z6), (KT_41_k fM (fun _ => ⟨rfl, rfl, rfl, rfl, rfl, rfl, rfl, rfl, rfl, rfl⟩) (KT_41_k fX (fun _ => ⟨rfl, rfl, rfl, rfl, rfl, rfl, rfl, rfl, rfl, rfl⟩) hK1)), (KT_49_k fM (fun _ => ⟨rfl, rfl, rfl, rfl, rfl, rfl, rfl, rfl, rfl, rfl⟩) (KT_49_k fX (fun _ => ⟨rfl, rfl, rfl, rfl, rfl, rfl, rfl, rfl, rfl, rfl⟩) hK9)), (KT_57_k fM (fun _ => ⟨rfl, rfl, rfl, rfl, rfl, rfl, rfl, rfl, rfl, rfl⟩) (KT_57_k fX (fun _ => ⟨rfl, rfl, rfl, rfl, rfl, rfl, rfl, rfl, rfl, rfl⟩) hK7)), (CP_k fM (fun _ => rfl) (CP_k fX (fun _ => rfl) hCP)), (CM_k fM (fun _ => ⟨rfl, rfl, rfl⟩) (CM_k fX (fun _ => ⟨rfl, rfl, rfl⟩) hCM)), (TD1_k fM (fun _ => ⟨rfl, rfl, rfl, rfl⟩) (TD1_k fX (fun _ => ⟨rfl, rfl, rfl, rfl⟩) hTD)), y_Fl, (SC_k fM (fun _ => ⟨rfl, rfl⟩) (SC_k fX (fun _ => ⟨rfl, rfl⟩) hSC))⟩⟩
  · obtain ⟨⟨hc, hV, hT0⟩, ⟨hRX, hOR, hLN, hMK, hBS, hGI, hTR, hXH, hRM, hMH⟩, ⟨hXT, hMT, hZ9, hK1, hK9, hK7, hCP, hCM, hTD, hFl, hSC⟩⟩ := h
    obtain ⟨r, σ1, t1, e1, _, _, hor⟩ := curve_eq (N := 10000) (Nat.le_refl _) hT0 (σ := σ) (τ := σ) hXT hMT hZ9
    have y01 : MT' T n σ1 ∧ SC xs Ls σ1 := by
      rcases hor with ⟨fX, _⟩ | ⟨_, _, _, _, _, _, _, _, _, _, fX, _⟩
      · exact ⟨(MTq_k fX (fun _ => ⟨rfl, rfl⟩) hMT), (SC_k fX (fun _ => ⟨rfl, rfl⟩) hSC)⟩
      · exact ⟨(MTq_k fX (fun _ => ⟨rfl, rfl⟩) hMT), (SC_k fX (fun _ => ⟨rfl, rfl⟩) hSC)⟩
    obtain ⟨y0, y1⟩ := y01
    obtain ⟨r', σ1', σ2, e1', e2, emp, hor2⟩ := curve_eq (N := 10000) (Nat.le_refl _) hT0 (σ := σ) (τ := σ1) hXT y0 hZ9
    obtain ⟨q1, q2⟩ := Prod.mk.inj (Option.some.inj (e1.symm.trans e1'))
    subst q1; subst q2
    refine ⟨r, σ1, σ2, fun P' hp => c_X_curve 133  σ e1 hp, fun P' hp => c_M_curve 135  σ1 e2 hp, y1, ?_⟩
    rcases hor2 with ⟨fX, fM⟩ | ⟨a', b', M', E', hc', ⟨z1, z2, z3, z4, z5, z6⟩, hg, z7, z8, z9, fX, fM⟩
    · have y_XT : XT T 0 σ2 := ⟨by rw [(fM 1 2 rfl).1]; exact emp.1, by omega, fun i hi => by omega⟩
      have y_MT : MT' T 0 σ2 := ⟨emp.2.1, fun i hi => by omega⟩
      have y_Fl : Fl σ2 := ⟨by rw [(fM 1 7 rfl).1]; exact emp.2.2.1, by rw [(fM 1 8 rfl).1]; exact emp.2.2.2⟩
      have o2 : okT T 0 := fun i hi => by omega
      exact Or.inr ⟨a, b, M, E, H, d, T, 0, len, ⟨hc, hV, o2⟩, ⟨(RX_k fM (fun _ => ⟨rfl, rfl, rfl, rfl, rfl, rfl⟩) (RX_k fX (fun _ => ⟨rfl, rfl, rfl, rfl, rfl, rfl⟩) hRX)), (OR_k fM (fun _ => rfl) (OR_k fX (fun _ => rfl) hOR)), (LN_k fM (fun _ => rfl) (LN_k fX (fun _ => rfl) hLN)), (MKc_k fM (fun _ => ⟨rfl, rfl, rfl, rfl, rfl, rfl⟩) (MKc_k fX (fun _ => ⟨rfl, rfl, rfl, rfl, rfl, rfl⟩) hMK)), (BS_k fM (fun _ => ⟨rfl, rfl, rfl, rfl, rfl, rfl⟩) (BS_k fX (fun _ => ⟨rfl, rfl, rfl, rfl, rfl, rfl⟩) hBS)), (GI_k fM (fun _ => ⟨rfl, rfl, rfl, rfl⟩) (GI_k fX (fun _ => ⟨rfl, rfl, rfl, rfl⟩) hGI)), (TR_k fM (fun _ => ⟨rfl, rfl⟩) (TR_k fX (fun _ => ⟨rfl, rfl⟩) hTR)), (XH_k fM (fun _ => ⟨rfl, rfl⟩) (XH_k fX (fun _ => ⟨rfl, rfl⟩) hXH)), (RM_k fM (fun _ => ⟨rfl, rfl, rfl, rfl, rfl, rfl, rfl, rfl, rfl⟩) (RM_k fX (fun _ => ⟨rfl, rfl, rfl, rfl, rfl, rfl, rfl, rfl, rfl⟩) hRM)), (MH_k fM (fun _ => ⟨rfl, rfl⟩) (MH_k fX (fun _ => ⟨rfl, rfl⟩) hMH))⟩, ⟨y_XT, y_MT, (Z9_k fM (fun _ => rfl) (Z9_k fX (fun _ => rfl) hZ9)), (KT_41_k fM (fun _ => ⟨rfl, rfl, rfl, rfl, rfl, rfl, rfl, rfl, rfl, rfl⟩) (KT_41_k fX (fun _ => ⟨rfl, rfl, rfl, rfl, rfl, rfl, rfl, rfl, rfl, rfl⟩) hK1)), (KT_49_k fM (fun _ => ⟨rfl, rfl, rfl, rfl, rfl, rfl, rfl, rfl, rfl, rfl⟩) (KT_49_k fX (fun _ => ⟨rfl, rfl, rfl, rfl, rfl, rfl, rfl, rfl, rfl, rfl⟩) hK9)), (KT_57_k fM (fun _ => ⟨rfl, rfl, rfl, rfl, rfl, rfl, rfl, rfl, rfl, rfl⟩) (KT_57_k fX (fun _ => ⟨rfl, rfl, rfl, rfl, rfl, rfl, rfl, rfl, rfl, rfl⟩) hK7)), (CP_k fM (fun _ => rfl) (CP_k fX (fun _ => rfl) hCP)), (CM_k fM (fun _ => ⟨rfl, rfl, rfl⟩) (CM_k fX (fun _ => ⟨rfl, rfl, rfl⟩) hCM)), (TD1_k fM (fun _ => ⟨rfl, rfl, rfl, rfl⟩) (TD1_k fX (fun _ => ⟨rfl, rfl, rfl, rfl⟩) hTD)), y_Fl, (SC_k fM (fun _ => ⟨rfl, rfl⟩) (SC_k fX (fun _ => ⟨rfl, rfl⟩) hSC))⟩⟩
    · have y_XT : XT T 0 σ2 := ⟨by rw [(fM 1 2 rfl).1]; exact emp.1, by omega, fun i hi => by omega⟩
      have y_MT : MT' T 0 σ2 := ⟨emp.2.1, fun i hi => by omega⟩
      have y_Fl : Fl σ2 := ⟨by rw [(fM 1 7 rfl).1]; exact emp.2.2.1, by rw [(fM 1 8 rfl).1]; exact emp.2.2.2⟩
      have o2 : okT T 0 := fun i hi => by omega
      have yG : GI a' b' σ1 ∧ TR a' b' σ1 := by
        rcases hg with hg | ⟨g1, g2, g3, g4⟩
        · exact ⟨newG_GI hg, fun q => by rw [hg.2.2.2.2] at q; exact absurd q ff_tt⟩
        · have u1 := hc.1.1; have u2 := hc.1.2; have u3 := hc.2.1.1; have u4 := hc.2.1.2
          have v1 := hc'.1.1; have v2 := hc'.1.2; have v3 := hc'.2.1.1; have v4 := hc'.2.1.2
          rw [hRX.2.2.1, iZ_eq ⟨by omega, by omega⟩ ⟨by omega, by omega⟩] at g2
          rw [hRX.2.2.2.1, iZ_eq ⟨by omega, by omega⟩ ⟨by omega, by omega⟩] at g3
          subst g2; subst g3
          exact ⟨(GI_k g4 (fun _ => ⟨rfl, rfl, rfl, rfl⟩) hGI), (TR_k g4 (fun _ => ⟨rfl, rfl⟩) hTR)⟩
      have yB : BS a' b' M' E' σ1 := fun q => by rw [z5] at q; exact absurd q ff_tt
      have yX : XH (fun _ => 0) 0 σ1 := ⟨z8, by omega, fun i hi => by omega⟩
      have yM : MH (fun _ => 0) 0 σ2 := ⟨z9, by omega, fun i hi => by omega⟩
      exact Or.inr ⟨a', b', M', E', fun _ => 0, 0, T, 0, len, ⟨hc', fun r hr => by omega, o2⟩, ⟨(RX_k fM (fun _ => ⟨rfl, rfl, rfl, rfl, rfl, rfl⟩) z1), (OR_k fM (fun _ => rfl) z2), (LN_k fM (fun _ => rfl) z3), (MKc_k fM (fun _ => ⟨rfl, rfl, rfl, rfl, rfl, rfl⟩) z4), (BS_k fM (fun _ => ⟨rfl, rfl, rfl, rfl, rfl, rfl⟩) yB), (GI_k fM (fun _ => ⟨rfl, rfl, rfl, rfl⟩) yG.1), (TR_k fM (fun _ => ⟨rfl, rfl⟩) yG.2), (XH_k fM (fun _ => ⟨rfl, rfl⟩) yX), z7, yM⟩, ⟨y_XT, y_MT, (Z9_k fM (fun _ => rfl) z6), (KT_41_k fM (fun _ => ⟨rfl, rfl, rfl, rfl, rfl, rfl, rfl, rfl, rfl, rfl⟩) (KT_41_k fX (fun _ => ⟨rfl, rfl, rfl, rfl, rfl, rfl, rfl, rfl, rfl, rfl⟩) hK1)), (KT_49_k fM (fun _ => ⟨rfl, rfl, rfl, rfl, rfl, rfl, rfl, rfl, rfl, rfl⟩) (KT_49_k fX (fun _ => ⟨rfl, rfl, rfl, rfl, rfl, rfl, rfl, rfl, rfl, rfl⟩) hK9)), (KT_57_k fM (fun _ => ⟨rfl, rfl, rfl, rfl, rfl, rfl, rfl, rfl, rfl, rfl⟩) (KT_57_k fX (fun _ => ⟨rfl, rfl, rfl, rfl, rfl, rfl, rfl, rfl, rfl, rfl⟩) hK7)), (CP_k fM (fun _ => rfl) (CP_k fX (fun _ => rfl) hCP)), (CM_k fM (fun _ => ⟨rfl, rfl, rfl⟩) (CM_k fX (fun _ => ⟨rfl, rfl, rfl⟩) hCM)), (TD1_k fM (fun _ => ⟨rfl, rfl, rfl, rfl⟩) (TD1_k fX (fun _ => ⟨rfl, rfl, rfl, rfl⟩) hTD)), y_Fl, (SC_k fM (fun _ => ⟨rfl, rfl⟩) (SC_k fX (fun _ => ⟨rfl, rfl⟩) hSC))⟩⟩
theorem s_within {xs : Nat → Int32} {Ls : Nat} {σ : aSt} (h : IV xs Ls σ) (p0 p1 : Int32) : ∃ r σ1 σ2, (∀ P' : Option Value → aSt → Prop, P' (some (.int r)) σ1 → aCall MT 140 254 [.ref 0, .int p0, .int p1] σ P') ∧ (∀ P' : Option Value → aSt → Prop, P' (some (.int r)) σ2 → aCall MT 140 255 [.ref 66, .int p0, .int p1] σ1 P') ∧ SC xs Ls σ1 ∧ IV xs Ls σ2 := by
  rcases h with ⟨T, n, len, h⟩ | ⟨a, b, M, E, H, d, T, n, len, h⟩
  · have hb := h.2.1
    have e1 : f_X_within 10000 p0 p1 σ = some ((-2 : Int32), σ) := by simp [f_X_within, f_X_isListed, f_X_isPoint, f_X_isByPrime, hb.1]
    have e2 : f_M_within 10000 p0 p1 σ = some ((-2 : Int32), σ) := by simp [f_M_within, f_M_isListed, f_M_isPoint, f_M_isGoodPrime, hb.2.1]
    exact ⟨(-2 : Int32), σ, σ, fun P' hp => c_X_within 132 p0 p1 σ e1 hp, fun P' hp => c_M_within 135 p0 p1 σ e2 hp, h.2.2.2.2.2.2.2.2.2.2.2.2, Or.inl ⟨T, n, len, h⟩⟩
  · have hR := h
    obtain ⟨⟨hc, hV, hT0⟩, ⟨hRX, hOR, hLN, hMK, hBS, hGI, hTR, hXH, hRM, hMH⟩, ⟨hXT, hMT, hZ9, hK1, hK9, hK7, hCP, hCM, hTD, hFl, hSC⟩⟩ := h
    obtain ⟨r, σ1, t1, e1, _, hor⟩ := within_eq (N := 10000) hc (Nat.le_refl _) (σ := σ) (τ := σ) hRX hZ9 hRM hXH hMH hV p0 p1
    have y01 : (RM a b M E σ1 ∧ MH H d σ1) ∧ SC xs Ls σ1 := by
      rcases hor with ⟨q, _⟩ | ⟨_, _, _, _, _, _, _, _, _, _, _, _, _, fX, _⟩
      · subst q; exact ⟨⟨hRM, hMH⟩, hSC⟩
      · exact ⟨⟨(RM_k fX (fun _ => ⟨rfl, rfl, rfl, rfl, rfl, rfl, rfl, rfl, rfl⟩) hRM), (MH_k fX (fun _ => ⟨rfl, rfl⟩) hMH)⟩, (SC_k fX (fun _ => ⟨rfl, rfl⟩) hSC)⟩
    obtain ⟨y0, y1⟩ := y01
    obtain ⟨r', σ1', σ2, e1', e2, hor2⟩ := within_eq (N := 10000) hc (Nat.le_refl _) (σ := σ) (τ := σ1) hRX hZ9 y0.1 hXH y0.2 hV p0 p1
    obtain ⟨q1, q2⟩ := Prod.mk.inj (Option.some.inj (e1.symm.trans e1'))
    subst q1; subst q2
    refine ⟨r, σ1, σ2, fun P' hp => c_X_within 132 p0 p1 σ e1 hp, fun P' hp => c_M_within 135 p0 p1 σ1 e2 hp, y1, ?_⟩
    rcases hor2 with ⟨q1, q2⟩ | ⟨a', b', M', E', H', d', hc', ⟨z1, z2, z3, z4, z5, z6⟩, hg, z7, z8, z9, hV', fX, fM⟩
    · subst q2; subst q1
      exact Or.inr ⟨a, b, M, E, H, d, T, n, len, hR⟩
    · have yG : GI a' b' σ1 ∧ TR a' b' σ1 := by
        rcases hg with hg | ⟨g1, g2, g4⟩
        · exact ⟨newG_GI hg, fun q => by rw [hg.2.2.2.2] at q; exact absurd q ff_tt⟩
        · subst g1; subst g2
          exact ⟨(GI_k g4 (fun _ => ⟨rfl, rfl, rfl, rfl⟩) hGI), (TR_k g4 (fun _ => ⟨rfl, rfl⟩) hTR)⟩
      have yB : BS a' b' M' E' σ1 := fun q => by rw [z5] at q; exact absurd q ff_tt
      exact Or.inr ⟨a', b', M', E', H', d', T, n, len, ⟨hc', hV', hT0⟩, ⟨(RX_k fM (fun _ => ⟨rfl, rfl, rfl, rfl, rfl, rfl⟩) z1), (OR_k fM (fun _ => rfl) z2), (LN_k fM (fun _ => rfl) z3), (MKc_k fM (fun _ => ⟨rfl, rfl, rfl, rfl, rfl, rfl⟩) z4), (BS_k fM (fun _ => ⟨rfl, rfl, rfl, rfl, rfl, rfl⟩) yB), (GI_k fM (fun _ => ⟨rfl, rfl, rfl, rfl⟩) yG.1), (TR_k fM (fun _ => ⟨rfl, rfl⟩) yG.2), (XH_k fM (fun _ => ⟨rfl, rfl⟩) z8), z7, z9⟩, ⟨(XT_k fM (fun _ => ⟨rfl, rfl⟩) (XT_k fX (fun _ => ⟨rfl, rfl⟩) hXT)), (MTq_k fM (fun _ => ⟨rfl, rfl⟩) (MTq_k fX (fun _ => ⟨rfl, rfl⟩) hMT)), (Z9_k fM (fun _ => rfl) z6), (KT_41_k fM (fun _ => ⟨rfl, rfl, rfl, rfl, rfl, rfl, rfl, rfl, rfl, rfl⟩) (KT_41_k fX (fun _ => ⟨rfl, rfl, rfl, rfl, rfl, rfl, rfl, rfl, rfl, rfl⟩) hK1)), (KT_49_k fM (fun _ => ⟨rfl, rfl, rfl, rfl, rfl, rfl, rfl, rfl, rfl, rfl⟩) (KT_49_k fX (fun _ => ⟨rfl, rfl, rfl, rfl, rfl, rfl, rfl, rfl, rfl, rfl⟩) hK9)), (KT_57_k fM (fun _ => ⟨rfl, rfl, rfl, rfl, rfl, rfl, rfl, rfl, rfl, rfl⟩) (KT_57_k fX (fun _ => ⟨rfl, rfl, rfl, rfl, rfl, rfl, rfl, rfl, rfl, rfl⟩) hK7)), (CP_k fM (fun _ => rfl) (CP_k fX (fun _ => rfl) hCP)), (CM_k fM (fun _ => ⟨rfl, rfl, rfl⟩) (CM_k fX (fun _ => ⟨rfl, rfl, rfl⟩) hCM)), (TD1_k fM (fun _ => ⟨rfl, rfl, rfl, rfl⟩) (TD1_k fX (fun _ => ⟨rfl, rfl, rfl, rfl⟩) hTD)), (Fl_k fM (fun _ => ⟨rfl, rfl, rfl, rfl⟩) (Fl_k fX (fun _ => ⟨rfl, rfl, rfl, rfl⟩) hFl)), (SC_k fM (fun _ => ⟨rfl, rfl⟩) (SC_k fX (fun _ => ⟨rfl, rfl⟩) hSC))⟩⟩
theorem s_goesBeside {xs : Nat → Int32} {Ls : Nat} {σ : aSt} (h : IV xs Ls σ) : ∃ r σ1 σ2, (∀ P' : Option Value → aSt → Prop, P' (some (.int r)) σ1 → aCall MT 140 248 [.ref 0] σ P') ∧ (∀ P' : Option Value → aSt → Prop, P' (some (.int r)) σ2 → aCall MT 140 251 [.ref 66] σ1 P') ∧ SC xs Ls σ1 ∧ IV xs Ls σ2 := by
  rcases h with ⟨T, n, len, h⟩ | ⟨a, b, M, E, H, d, T, n, len, h⟩
  · have hb := h.2.1
    have e1 : f_X_goesBeside 10000 σ = some ((-2 : Int32), σ) := by simp [f_X_goesBeside, f_X_isListed, f_X_isPoint, f_X_isByPrime, hb.1]
    have e2 : f_M_goesBeside 10000 σ = some ((-2 : Int32), σ) := by simp [f_M_goesBeside, f_M_isListed, f_M_isPoint, f_M_isGoodPrime, hb.2.1]
    exact ⟨(-2 : Int32), σ, σ, fun P' hp => c_X_goesBeside 132  σ e1 hp, fun P' hp => c_M_goesBeside 134  σ e2 hp, h.2.2.2.2.2.2.2.2.2.2.2.2, Or.inl ⟨T, n, len, h⟩⟩
  · have hR := h
    obtain ⟨⟨hc, hV, hT0⟩, ⟨hRX, hOR, hLN, hMK, hBS, hGI, hTR, hXH, hRM, hMH⟩, ⟨hXT, hMT, hZ9, hK1, hK9, hK7, hCP, hCM, hTD, hFl, hSC⟩⟩ := h
    obtain ⟨r, σ1, t1, e1, _, hor⟩ := goesBeside_eq (N := 10000) hc (Nat.le_refl _) (σ := σ) (τ := σ) hRX hZ9 hRM hXH hMH hV
    have y01 : (RM a b M E σ1 ∧ MH H d σ1) ∧ SC xs Ls σ1 := by
      rcases hor with ⟨q, _⟩ | ⟨_, _, _, _, _, _, _, _, _, _, _, _, _, fX, _⟩
      · subst q; exact ⟨⟨hRM, hMH⟩, hSC⟩
      · exact ⟨⟨(RM_k fX (fun _ => ⟨rfl, rfl, rfl, rfl, rfl, rfl, rfl, rfl, rfl⟩) hRM), (MH_k fX (fun _ => ⟨rfl, rfl⟩) hMH)⟩, (SC_k fX (fun _ => ⟨rfl, rfl⟩) hSC)⟩
    obtain ⟨y0, y1⟩ := y01
    obtain ⟨r', σ1', σ2, e1', e2, hor2⟩ := goesBeside_eq (N := 10000) hc (Nat.le_refl _) (σ := σ) (τ := σ1) hRX hZ9 y0.1 hXH y0.2 hV
    obtain ⟨q1, q2⟩ := Prod.mk.inj (Option.some.inj (e1.symm.trans e1'))
    subst q1; subst q2
    refine ⟨r, σ1, σ2, fun P' hp => c_X_goesBeside 132  σ e1 hp, fun P' hp => c_M_goesBeside 134  σ1 e2 hp, y1, ?_⟩
    rcases hor2 with ⟨q1, q2⟩ | ⟨a', b', M', E', H', d', hc', ⟨z1, z2, z3, z4, z5, z6⟩, hg, z7, z8, z9, hV', fX, fM⟩
    · subst q2; subst q1
      exact Or.inr ⟨a, b, M, E, H, d, T, n, len, hR⟩
    · have yG : GI a' b' σ1 ∧ TR a' b' σ1 := by
        rcases hg with hg | ⟨g1, g2, g4⟩
        · exact ⟨newG_GI hg, fun q => by rw [hg.2.2.2.2] at q; exact absurd q ff_tt⟩
        · subst g1; subst g2
          exact ⟨(GI_k g4 (fun _ => ⟨rfl, rfl, rfl, rfl⟩) hGI), (TR_k g4 (fun _ => ⟨rfl, rfl⟩) hTR)⟩
      have yB : BS a' b' M' E' σ1 := fun q => by rw [z5] at q; exact absurd q ff_tt
      exact Or.inr ⟨a', b', M', E', H', d', T, n, len, ⟨hc', hV', hT0⟩, ⟨(RX_k fM (fun _ => ⟨rfl, rfl, rfl, rfl, rfl, rfl⟩) z1), (OR_k fM (fun _ => rfl) z2), (LN_k fM (fun _ => rfl) z3), (MKc_k fM (fun _ => ⟨rfl, rfl, rfl, rfl, rfl, rfl⟩) z4), (BS_k fM (fun _ => ⟨rfl, rfl, rfl, rfl, rfl, rfl⟩) yB), (GI_k fM (fun _ => ⟨rfl, rfl, rfl, rfl⟩) yG.1), (TR_k fM (fun _ => ⟨rfl, rfl⟩) yG.2), (XH_k fM (fun _ => ⟨rfl, rfl⟩) z8), z7, z9⟩, ⟨(XT_k fM (fun _ => ⟨rfl, rfl⟩) (XT_k fX (fun _ => ⟨rfl, rfl⟩) hXT)), (MTq_k fM (fun _ => ⟨rfl, rfl⟩) (MTq_k fX (fun _ => ⟨rfl, rfl⟩) hMT)), (Z9_k fM (fun _ => rfl) z6), (KT_41_k fM (fun _ => ⟨rfl, rfl, rfl, rfl, rfl, rfl, rfl, rfl, rfl, rfl⟩) (KT_41_k fX (fun _ => ⟨rfl, rfl, rfl, rfl, rfl, rfl, rfl, rfl, rfl, rfl⟩) hK1)), (KT_49_k fM (fun _ => ⟨rfl, rfl, rfl, rfl, rfl, rfl, rfl, rfl, rfl, rfl⟩) (KT_49_k fX (fun _ => ⟨rfl, rfl, rfl, rfl, rfl, rfl, rfl, rfl, rfl, rfl⟩) hK9)), (KT_57_k fM (fun _ => ⟨rfl, rfl, rfl, rfl, rfl, rfl, rfl, rfl, rfl, rfl⟩) (KT_57_k fX (fun _ => ⟨rfl, rfl, rfl, rfl, rfl, rfl, rfl, rfl, rfl, rfl⟩) hK7)), (CP_k fM (fun _ => rfl) (CP_k fX (fun _ => rfl) hCP)), (CM_k fM (fun _ => ⟨rfl, rfl, rfl⟩) (CM_k fX (fun _ => ⟨rfl, rfl, rfl⟩) hCM)), (TD1_k fM (fun _ => ⟨rfl, rfl, rfl, rfl⟩) (TD1_k fX (fun _ => ⟨rfl, rfl, rfl, rfl⟩) hTD)), (Fl_k fM (fun _ => ⟨rfl, rfl, rfl, rfl⟩) (Fl_k fX (fun _ => ⟨rfl, rfl, rfl, rfl⟩) hFl)), (SC_k fM (fun _ => ⟨rfl, rfl⟩) (SC_k fX (fun _ => ⟨rfl, rfl⟩) hSC))⟩⟩
theorem s_twists {xs : Nat → Int32} {Ls : Nat} {σ : aSt} (h : IV xs Ls σ) (p0 : Int32) : ∃ r σ1 σ2, (∀ P' : Option Value → aSt → Prop, P' (some (.int r)) σ1 → aCall MT 140 252 [.ref 0, .int p0] σ P') ∧ (∀ P' : Option Value → aSt → Prop, P' (some (.int r)) σ2 → aCall MT 140 253 [.ref 66, .int p0] σ1 P') ∧ SC xs Ls σ1 ∧ IV xs Ls σ2 := by
  rcases h with ⟨T, n, len, h⟩ | ⟨a, b, M, E, H, d, T, n, len, h⟩
  · have hb := h.2.1
    have e1 : f_X_twists 10000 p0 σ = some ((-2 : Int32), σ) := by simp [f_X_twists, f_X_isListed, f_X_isPoint, f_X_isByPrime, hb.1]
    have e2 : f_M_twists 10000 p0 σ = some ((-2 : Int32), σ) := by simp [f_M_twists, f_M_isListed, f_M_isPoint, f_M_isGoodPrime, hb.2.1]
    exact ⟨(-2 : Int32), σ, σ, fun P' hp => c_X_twists 132 p0 σ e1 hp, fun P' hp => c_M_twists 134 p0 σ e2 hp, h.2.2.2.2.2.2.2.2.2.2.2.2, Or.inl ⟨T, n, len, h⟩⟩
  · have hR := h
    obtain ⟨⟨hc, hV, hT0⟩, ⟨hRX, hOR, hLN, hMK, hBS, hGI, hTR, hXH, hRM, hMH⟩, ⟨hXT, hMT, hZ9, hK1, hK9, hK7, hCP, hCM, hTD, hFl, hSC⟩⟩ := h
    obtain ⟨r, σ1, t1, e1, _, hor⟩ := twists_eq (N := 10000) hc (Nat.le_refl _) (σ := σ) (τ := σ) hRX hZ9 hRM hXH hMH hV p0
    have y01 : (RM a b M E σ1 ∧ MH H d σ1) ∧ SC xs Ls σ1 := by
      rcases hor with ⟨q, _⟩ | ⟨_, _, _, _, _, _, _, _, _, _, _, _, _, fX, _⟩
      · subst q; exact ⟨⟨hRM, hMH⟩, hSC⟩
      · exact ⟨⟨(RM_k fX (fun _ => ⟨rfl, rfl, rfl, rfl, rfl, rfl, rfl, rfl, rfl⟩) hRM), (MH_k fX (fun _ => ⟨rfl, rfl⟩) hMH)⟩, (SC_k fX (fun _ => ⟨rfl, rfl⟩) hSC)⟩
    obtain ⟨y0, y1⟩ := y01
    obtain ⟨r', σ1', σ2, e1', e2, hor2⟩ := twists_eq (N := 10000) hc (Nat.le_refl _) (σ := σ) (τ := σ1) hRX hZ9 y0.1 hXH y0.2 hV p0
    obtain ⟨q1, q2⟩ := Prod.mk.inj (Option.some.inj (e1.symm.trans e1'))
    subst q1; subst q2
    refine ⟨r, σ1, σ2, fun P' hp => c_X_twists 132 p0 σ e1 hp, fun P' hp => c_M_twists 134 p0 σ1 e2 hp, y1, ?_⟩
    rcases hor2 with ⟨q1, q2⟩ | ⟨a', b', M', E', H', d', hc', ⟨z1, z2, z3, z4, z5, z6⟩, hg, z7, z8, z9, hV', fX, fM⟩
    · subst q2; subst q1
      exact Or.inr ⟨a, b, M, E, H, d, T, n, len, hR⟩
    · have yG : GI a' b' σ1 ∧ TR a' b' σ1 := by
        rcases hg with hg | ⟨g1, g2, g4⟩
        · exact ⟨newG_GI hg, fun q => by rw [hg.2.2.2.2] at q; exact absurd q ff_tt⟩
        · subst g1; subst g2
          exact ⟨(GI_k g4 (fun _ => ⟨rfl, rfl, rfl, rfl⟩) hGI), (TR_k g4 (fun _ => ⟨rfl, rfl⟩) hTR)⟩
      have yB : BS a' b' M' E' σ1 := fun q => by rw [z5] at q; exact absurd q ff_tt
      exact Or.inr ⟨a', b', M', E', H', d', T, n, len, ⟨hc', hV', hT0⟩, ⟨(RX_k fM (fun _ => ⟨rfl, rfl, rfl, rfl, rfl, rfl⟩) z1), (OR_k fM (fun _ => rfl) z2), (LN_k fM (fun _ => rfl) z3), (MKc_k fM (fun _ => ⟨rfl, rfl, rfl, rfl, rfl, rfl⟩) z4), (BS_k fM (fun _ => ⟨rfl, rfl, rfl, rfl, rfl, rfl⟩) yB), (GI_k fM (fun _ => ⟨rfl, rfl, rfl, rfl⟩) yG.1), (TR_k fM (fun _ => ⟨rfl, rfl⟩) yG.2), (XH_k fM (fun _ => ⟨rfl, rfl⟩) z8), z7, z9⟩, ⟨(XT_k fM (fun _ => ⟨rfl, rfl⟩) (XT_k fX (fun _ => ⟨rfl, rfl⟩) hXT)), (MTq_k fM (fun _ => ⟨rfl, rfl⟩) (MTq_k fX (fun _ => ⟨rfl, rfl⟩) hMT)), (Z9_k fM (fun _ => rfl) z6), (KT_41_k fM (fun _ => ⟨rfl, rfl, rfl, rfl, rfl, rfl, rfl, rfl, rfl, rfl⟩) (KT_41_k fX (fun _ => ⟨rfl, rfl, rfl, rfl, rfl, rfl, rfl, rfl, rfl, rfl⟩) hK1)), (KT_49_k fM (fun _ => ⟨rfl, rfl, rfl, rfl, rfl, rfl, rfl, rfl, rfl, rfl⟩) (KT_49_k fX (fun _ => ⟨rfl, rfl, rfl, rfl, rfl, rfl, rfl, rfl, rfl, rfl⟩) hK9)), (KT_57_k fM (fun _ => ⟨rfl, rfl, rfl, rfl, rfl, rfl, rfl, rfl, rfl, rfl⟩) (KT_57_k fX (fun _ => ⟨rfl, rfl, rfl, rfl, rfl, rfl, rfl, rfl, rfl, rfl⟩) hK7)), (CP_k fM (fun _ => rfl) (CP_k fX (fun _ => rfl) hCP)), (CM_k fM (fun _ => ⟨rfl, rfl, rfl⟩) (CM_k fX (fun _ => ⟨rfl, rfl, rfl⟩) hCM)), (TD1_k fM (fun _ => ⟨rfl, rfl, rfl, rfl⟩) (TD1_k fX (fun _ => ⟨rfl, rfl, rfl, rfl⟩) hTD)), (Fl_k fM (fun _ => ⟨rfl, rfl, rfl, rfl⟩) (Fl_k fX (fun _ => ⟨rfl, rfl, rfl, rfl⟩) hFl)), (SC_k fM (fun _ => ⟨rfl, rfl⟩) (SC_k fX (fun _ => ⟨rfl, rfl⟩) hSC))⟩⟩
theorem s_undo {xs : Nat → Int32} {Ls : Nat} {σ : aSt} (h : IV xs Ls σ) : ∃ r σ1 σ2, (∀ P' : Option Value → aSt → Prop, P' (some (.int r)) σ1 → aCall MT 140 306 [.ref 0] σ P') ∧ (∀ P' : Option Value → aSt → Prop, P' (some (.int r)) σ2 → aCall MT 140 307 [.ref 66] σ1 P') ∧ SC xs Ls σ1 ∧ IV xs Ls σ2 := by
  rcases h with ⟨T, n, len, h⟩ | ⟨a, b, M, E, H, d, T, n, len, h⟩
  · have hb := h.2.1
    have e1 : f_X_undo 10000 σ = some ((-2 : Int32), σ) := by simp [f_X_undo, f_X_isListed, f_X_isPoint, f_X_isByPrime, hb.1]
    have e2 : f_M_undo 10000 σ = some ((-2 : Int32), σ) := by simp [f_M_undo, f_M_isListed, f_M_isPoint, f_M_isGoodPrime, hb.2.1]
    exact ⟨(-2 : Int32), σ, σ, fun P' hp => c_X_undo 133  σ e1 hp, fun P' hp => c_M_undo 135  σ e2 hp, h.2.2.2.2.2.2.2.2.2.2.2.2, Or.inl ⟨T, n, len, h⟩⟩
  · have hR := h
    obtain ⟨⟨hc, hV, hT0⟩, ⟨hRX, hOR, hLN, hMK, hBS, hGI, hTR, hXH, hRM, hMH⟩, ⟨hXT, hMT, hZ9, hK1, hK9, hK7, hCP, hCM, hTD, hFl, hSC⟩⟩ := h
    obtain ⟨r, σ1, t1, e1, _, hor⟩ := undo_eq (N := 10000) hc (Nat.le_refl _) (σ := σ) (τ := σ) hRX hZ9 hRM hXH hMH hV
    have y01 : (RM a b M E σ1 ∧ MH H d σ1) ∧ SC xs Ls σ1 := by
      rcases hor with ⟨q, _⟩ | ⟨_, _, _, _, _, _, _, _, _, _, _, _, _, fX, _⟩
      · subst q; exact ⟨⟨hRM, hMH⟩, hSC⟩
      · exact ⟨⟨(RM_k fX (fun _ => ⟨rfl, rfl, rfl, rfl, rfl, rfl, rfl, rfl, rfl⟩) hRM), (MH_k fX (fun _ => ⟨rfl, rfl⟩) hMH)⟩, (SC_k fX (fun _ => ⟨rfl, rfl⟩) hSC)⟩
    obtain ⟨y0, y1⟩ := y01
    obtain ⟨r', σ1', σ2, e1', e2, hor2⟩ := undo_eq (N := 10000) hc (Nat.le_refl _) (σ := σ) (τ := σ1) hRX hZ9 y0.1 hXH y0.2 hV
    obtain ⟨q1, q2⟩ := Prod.mk.inj (Option.some.inj (e1.symm.trans e1'))
    subst q1; subst q2
    refine ⟨r, σ1, σ2, fun P' hp => c_X_undo 133  σ e1 hp, fun P' hp => c_M_undo 135  σ1 e2 hp, y1, ?_⟩
    rcases hor2 with ⟨q1, q2⟩ | ⟨a', b', M', E', H', d', hc', ⟨z1, z2, z3, z4, z5, z6⟩, hg, z7, z8, z9, hV', fX, fM⟩
    · subst q2; subst q1
      exact Or.inr ⟨a, b, M, E, H, d, T, n, len, hR⟩
    · have yG : GI a' b' σ1 ∧ TR a' b' σ1 := by
        rcases hg with hg | ⟨g1, g2, g4⟩
        · exact ⟨newG_GI hg, fun q => by rw [hg.2.2.2.2] at q; exact absurd q ff_tt⟩
        · subst g1; subst g2
          exact ⟨(GI_k g4 (fun _ => ⟨rfl, rfl, rfl, rfl⟩) hGI), (TR_k g4 (fun _ => ⟨rfl, rfl⟩) hTR)⟩
      have yB : BS a' b' M' E' σ1 := fun q => by rw [z5] at q; exact absurd q ff_tt
      exact Or.inr ⟨a', b', M', E', H', d', T, n, len, ⟨hc', hV', hT0⟩, ⟨(RX_k fM (fun _ => ⟨rfl, rfl, rfl, rfl, rfl, rfl⟩) z1), (OR_k fM (fun _ => rfl) z2), (LN_k fM (fun _ => rfl) z3), (MKc_k fM (fun _ => ⟨rfl, rfl, rfl, rfl, rfl, rfl⟩) z4), (BS_k fM (fun _ => ⟨rfl, rfl, rfl, rfl, rfl, rfl⟩) yB), (GI_k fM (fun _ => ⟨rfl, rfl, rfl, rfl⟩) yG.1), (TR_k fM (fun _ => ⟨rfl, rfl⟩) yG.2), (XH_k fM (fun _ => ⟨rfl, rfl⟩) z8), z7, z9⟩, ⟨(XT_k fM (fun _ => ⟨rfl, rfl⟩) (XT_k fX (fun _ => ⟨rfl, rfl⟩) hXT)), (MTq_k fM (fun _ => ⟨rfl, rfl⟩) (MTq_k fX (fun _ => ⟨rfl, rfl⟩) hMT)), (Z9_k fM (fun _ => rfl) z6), (KT_41_k fM (fun _ => ⟨rfl, rfl, rfl, rfl, rfl, rfl, rfl, rfl, rfl, rfl⟩) (KT_41_k fX (fun _ => ⟨rfl, rfl, rfl, rfl, rfl, rfl, rfl, rfl, rfl, rfl⟩) hK1)), (KT_49_k fM (fun _ => ⟨rfl, rfl, rfl, rfl, rfl, rfl, rfl, rfl, rfl, rfl⟩) (KT_49_k fX (fun _ => ⟨rfl, rfl, rfl, rfl, rfl, rfl, rfl, rfl, rfl, rfl⟩) hK9)), (KT_57_k fM (fun _ => ⟨rfl, rfl, rfl, rfl, rfl, rfl, rfl, rfl, rfl, rfl⟩) (KT_57_k fX (fun _ => ⟨rfl, rfl, rfl, rfl, rfl, rfl, rfl, rfl, rfl, rfl⟩) hK7)), (CP_k fM (fun _ => rfl) (CP_k fX (fun _ => rfl) hCP)), (CM_k fM (fun _ => ⟨rfl, rfl, rfl⟩) (CM_k fX (fun _ => ⟨rfl, rfl, rfl⟩) hCM)), (TD1_k fM (fun _ => ⟨rfl, rfl, rfl, rfl⟩) (TD1_k fX (fun _ => ⟨rfl, rfl, rfl, rfl⟩) hTD)), (Fl_k fM (fun _ => ⟨rfl, rfl, rfl, rfl⟩) (Fl_k fX (fun _ => ⟨rfl, rfl, rfl, rfl⟩) hFl)), (SC_k fM (fun _ => ⟨rfl, rfl⟩) (SC_k fX (fun _ => ⟨rfl, rfl⟩) hSC))⟩⟩
theorem s_tell {xs : Nat → Int32} {Ls : Nat} {σ : aSt} (h : IV xs Ls σ) (p0 : Int32) : ∃ r σ1 σ2, (∀ P' : Option Value → aSt → Prop, P' (some (.int r)) σ1 → aCall MT 140 261 [.ref 0, .int p0] σ P') ∧ (∀ P' : Option Value → aSt → Prop, P' (some (.int r)) σ2 → aCall MT 140 265 [.ref 66, .int p0] σ1 P') ∧ SC xs Ls σ1 ∧ IV xs Ls σ2 := by
  rcases h with ⟨T, n, len, h⟩ | ⟨a, b, M, E, H, d, T, n, len, h⟩
  · have hb := h.2.1
    have e1 : f_X_tell 10000 p0 σ = some ((-2 : Int32), σ) := by simp [f_X_tell, f_X_isListed, f_X_isPoint, f_X_isByPrime, hb.1]
    have e2 : f_M_tell 10000 p0 σ = some ((-2 : Int32), σ) := by simp [f_M_tell, f_M_isListed, f_M_isPoint, f_M_isGoodPrime, hb.2.1]
    exact ⟨(-2 : Int32), σ, σ, fun P' hp => c_X_tell 135 p0 σ e1 hp, fun P' hp => c_M_tell 136 p0 σ e2 hp, h.2.2.2.2.2.2.2.2.2.2.2.2, Or.inl ⟨T, n, len, h⟩⟩
  · obtain ⟨⟨hc, hV, hT0⟩, ⟨hRX, hOR, hLN, hMK, hBS, hGI, hTR, hXH, hRM, hMH⟩, ⟨hXT, hMT, hZ9, hK1, hK9, hK7, hCP, hCM, hTD, hFl, hSC⟩⟩ := h
    obtain ⟨r, σ1, t1, l1, e1, _, hs⟩ := tell_eq (N := 10000) (by decide) (CVc_CV hc) (σ := σ) (τ := σ) hRX hRM hTD p0
    have fX := hs.2.1
    have yD : ToD len σ σ1 := ⟨hTD.1, by rw [(fX 66 57 rfl).1]; exact hTD.2.1, hTD.2.2.1, fun i hi => by rw [(fX 86 i rfl).1]; exact hTD.2.2.2 i hi⟩
    obtain ⟨r', σ1', σ2, l2, e1', e2, hs2⟩ := tell_eq (N := 10000) (by decide) (CVc_CV hc) (σ := σ) (τ := σ1) hRX (RM_k fX (fun _ => ⟨rfl, rfl, rfl, rfl, rfl, rfl, rfl, rfl, rfl⟩) hRM) yD p0
    obtain ⟨q1, q2⟩ := Prod.mk.inj (Option.some.inj (e1.symm.trans e1'))
    subst q1; subst q2
    obtain ⟨yE, _, fM⟩ := hs2
    have yT : TD1 l2 σ2 := ⟨by rw [(fM 4 1 rfl).1]; exact yE.1, yE.2.1, yE.2.2.1, fun i hi => by rw [(fM 5 i rfl).1]; exact yE.2.2.2 i hi⟩
    exact ⟨r, σ1, σ2, fun P' hp => c_X_tell 135 p0 σ e1 hp, fun P' hp => c_M_tell 136 p0 σ1 e2 hp, (SC_k fX (fun _ => ⟨rfl, rfl⟩) hSC), Or.inr ⟨a, b, M, E, H, d, T, n, l2, ⟨hc, hV, hT0⟩, ⟨(RX_k fM (fun _ => ⟨rfl, rfl, rfl, rfl, rfl, rfl⟩) (RX_k fX (fun _ => ⟨rfl, rfl, rfl, rfl, rfl, rfl⟩) hRX)), (OR_k fM (fun _ => rfl) (OR_k fX (fun _ => rfl) hOR)), (LN_k fM (fun _ => rfl) (LN_k fX (fun _ => rfl) hLN)), (MKc_k fM (fun _ => ⟨rfl, rfl, rfl, rfl, rfl, rfl⟩) (MKc_k fX (fun _ => ⟨rfl, rfl, rfl, rfl, rfl, rfl⟩) hMK)), (BS_k fM (fun _ => ⟨rfl, rfl, rfl, rfl, rfl, rfl⟩) (BS_k fX (fun _ => ⟨rfl, rfl, rfl, rfl, rfl, rfl⟩) hBS)), (GI_k fM (fun _ => ⟨rfl, rfl, rfl, rfl⟩) (GI_k fX (fun _ => ⟨rfl, rfl, rfl, rfl⟩) hGI)), (TR_k fM (fun _ => ⟨rfl, rfl⟩) (TR_k fX (fun _ => ⟨rfl, rfl⟩) hTR)), (XH_k fM (fun _ => ⟨rfl, rfl⟩) (XH_k fX (fun _ => ⟨rfl, rfl⟩) hXH)), (RM_k fM (fun _ => ⟨rfl, rfl, rfl, rfl, rfl, rfl, rfl, rfl, rfl⟩) (RM_k fX (fun _ => ⟨rfl, rfl, rfl, rfl, rfl, rfl, rfl, rfl, rfl⟩) hRM)), (MH_k fM (fun _ => ⟨rfl, rfl⟩) (MH_k fX (fun _ => ⟨rfl, rfl⟩) hMH))⟩, ⟨(XT_k fM (fun _ => ⟨rfl, rfl⟩) (XT_k fX (fun _ => ⟨rfl, rfl⟩) hXT)), (MTq_k fM (fun _ => ⟨rfl, rfl⟩) (MTq_k fX (fun _ => ⟨rfl, rfl⟩) hMT)), (Z9_k fM (fun _ => rfl) (Z9_k fX (fun _ => rfl) hZ9)), (KT_41_k fM (fun _ => ⟨rfl, rfl, rfl, rfl, rfl, rfl, rfl, rfl, rfl, rfl⟩) (KT_41_k fX (fun _ => ⟨rfl, rfl, rfl, rfl, rfl, rfl, rfl, rfl, rfl, rfl⟩) hK1)), (KT_49_k fM (fun _ => ⟨rfl, rfl, rfl, rfl, rfl, rfl, rfl, rfl, rfl, rfl⟩) (KT_49_k fX (fun _ => ⟨rfl, rfl, rfl, rfl, rfl, rfl, rfl, rfl, rfl, rfl⟩) hK9)), (KT_57_k fM (fun _ => ⟨rfl, rfl, rfl, rfl, rfl, rfl, rfl, rfl, rfl, rfl⟩) (KT_57_k fX (fun _ => ⟨rfl, rfl, rfl, rfl, rfl, rfl, rfl, rfl, rfl, rfl⟩) hK7)), (CP_k fM (fun _ => rfl) (CP_k fX (fun _ => rfl) hCP)), (CM_k fM (fun _ => ⟨rfl, rfl, rfl⟩) (CM_k fX (fun _ => ⟨rfl, rfl, rfl⟩) hCM)), yT, (Fl_k fM (fun _ => ⟨rfl, rfl, rfl, rfl⟩) (Fl_k fX (fun _ => ⟨rfl, rfl, rfl, rfl⟩) hFl)), (SC_k fM (fun _ => ⟨rfl, rfl⟩) (SC_k fX (fun _ => ⟨rfl, rfl⟩) hSC))⟩⟩⟩
theorem s_tellCurve {xs : Nat → Int32} {Ls : Nat} {σ : aSt} (h : IV xs Ls σ) : ∃ r σ1 σ2, (∀ P' : Option Value → aSt → Prop, P' (some (.int r)) σ1 → aCall MT 140 332 [.ref 0] σ P') ∧ (∀ P' : Option Value → aSt → Prop, P' (some (.int r)) σ2 → aCall MT 140 334 [.ref 66] σ1 P') ∧ SC xs Ls σ1 ∧ IV xs Ls σ2 := by
  rcases h with ⟨T, n, len, h⟩ | ⟨a, b, M, E, H, d, T, n, len, h⟩
  · have hb := h.2.1
    have e1 : f_X_tellCurve 10000 σ = some ((-2 : Int32), σ) := by simp [f_X_tellCurve, f_X_isListed, f_X_isPoint, f_X_isByPrime, hb.1]
    have e2 : f_M_tellCurve 10000 σ = some ((-2 : Int32), σ) := by simp [f_M_tellCurve, f_M_isListed, f_M_isPoint, f_M_isGoodPrime, hb.2.1]
    exact ⟨(-2 : Int32), σ, σ, fun P' hp => c_X_tellCurve 135  σ e1 hp, fun P' hp => c_M_tellCurve 136  σ e2 hp, h.2.2.2.2.2.2.2.2.2.2.2.2, Or.inl ⟨T, n, len, h⟩⟩
  · obtain ⟨⟨hc, hV, hT0⟩, ⟨hRX, hOR, hLN, hMK, hBS, hGI, hTR, hXH, hRM, hMH⟩, ⟨hXT, hMT, hZ9, hK1, hK9, hK7, hCP, hCM, hTD, hFl, hSC⟩⟩ := h
    obtain ⟨r, σ1, t1, l1, e1, _, hs⟩ := tellCurve_eq (N := 10000) (by decide) hc.1 hc.2.1 (σ := σ) (τ := σ) hRX hRM
    have fX := hs.2.1
    obtain ⟨r', σ1', σ2, l2, e1', e2, hs2⟩ := tellCurve_eq (N := 10000) (by decide) hc.1 hc.2.1 (σ := σ) (τ := σ1) hRX (RM_k fX (fun _ => ⟨rfl, rfl, rfl, rfl, rfl, rfl, rfl, rfl, rfl⟩) hRM)
    obtain ⟨q1, q2⟩ := Prod.mk.inj (Option.some.inj (e1.symm.trans e1'))
    subst q1; subst q2
    obtain ⟨yE, _, fM⟩ := hs2
    have yT : TD1 l2 σ2 := ⟨by rw [(fM 4 1 rfl).1]; exact yE.1, yE.2.1, yE.2.2.1, fun i hi => by rw [(fM 5 i rfl).1]; exact yE.2.2.2 i hi⟩
    exact ⟨r, σ1, σ2, fun P' hp => c_X_tellCurve 135  σ e1 hp, fun P' hp => c_M_tellCurve 136  σ1 e2 hp, (SC_k fX (fun _ => ⟨rfl, rfl⟩) hSC), Or.inr ⟨a, b, M, E, H, d, T, n, l2, ⟨hc, hV, hT0⟩, ⟨(RX_k fM (fun _ => ⟨rfl, rfl, rfl, rfl, rfl, rfl⟩) (RX_k fX (fun _ => ⟨rfl, rfl, rfl, rfl, rfl, rfl⟩) hRX)), (OR_k fM (fun _ => rfl) (OR_k fX (fun _ => rfl) hOR)), (LN_k fM (fun _ => rfl) (LN_k fX (fun _ => rfl) hLN)), (MKc_k fM (fun _ => ⟨rfl, rfl, rfl, rfl, rfl, rfl⟩) (MKc_k fX (fun _ => ⟨rfl, rfl, rfl, rfl, rfl, rfl⟩) hMK)), (BS_k fM (fun _ => ⟨rfl, rfl, rfl, rfl, rfl, rfl⟩) (BS_k fX (fun _ => ⟨rfl, rfl, rfl, rfl, rfl, rfl⟩) hBS)), (GI_k fM (fun _ => ⟨rfl, rfl, rfl, rfl⟩) (GI_k fX (fun _ => ⟨rfl, rfl, rfl, rfl⟩) hGI)), (TR_k fM (fun _ => ⟨rfl, rfl⟩) (TR_k fX (fun _ => ⟨rfl, rfl⟩) hTR)), (XH_k fM (fun _ => ⟨rfl, rfl⟩) (XH_k fX (fun _ => ⟨rfl, rfl⟩) hXH)), (RM_k fM (fun _ => ⟨rfl, rfl, rfl, rfl, rfl, rfl, rfl, rfl, rfl⟩) (RM_k fX (fun _ => ⟨rfl, rfl, rfl, rfl, rfl, rfl, rfl, rfl, rfl⟩) hRM)), (MH_k fM (fun _ => ⟨rfl, rfl⟩) (MH_k fX (fun _ => ⟨rfl, rfl⟩) hMH))⟩, ⟨(XT_k fM (fun _ => ⟨rfl, rfl⟩) (XT_k fX (fun _ => ⟨rfl, rfl⟩) hXT)), (MTq_k fM (fun _ => ⟨rfl, rfl⟩) (MTq_k fX (fun _ => ⟨rfl, rfl⟩) hMT)), (Z9_k fM (fun _ => rfl) (Z9_k fX (fun _ => rfl) hZ9)), (KT_41_k fM (fun _ => ⟨rfl, rfl, rfl, rfl, rfl, rfl, rfl, rfl, rfl, rfl⟩) (KT_41_k fX (fun _ => ⟨rfl, rfl, rfl, rfl, rfl, rfl, rfl, rfl, rfl, rfl⟩) hK1)), (KT_49_k fM (fun _ => ⟨rfl, rfl, rfl, rfl, rfl, rfl, rfl, rfl, rfl, rfl⟩) (KT_49_k fX (fun _ => ⟨rfl, rfl, rfl, rfl, rfl, rfl, rfl, rfl, rfl, rfl⟩) hK9)), (KT_57_k fM (fun _ => ⟨rfl, rfl, rfl, rfl, rfl, rfl, rfl, rfl, rfl, rfl⟩) (KT_57_k fX (fun _ => ⟨rfl, rfl, rfl, rfl, rfl, rfl, rfl, rfl, rfl, rfl⟩) hK7)), (CP_k fM (fun _ => rfl) (CP_k fX (fun _ => rfl) hCP)), (CM_k fM (fun _ => ⟨rfl, rfl, rfl⟩) (CM_k fX (fun _ => ⟨rfl, rfl, rfl⟩) hCM)), yT, (Fl_k fM (fun _ => ⟨rfl, rfl, rfl, rfl⟩) (Fl_k fX (fun _ => ⟨rfl, rfl, rfl, rfl⟩) hFl)), (SC_k fM (fun _ => ⟨rfl, rfl⟩) (SC_k fX (fun _ => ⟨rfl, rfl⟩) hSC))⟩⟩⟩
