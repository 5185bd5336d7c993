/-! the calls of the law, from invariant to invariant (printed by g987.py) -/
theorem s_walk {xs : Nat → Int32} {Ls : Nat} {σ : aSt} (h : IV xs Ls σ) (p0 : Int32) : ∃ r σ1 σ2, (∀ P' : Option Value → aSt → Prop, P' (some (.int r)) σ1 → aCall MT 140 296 [.ref 0, .int p0] σ P') ∧ (∀ P' : Option Value → aSt → Prop, P' (some (.int r)) σ2 → aCall MT 140 297 [.ref 66, .int p0] σ1 P') ∧ SC xs Ls σ1 ∧ IV xs Ls σ2 := by
  rcases h with ⟨T, n, len, h⟩ | ⟨a, b, M, E, H, d, T, n, len, h⟩
  · have hb := h.2.1
    have e1 : f_X_walk 10000 p0 σ = some ((-2 : Int32), σ) := by simp [f_X_walk, f_X_isListed, f_X_isPoint, f_X_isByPrime, hb.1]
    have e2 : f_M_walk 10000 p0 σ = some ((-2 : Int32), σ) := by simp [f_M_walk, f_M_isListed, f_M_isPoint, f_M_isGoodPrime, hb.2.1]
    exact ⟨(-2 : Int32), σ, σ, fun P' hp => c_X_walk 135 p0 σ e1 hp, fun P' hp => c_M_walk 135 p0 σ e2 hp, h.2.2.2.2.2.2.2.2.2.2.2.2, Or.inl ⟨T, n, len, h⟩⟩
  · have hR := h
    obtain ⟨⟨hc, hV, hT0⟩, ⟨hRX, hOR, hLN, hMK, hBS, hGI, hTR, hXH, hRM, hMH⟩, ⟨hXT, hMT, hZ9, hK1, hK9, hK7, hCP, hCM, hTD, hFl, hSC⟩⟩ := h
    obtain ⟨r, σ1, t1, e1, _, fX, fM⟩ := walk_eq (N := 10000) (σ := σ) (τ := σ) (CVc_CV hc) (Nat.le_refl _) hRX hRM p0
    have g1 := kp_fr22 fX hR
    obtain ⟨r', σ1', σ2, e1', e2, fX2, fM2⟩ := walk_eq (N := 10000) (σ := σ) (τ := σ1) (CVc_CV hc) (Nat.le_refl _) hRX g1.2.1.2.2.2.2.2.2.2.2.1 p0
    obtain ⟨q1, q2⟩ := Prod.mk.inj (Option.some.inj (e1.symm.trans e1'))
    subst q1; subst q2
    have g2 := kp_fr23 fM2 g1
    exact ⟨r, σ1, σ2, fun P' hp => c_X_walk 135 p0 σ e1 hp, fun P' hp => c_M_walk 135 p0 σ1 e2 hp, g1.2.2.2.2.2.2.2.2.2.2.2.2, Or.inr ⟨a, b, M, E, H, d, T, n, len, g2⟩⟩
theorem s_between {xs : Nat → Int32} {Ls : Nat} {σ : aSt} (h : IV xs Ls σ) (p0 p1 p2 : Int32) : ∃ r σ1 σ2, (∀ P' : Option Value → aSt → Prop, P' (some (.int r)) σ1 → aCall MT 140 299 [.ref 0, .int p0, .int p1, .int p2] σ P') ∧ (∀ P' : Option Value → aSt → Prop, P' (some (.int r)) σ2 → aCall MT 140 300 [.ref 66, .int p0, .int p1, .int p2] σ1 P') ∧ SC xs Ls σ1 ∧ IV xs Ls σ2 := by
  rcases h with ⟨T, n, len, h⟩ | ⟨a, b, M, E, H, d, T, n, len, h⟩
  · have hb := h.2.1
    have e1 : f_X_between 10000 p0 p1 p2 σ = some (-2 : Int32) := by simp [f_X_between, f_X_isListed, f_X_isPoint, f_X_isByPrime, hb.1]
    have e2 : f_M_between 10000 p0 p1 p2 σ = some (-2 : Int32) := by simp [f_M_between, f_M_isListed, f_M_isPoint, f_M_isGoodPrime, hb.2.1]
    exact ⟨(-2 : Int32), σ, σ, fun P' hp => c_X_between 138 p0 p1 p2 σ e1 hp, fun P' hp => c_M_between 138 p0 p1 p2 σ e2 hp, h.2.2.2.2.2.2.2.2.2.2.2.2, Or.inl ⟨T, n, len, h⟩⟩
  · have hR := h
    obtain ⟨⟨hc, hV, hT0⟩, ⟨hRX, hOR, hLN, hMK, hBS, hGI, hTR, hXH, hRM, hMH⟩, ⟨hXT, hMT, hZ9, hK1, hK9, hK7, hCP, hCM, hTD, hFl, hSC⟩⟩ := h
    obtain ⟨r, e1, e2⟩ := between_eq (N := 10000) (σ := σ) (τ := σ) (CVc_CV hc) (Nat.le_refl _) hRX hRM p0 p1 p2
    exact ⟨r, σ, σ, fun P' hp => c_X_between 138 p0 p1 p2 σ e1 hp, fun P' hp => c_M_between 138 p0 p1 p2 σ e2 hp, hSC, Or.inr ⟨a, b, M, E, H, d, T, n, len, hR⟩⟩
theorem s_nearest {xs : Nat → Int32} {Ls : Nat} {σ : aSt} (h : IV xs Ls σ) (p0 p1 : Int32) : ∃ r σ1 σ2, (∀ P' : Option Value → aSt → Prop, P' (some (.int r)) σ1 → aCall MT 140 301 [.ref 0, .int p0, .int p1] σ P') ∧ (∀ P' : Option Value → aSt → Prop, P' (some (.int r)) σ2 → aCall MT 140 302 [.ref 66, .int p0, .int p1] σ1 P') ∧ SC xs Ls σ1 ∧ IV xs Ls σ2 := by
  rcases h with ⟨T, n, len, h⟩ | ⟨a, b, M, E, H, d, T, n, len, h⟩
  · have hb := h.2.1
    have e1 : f_X_nearest 10000 p0 p1 σ = some (-2 : Int32) := by simp [f_X_nearest, f_X_isListed, f_X_isPoint, f_X_isByPrime, hb.1]
    have e2 : f_M_nearest 10000 p0 p1 σ = some (-2 : Int32) := by simp [f_M_nearest, f_M_isListed, f_M_isPoint, f_M_isGoodPrime, hb.2.1]
    exact ⟨(-2 : Int32), σ, σ, fun P' hp => c_X_nearest 138 p0 p1 σ e1 hp, fun P' hp => c_M_nearest 138 p0 p1 σ e2 hp, h.2.2.2.2.2.2.2.2.2.2.2.2, Or.inl ⟨T, n, len, h⟩⟩
  · have hR := h
    obtain ⟨⟨hc, hV, hT0⟩, ⟨hRX, hOR, hLN, hMK, hBS, hGI, hTR, hXH, hRM, hMH⟩, ⟨hXT, hMT, hZ9, hK1, hK9, hK7, hCP, hCM, hTD, hFl, hSC⟩⟩ := h
    obtain ⟨r, e1, e2⟩ := nearest_eq (N := 10000) (σ := σ) (τ := σ) (CVc_CV hc) (Nat.le_refl _) hRX hRM p0 p1
    exact ⟨r, σ, σ, fun P' hp => c_X_nearest 138 p0 p1 σ e1 hp, fun P' hp => c_M_nearest 138 p0 p1 σ e2 hp, hSC, Or.inr ⟨a, b, M, E, H, d, T, n, len, hR⟩⟩
theorem s_overMany {xs : Nat → Int32} {Ls : Nat} {σ : aSt} (h : IV xs Ls σ) : ∃ r σ1 σ2, (∀ P' : Option Value → aSt → Prop, P' (some (.int r)) σ1 → aCall MT 140 309 [.ref 0] σ P') ∧ (∀ P' : Option Value → aSt → Prop, P' (some (.int r)) σ2 → aCall MT 140 312 [.ref 66] σ1 P') ∧ SC xs Ls σ1 ∧ IV xs Ls σ2 := by
  rcases h with ⟨T, n, len, h⟩ | ⟨a, b, M, E, H, d, T, n, len, h⟩
  · have hb := h.2.1
    have e1 : f_X_overMany 10000 σ = some ((-2 : Int32), σ) := by simp [f_X_overMany, f_X_isListed, f_X_isPoint, f_X_isByPrime, hb.1]
    have e2 : f_M_overMany 10000 σ = some ((-2 : Int32), σ) := by simp [f_M_overMany, f_M_isListed, f_M_isPoint, f_M_isGoodPrime, hb.2.1]
    exact ⟨(-2 : Int32), σ, σ, fun P' hp => c_X_overMany 133  σ e1 hp, fun P' hp => c_M_overMany 136  σ e2 hp, h.2.2.2.2.2.2.2.2.2.2.2.2, Or.inl ⟨T, n, len, h⟩⟩
  · have hR := h
    obtain ⟨⟨hc, hV, hT0⟩, ⟨hRX, hOR, hLN, hMK, hBS, hGI, hTR, hXH, hRM, hMH⟩, ⟨hXT, hMT, hZ9, hK1, hK9, hK7, hCP, hCM, hTD, hFl, hSC⟩⟩ := h
    obtain ⟨r, σ1, t1, e1, _, ⟨fX, n_BS, n_Z9⟩, fM⟩ := overMany_eq (N := 10000) (σ := σ) (τ := σ) hc (Nat.le_refl _) hRX hBS hZ9 hRM
    have g1 := kp_frB fX hR n_BS n_Z9
    obtain ⟨r', σ1', σ2, e1', e2, ⟨fX2, n_BS2, n_Z92⟩, fM2⟩ := overMany_eq (N := 10000) (σ := σ) (τ := σ1) hc (Nat.le_refl _) hRX hBS hZ9 g1.2.1.2.2.2.2.2.2.2.2.1
    obtain ⟨q1, q2⟩ := Prod.mk.inj (Option.some.inj (e1.symm.trans e1'))
    subst q1; subst q2
    have g2 := kp_frO fM2 g1
    exact ⟨r, σ1, σ2, fun P' hp => c_X_overMany 133  σ e1 hp, fun P' hp => c_M_overMany 136  σ1 e2 hp, g1.2.2.2.2.2.2.2.2.2.2.2.2, Or.inr ⟨a, b, M, E, H, d, T, n, len, g2⟩⟩
theorem s_overPoint {xs : Nat → Int32} {Ls : Nat} {σ : aSt} (h : IV xs Ls σ) (p0 p1 : Int32) : ∃ r σ1 σ2, (∀ P' : Option Value → aSt → Prop, P' (some (.long r)) σ1 → aCall MT 140 313 [.ref 0, .int p0, .int p1] σ P') ∧ (∀ P' : Option Value → aSt → Prop, P' (some (.long r)) σ2 → aCall MT 140 314 [.ref 66, .int p0, .int p1] σ1 P') ∧ SC xs Ls σ1 ∧ IV xs Ls σ2 := by
  rcases h with ⟨T, n, len, h⟩ | ⟨a, b, M, E, H, d, T, n, len, h⟩
  · have hb := h.2.1
    have e1 : f_X_overPoint 10000 p0 p1 σ = some ((-9223372036854775808 : Int64), σ) := by simp [f_X_overPoint, f_X_isListed, f_X_isPoint, f_X_isByPrime, hb.1]
    have e2 : f_M_overPoint 10000 p0 p1 σ = some ((-9223372036854775808 : Int64), σ) := by simp [f_M_overPoint, f_M_isListed, f_M_isPoint, f_M_isGoodPrime, hb.2.1]
    exact ⟨(-9223372036854775808 : Int64), σ, σ, fun P' hp => c_X_overPoint 133 p0 p1 σ e1 hp, fun P' hp => c_M_overPoint 136 p0 p1 σ e2 hp, h.2.2.2.2.2.2.2.2.2.2.2.2, Or.inl ⟨T, n, len, h⟩⟩
  · have hR := h
    obtain ⟨⟨hc, hV, hT0⟩, ⟨hRX, hOR, hLN, hMK, hBS, hGI, hTR, hXH, hRM, hMH⟩, ⟨hXT, hMT, hZ9, hK1, hK9, hK7, hCP, hCM, hTD, hFl, hSC⟩⟩ := h
    obtain ⟨r, σ1, t1, e1, _, ⟨fX, n_BS, n_Z9⟩, fM⟩ := overPoint_eq (N := 10000) (σ := σ) (τ := σ) hc (Nat.le_refl _) hRX hBS hZ9 hRM p0 p1
    have g1 := kp_frB fX hR n_BS n_Z9
    obtain ⟨r', σ1', σ2, e1', e2, ⟨fX2, n_BS2, n_Z92⟩, fM2⟩ := overPoint_eq (N := 10000) (σ := σ) (τ := σ1) hc (Nat.le_refl _) hRX hBS hZ9 g1.2.1.2.2.2.2.2.2.2.2.1 p0 p1
    obtain ⟨q1, q2⟩ := Prod.mk.inj (Option.some.inj (e1.symm.trans e1'))
    subst q1; subst q2
    have g2 := kp_frO fM2 g1
    exact ⟨r, σ1, σ2, fun P' hp => c_X_overPoint 133 p0 p1 σ e1 hp, fun P' hp => c_M_overPoint 136 p0 p1 σ1 e2 hp, g1.2.2.2.2.2.2.2.2.2.2.2.2, Or.inr ⟨a, b, M, E, H, d, T, n, len, g2⟩⟩
theorem s_over {xs : Nat → Int32} {Ls : Nat} {σ : aSt} (h : IV xs Ls σ) (p0 : Int32) : ∃ r σ1 σ2, (∀ P' : Option Value → aSt → Prop, P' (some (.int r)) σ1 → aCall MT 140 316 [.ref 0, .int p0] σ P') ∧ (∀ P' : Option Value → aSt → Prop, P' (some (.int r)) σ2 → aCall MT 140 319 [.ref 66, .int p0] σ1 P') ∧ SC xs Ls σ1 ∧ IV xs Ls σ2 := by
  rcases h with ⟨T, n, len, h⟩ | ⟨a, b, M, E, H, d, T, n, len, h⟩
  · have hb := h.2.1
    have e1 : f_X_over 10000 p0 σ = some ((-2 : Int32), σ) := by simp [f_X_over, f_X_isListed, f_X_isPoint, f_X_isByPrime, hb.1]
    have e2 : f_M_over 10000 p0 σ = some ((-2 : Int32), σ) := by simp [f_M_over, f_M_isListed, f_M_isPoint, f_M_isGoodPrime, hb.2.1]
    exact ⟨(-2 : Int32), σ, σ, fun P' hp => c_X_over 133 p0 σ e1 hp, fun P' hp => c_M_over 136 p0 σ e2 hp, h.2.2.2.2.2.2.2.2.2.2.2.2, Or.inl ⟨T, n, len, h⟩⟩
  · have hR := h
    obtain ⟨⟨hc, hV, hT0⟩, ⟨hRX, hOR, hLN, hMK, hBS, hGI, hTR, hXH, hRM, hMH⟩, ⟨hXT, hMT, hZ9, hK1, hK9, hK7, hCP, hCM, hTD, hFl, hSC⟩⟩ := h
    obtain ⟨r, σ1, t1, e1, _, ⟨fX, n_BS, n_Z9⟩, fM⟩ := over_eq (N := 10000) (σ := σ) (τ := σ) hc (Nat.le_refl _) hRX hBS hZ9 hRM p0
    have g1 := kp_frB fX hR n_BS n_Z9
    obtain ⟨r', σ1', σ2, e1', e2, ⟨fX2, n_BS2, n_Z92⟩, fM2⟩ := over_eq (N := 10000) (σ := σ) (τ := σ1) hc (Nat.le_refl _) hRX hBS hZ9 g1.2.1.2.2.2.2.2.2.2.2.1 p0
    obtain ⟨q1, q2⟩ := Prod.mk.inj (Option.some.inj (e1.symm.trans e1'))
    subst q1; subst q2
    have g2 := kp_frO fM2 g1
    exact ⟨r, σ1, σ2, fun P' hp => c_X_over 133 p0 σ e1 hp, fun P' hp => c_M_over 136 p0 σ1 e2 hp, g1.2.2.2.2.2.2.2.2.2.2.2.2, Or.inr ⟨a, b, M, E, H, d, T, n, len, g2⟩⟩
theorem s_back {xs : Nat → Int32} {Ls : Nat} {σ : aSt} (h : IV xs Ls σ) (p0 : Int32) : ∃ r σ1 σ2, (∀ P' : Option Value → aSt → Prop, P' (some (.int r)) σ1 → aCall MT 140 320 [.ref 0, .int p0] σ P') ∧ (∀ P' : Option Value → aSt → Prop, P' (some (.int r)) σ2 → aCall MT 140 321 [.ref 66, .int p0] σ1 P') ∧ SC xs Ls σ1 ∧ IV xs Ls σ2 := by
  rcases h with ⟨T, n, len, h⟩ | ⟨a, b, M, E, H, d, T, n, len, h⟩
  · have hb := h.2.1
    have e1 : f_X_back 10000 p0 σ = some ((-2 : Int32), σ) := by simp [f_X_back, f_X_isListed, f_X_isPoint, f_X_isByPrime, hb.1]
    have e2 : f_M_back 10000 p0 σ = some ((-2 : Int32), σ) := by simp [f_M_back, f_M_isListed, f_M_isPoint, f_M_isGoodPrime, hb.2.1]
    exact ⟨(-2 : Int32), σ, σ, fun P' hp => c_X_back 133 p0 σ e1 hp, fun P' hp => c_M_back 136 p0 σ e2 hp, h.2.2.2.2.2.2.2.2.2.2.2.2, Or.inl ⟨T, n, len, h⟩⟩
  · have hR := h
    obtain ⟨⟨hc, hV, hT0⟩, ⟨hRX, hOR, hLN, hMK, hBS, hGI, hTR, hXH, hRM, hMH⟩, ⟨hXT, hMT, hZ9, hK1, hK9, hK7, hCP, hCM, hTD, hFl, hSC⟩⟩ := h
    obtain ⟨r, σ1, t1, e1, _, ⟨fX, n_BS, n_Z9⟩, fM⟩ := back_eq (N := 10000) (σ := σ) (τ := σ) hc (Nat.le_refl _) hRX hBS hZ9 hRM p0
    have g1 := kp_frB fX hR n_BS n_Z9
    obtain ⟨r', σ1', σ2, e1', e2, ⟨fX2, n_BS2, n_Z92⟩, fM2⟩ := back_eq (N := 10000) (σ := σ) (τ := σ1) hc (Nat.le_refl _) hRX hBS hZ9 g1.2.1.2.2.2.2.2.2.2.2.1 p0
    obtain ⟨q1, q2⟩ := Prod.mk.inj (Option.some.inj (e1.symm.trans e1'))
    subst q1; subst q2
    have g2 := kp_frO fM2 g1
    exact ⟨r, σ1, σ2, fun P' hp => c_X_back 133 p0 σ e1 hp, fun P' hp => c_M_back 136 p0 σ1 e2 hp, g1.2.2.2.2.2.2.2.2.2.2.2.2, Or.inr ⟨a, b, M, E, H, d, T, n, len, g2⟩⟩
theorem s_bad {xs : Nat → Int32} {Ls : Nat} {σ : aSt} (h : IV xs Ls σ) (p0 : Int32) : ∃ r σ1 σ2, (∀ P' : Option Value → aSt → Prop, P' (some (.int r)) σ1 → aCall MT 140 322 [.ref 0, .int p0] σ P') ∧ (∀ P' : Option Value → aSt → Prop, P' (some (.int r)) σ2 → aCall MT 140 323 [.ref 66, .int p0] σ1 P') ∧ SC xs Ls σ1 ∧ IV xs Ls σ2 := by
  rcases h with ⟨T, n, len, h⟩ | ⟨a, b, M, E, H, d, T, n, len, h⟩
  · have hb := h.2.1
    have e1 : f_X_bad 10000 p0 σ = some (-2 : Int32) := by simp [f_X_bad, f_X_isListed, f_X_isPoint, f_X_isByPrime, hb.1]
    have e2 : f_M_bad 10000 p0 σ = some (-2 : Int32) := by simp [f_M_bad, f_M_isListed, f_M_isPoint, f_M_isGoodPrime, hb.2.1]
    exact ⟨(-2 : Int32), σ, σ, fun P' hp => c_X_bad 136 p0 σ e1 hp, fun P' hp => c_M_bad 137 p0 σ e2 hp, h.2.2.2.2.2.2.2.2.2.2.2.2, Or.inl ⟨T, n, len, h⟩⟩
  · have hR := h
    obtain ⟨⟨hc, hV, hT0⟩, ⟨hRX, hOR, hLN, hMK, hBS, hGI, hTR, hXH, hRM, hMH⟩, ⟨hXT, hMT, hZ9, hK1, hK9, hK7, hCP, hCM, hTD, hFl, hSC⟩⟩ := h
    obtain ⟨r, e1, e2⟩ := bad_eq (N := 10000) (σ := σ) (τ := σ) hc (Nat.le_refl _) hRX hRM hCP p0
    exact ⟨r, σ, σ, fun P' hp => c_X_bad 136 p0 σ e1 hp, fun P' hp => c_M_bad 137 p0 σ e2 hp, hSC, Or.inr ⟨a, b, M, E, H, d, T, n, len, hR⟩⟩
theorem s_solves {xs : Nat → Int32} {Ls : Nat} {σ : aSt} (h : IV xs Ls σ) (p0 p1 p2 p3 : Int32) : ∃ r σ1 σ2, (∀ P' : Option Value → aSt → Prop, P' (some (.long r)) σ1 → aCall MT 140 324 [.ref 0, .int p0, .int p1, .int p2, .int p3] σ P') ∧ (∀ P' : Option Value → aSt → Prop, P' (some (.long r)) σ2 → aCall MT 140 326 [.ref 66, .int p0, .int p1, .int p2, .int p3] σ1 P') ∧ SC xs Ls σ1 ∧ IV xs Ls σ2 := by
  rcases h with ⟨T, n, len, h⟩ | ⟨a, b, M, E, H, d, T, n, len, h⟩
  · have hb := h.2.1
    have e1 : f_X_solves 10000 p0 p1 p2 p3 σ = some ((-9223372036854775808 : Int64), σ) := by simp [f_X_solves, f_X_isListed, f_X_isPoint, f_X_isByPrime, hb.1]
    have e2 : f_M_solves 10000 p0 p1 p2 p3 σ = some ((-9223372036854775808 : Int64), σ) := by simp [f_M_solves, f_M_isListed, f_M_isPoint, f_M_isGoodPrime, hb.2.1]
    exact ⟨(-9223372036854775808 : Int64), σ, σ, fun P' hp => c_X_solves 132 p0 p1 p2 p3 σ e1 hp, fun P' hp => c_M_solves 133 p0 p1 p2 p3 σ e2 hp, h.2.2.2.2.2.2.2.2.2.2.2.2, Or.inl ⟨T, n, len, h⟩⟩
  · have hR := h
    obtain ⟨⟨hc, hV, hT0⟩, ⟨hRX, hOR, hLN, hMK, hBS, hGI, hTR, hXH, hRM, hMH⟩, ⟨hXT, hMT, hZ9, hK1, hK9, hK7, hCP, hCM, hTD, hFl, hSC⟩⟩ := h
    obtain ⟨r, σ1, t1, e1, _, fX, n_OR, fM⟩ := solves_eq (N := 10000) (σ := σ) (τ := σ) (CVc_CV hc) (Nat.le_refl _) hRX hOR hRM p0 p1 p2 p3
    have g1 := kp_frT fX hR n_OR
    obtain ⟨r', σ1', σ2, e1', e2, fX2, n_OR2, fM2⟩ := solves_eq (N := 10000) (σ := σ) (τ := σ1) (CVc_CV hc) (Nat.le_refl _) hRX hOR g1.2.1.2.2.2.2.2.2.2.2.1 p0 p1 p2 p3
    obtain ⟨q1, q2⟩ := Prod.mk.inj (Option.some.inj (e1.symm.trans e1'))
    subst q1; subst q2
    have g2 := kp_fr23 fM2 g1
    exact ⟨r, σ1, σ2, fun P' hp => c_X_solves 132 p0 p1 p2 p3 σ e1 hp, fun P' hp => c_M_solves 133 p0 p1 p2 p3 σ1 e2 hp, g1.2.2.2.2.2.2.2.2.2.2.2.2, Or.inr ⟨a, b, M, E, H, d, T, n, len, g2⟩⟩
theorem s_deep {xs : Nat → Int32} {Ls : Nat} {σ : aSt} (h : IV xs Ls σ) (p0 : Int32) : ∃ r σ1 σ2, (∀ P' : Option Value → aSt → Prop, P' (some (.int r)) σ1 → aCall MT 140 328 [.ref 0, .int p0] σ P') ∧ (∀ P' : Option Value → aSt → Prop, P' (some (.int r)) σ2 → aCall MT 140 330 [.ref 66, .int p0] σ1 P') ∧ SC xs Ls σ1 ∧ IV xs Ls σ2 := by
  rcases h with ⟨T, n, len, h⟩ | ⟨a, b, M, E, H, d, T, n, len, h⟩
  · have hb := h.2.1
    have e1 : f_X_deep 10000 p0 σ = some ((-2 : Int32), σ) := by simp [f_X_deep, f_X_isListed, f_X_isPoint, f_X_isByPrime, hb.1]
    have e2 : f_M_deep 10000 p0 σ = some ((-2 : Int32), σ) := by simp [f_M_deep, f_M_isListed, f_M_isPoint, f_M_isGoodPrime, hb.2.1]
    exact ⟨(-2 : Int32), σ, σ, fun P' hp => c_X_deep 134 p0 σ e1 hp, fun P' hp => c_M_deep 14 p0 σ e2 hp, h.2.2.2.2.2.2.2.2.2.2.2.2, Or.inl ⟨T, n, len, h⟩⟩
  · have hR := h
    obtain ⟨⟨hc, hV, hT0⟩, ⟨hRX, hOR, hLN, hMK, hBS, hGI, hTR, hXH, hRM, hMH⟩, ⟨hXT, hMT, hZ9, hK1, hK9, hK7, hCP, hCM, hTD, hFl, hSC⟩⟩ := h
    obtain ⟨r, σ1, t1, e1, _, fX, fM⟩ := deep_eq (N := 10000) (σ := σ) (τ := σ) (CVc_CV hc) (Nat.le_refl _) hRX hRM p0
    have g1 := kp_fr22 fX hR
    obtain ⟨r', σ1', σ2, e1', e2, fX2, fM2⟩ := deep_eq (N := 10000) (σ := σ) (τ := σ1) (CVc_CV hc) (Nat.le_refl _) hRX g1.2.1.2.2.2.2.2.2.2.2.1 p0
    obtain ⟨q1, q2⟩ := Prod.mk.inj (Option.some.inj (e1.symm.trans e1'))
    subst q1; subst q2
    have g2 := kp_frD fM2 g1
    exact ⟨r, σ1, σ2, fun P' hp => c_X_deep 134 p0 σ e1 hp, fun P' hp => c_M_deep 14 p0 σ1 e2 hp, g1.2.2.2.2.2.2.2.2.2.2.2.2, Or.inr ⟨a, b, M, E, H, d, T, n, len, g2⟩⟩
theorem s_seenBy {xs : Nat → Int32} {Ls : Nat} {σ : aSt} (h : IV xs Ls σ) (p0 : Int32) : ∃ r σ1 σ2, (∀ P' : Option Value → aSt → Prop, P' (some (.int r)) σ1 → aCall MT 140 337 [.ref 0, .int p0] σ P') ∧ (∀ P' : Option Value → aSt → Prop, P' (some (.int r)) σ2 → aCall MT 140 339 [.ref 66, .int p0] σ1 P') ∧ SC xs Ls σ1 ∧ IV xs Ls σ2 := by
  rcases h with ⟨T, n, len, h⟩ | ⟨a, b, M, E, H, d, T, n, len, h⟩
  · have hb := h.2.1
    have e1 : f_X_seenBy 10000 p0 σ = some ((-2 : Int32), σ) := by simp [f_X_seenBy, f_X_isListed, f_X_isPoint, f_X_isByPrime, hb.1]
    have e2 : f_M_seenBy 10000 p0 σ = some ((-2 : Int32), σ) := by simp [f_M_seenBy, f_M_isListed, f_M_isPoint, f_M_isGoodPrime, hb.2.1]
    exact ⟨(-2 : Int32), σ, σ, fun P' hp => c_X_seenBy 135 p0 σ e1 hp, fun P' hp => c_M_seenBy 136 p0 σ e2 hp, h.2.2.2.2.2.2.2.2.2.2.2.2, Or.inl ⟨T, n, len, h⟩⟩
  · have hR := h
    obtain ⟨⟨hc, hV, hT0⟩, ⟨hRX, hOR, hLN, hMK, hBS, hGI, hTR, hXH, hRM, hMH⟩, ⟨hXT, hMT, hZ9, hK1, hK9, hK7, hCP, hCM, hTD, hFl, hSC⟩⟩ := h
    obtain ⟨r, σ1, t1, e1, _, n_GI, fX, fM⟩ := seenBy_eq (N := 10000) (σ := σ) (τ := σ) hc (Nat.le_refl _) hRX hRM hCP hGI p0
    have g1 := kp_frG fX hR n_GI
    obtain ⟨r', σ1', σ2, e1', e2, n_GI2, fX2, fM2⟩ := seenBy_eq (N := 10000) (σ := σ) (τ := σ1) hc (Nat.le_refl _) hRX g1.2.1.2.2.2.2.2.2.2.2.1 hCP hGI p0
    obtain ⟨q1, q2⟩ := Prod.mk.inj (Option.some.inj (e1.symm.trans e1'))
    subst q1; subst q2
    have g2 := kp_frBP fM2 g1
    exact ⟨r, σ1, σ2, fun P' hp => c_X_seenBy 135 p0 σ e1 hp, fun P' hp => c_M_seenBy 136 p0 σ1 e2 hp, g1.2.2.2.2.2.2.2.2.2.2.2.2, Or.inr ⟨a, b, M, E, H, d, T, n, len, g2⟩⟩
theorem s_firstAlike {xs : Nat → Int32} {Ls : Nat} {σ : aSt} (h : IV xs Ls σ) (p0 p1 : Int32) : ∃ r σ1 σ2, (∀ P' : Option Value → aSt → Prop, P' (some (.int r)) σ1 → aCall MT 140 341 [.ref 0, .int p0, .int p1] σ P') ∧ (∀ P' : Option Value → aSt → Prop, P' (some (.int r)) σ2 → aCall MT 140 342 [.ref 66, .int p0, .int p1] σ1 P') ∧ SC xs Ls σ1 ∧ IV xs Ls σ2 := by
  rcases h with ⟨T, n, len, h⟩ | ⟨a, b, M, E, H, d, T, n, len, h⟩
  · have hb := h.2.1
    have e1 : f_X_firstAlike 10000 p0 p1 σ = some (-2 : Int32) := by simp [f_X_firstAlike, f_X_isListed, f_X_isPoint, f_X_isByPrime, hb.1]
    have e2 : f_M_firstAlike 10000 p0 p1 σ = some ((-2 : Int32), σ) := by simp [f_M_firstAlike, f_M_isListed, f_M_isPoint, f_M_isGoodPrime, hb.2.1]
    exact ⟨(-2 : Int32), σ, σ, fun P' hp => c_X_firstAlike 136 p0 p1 σ e1 hp, fun P' hp => c_M_firstAlike 136 p0 p1 σ e2 hp, h.2.2.2.2.2.2.2.2.2.2.2.2, Or.inl ⟨T, n, len, h⟩⟩
  · have hR := h
    obtain ⟨⟨hc, hV, hT0⟩, ⟨hRX, hOR, hLN, hMK, hBS, hGI, hTR, hXH, hRM, hMH⟩, ⟨hXT, hMT, hZ9, hK1, hK9, hK7, hCP, hCM, hTD, hFl, hSC⟩⟩ := h
    obtain ⟨r, σ2, e1, e2, fM⟩ := firstAlike_eq (N := 10000) (σ := σ) (τ := σ) hc (Nat.le_refl _) hRX hRM hCP p0 p1
    exact ⟨r, σ, σ2, fun P' hp => c_X_firstAlike 136 p0 p1 σ e1 hp, fun P' hp => c_M_firstAlike 136 p0 p1 σ e2 hp, hSC, Or.inr ⟨a, b, M, E, H, d, T, n, len, (kp_frBP fM hR)⟩⟩
theorem s_turnsRank {xs : Nat → Int32} {Ls : Nat} {σ : aSt} (h : IV xs Ls σ) (p0 : Int32) : ∃ r σ1 σ2, (∀ P' : Option Value → aSt → Prop, P' (some (.int r)) σ1 → aCall MT 140 344 [.ref 0, .int p0] σ P') ∧ (∀ P' : Option Value → aSt → Prop, P' (some (.int r)) σ2 → aCall MT 140 345 [.ref 66, .int p0] σ1 P') ∧ SC xs Ls σ1 ∧ IV xs Ls σ2 := by
  rcases h with ⟨T, n, len, h⟩ | ⟨a, b, M, E, H, d, T, n, len, h⟩
  · have hb := h.2.1
    have e1 : f_X_turnsRank 10000 p0 σ = some ((-2 : Int32), σ) := by simp [f_X_turnsRank, f_X_isListed, f_X_isPoint, f_X_isByPrime, hb.1]
    have e2 : f_M_turnsRank 10000 p0 σ = some ((-2 : Int32), σ) := by simp [f_M_turnsRank, f_M_isListed, f_M_isPoint, f_M_isGoodPrime, hb.2.1]
    exact ⟨(-2 : Int32), σ, σ, fun P' hp => c_X_turnsRank 132 p0 σ e1 hp, fun P' hp => c_M_turnsRank 134 p0 σ e2 hp, h.2.2.2.2.2.2.2.2.2.2.2.2, Or.inl ⟨T, n, len, h⟩⟩
  · have hR := h
    obtain ⟨⟨hc, hV, hT0⟩, ⟨hRX, hOR, hLN, hMK, hBS, hGI, hTR, hXH, hRM, hMH⟩, ⟨hXT, hMT, hZ9, hK1, hK9, hK7, hCP, hCM, hTD, hFl, hSC⟩⟩ := h
    obtain ⟨r, σ1, t1, e1, _, n_KT_57, n_TR, fX, fM⟩ := turnsRank_eq (N := 10000) (σ := σ) (τ := σ) hc (Nat.le_refl _) hRX hRM hCM hK7 hTR p0
    have g1 := kp_frTR fX hR n_TR n_KT_57
    obtain ⟨r', σ1', σ2, e1', e2, n_KT_572, n_TR2, fX2, fM2⟩ := turnsRank_eq (N := 10000) (σ := σ) (τ := σ1) hc (Nat.le_refl _) hRX g1.2.1.2.2.2.2.2.2.2.2.1 hCM hK7 hTR p0
    obtain ⟨q1, q2⟩ := Prod.mk.inj (Option.some.inj (e1.symm.trans e1'))
    subst q1; subst q2
    have g2 := kp_frSi fM2 g1
    exact ⟨r, σ1, σ2, fun P' hp => c_X_turnsRank 132 p0 σ e1 hp, fun P' hp => c_M_turnsRank 134 p0 σ1 e2 hp, g1.2.2.2.2.2.2.2.2.2.2.2.2, Or.inr ⟨a, b, M, E, H, d, T, n, len, g2⟩⟩
theorem s_breaks {xs : Nat → Int32} {Ls : Nat} {σ : aSt} (h : IV xs Ls σ) (p0 : Int32) : ∃ r σ1 σ2, (∀ P' : Option Value → aSt → Prop, P' (some (.long r)) σ1 → aCall MT 140 346 [.ref 0, .int p0] σ P') ∧ (∀ P' : Option Value → aSt → Prop, P' (some (.long r)) σ2 → aCall MT 140 347 [.ref 66, .int p0] σ1 P') ∧ SC xs Ls σ1 ∧ IV xs Ls σ2 := by
  rcases h with ⟨T, n, len, h⟩ | ⟨a, b, M, E, H, d, T, n, len, h⟩
  · have hb := h.2.1
    have e1 : f_X_breaks 10000 p0 σ = some (-9223372036854775808 : Int64) := by simp [f_X_breaks, f_X_isListed, f_X_isPoint, f_X_isByPrime, hb.1]
    have e2 : f_M_breaks 10000 p0 σ = some (-9223372036854775808 : Int64) := by simp [f_M_breaks, f_M_isListed, f_M_isPoint, f_M_isGoodPrime, hb.2.1]
    exact ⟨(-9223372036854775808 : Int64), σ, σ, fun P' hp => c_X_breaks 137 p0 σ e1 hp, fun P' hp => c_M_breaks 138 p0 σ e2 hp, h.2.2.2.2.2.2.2.2.2.2.2.2, Or.inl ⟨T, n, len, h⟩⟩
  · have hR := h
    obtain ⟨⟨hc, hV, hT0⟩, ⟨hRX, hOR, hLN, hMK, hBS, hGI, hTR, hXH, hRM, hMH⟩, ⟨hXT, hMT, hZ9, hK1, hK9, hK7, hCP, hCM, hTD, hFl, hSC⟩⟩ := h
    obtain ⟨r, e1, e2⟩ := breaks_eq (N := 10000) (σ := σ) (τ := σ) hc (Nat.le_refl _) hRX hRM hCP p0
    exact ⟨r, σ, σ, fun P' hp => c_X_breaks 137 p0 σ e1 hp, fun P' hp => c_M_breaks 138 p0 σ e2 hp, hSC, Or.inr ⟨a, b, M, E, H, d, T, n, len, hR⟩⟩
theorem s_traces {xs : Nat → Int32} {Ls : Nat} {σ : aSt} (h : IV xs Ls σ) (p0 : Int32) : ∃ r σ1 σ2, (∀ P' : Option Value → aSt → Prop, P' (some (.long r)) σ1 → aCall MT 140 348 [.ref 0, .int p0] σ P') ∧ (∀ P' : Option Value → aSt → Prop, P' (some (.long r)) σ2 → aCall MT 140 349 [.ref 66, .int p0] σ1 P') ∧ SC xs Ls σ1 ∧ IV xs Ls σ2 := by
  rcases h with ⟨T, n, len, h⟩ | ⟨a, b, M, E, H, d, T, n, len, h⟩
  · have hb := h.2.1
    have e1 : f_X_traces 10000 p0 σ = some ((-9223372036854775808 : Int64), σ) := by simp [f_X_traces, f_X_isListed, f_X_isPoint, f_X_isByPrime, hb.1]
    have e2 : f_M_traces 10000 p0 σ = some (-9223372036854775808 : Int64) := by simp [f_M_traces, f_M_isListed, f_M_isPoint, f_M_isGoodPrime, hb.2.1]
    exact ⟨(-9223372036854775808 : Int64), σ, σ, fun P' hp => c_X_traces 135 p0 σ e1 hp, fun P' hp => c_M_traces 137 p0 σ e2 hp, h.2.2.2.2.2.2.2.2.2.2.2.2, Or.inl ⟨T, n, len, h⟩⟩
  · have hR := h
    obtain ⟨⟨hc, hV, hT0⟩, ⟨hRX, hOR, hLN, hMK, hBS, hGI, hTR, hXH, hRM, hMH⟩, ⟨hXT, hMT, hZ9, hK1, hK9, hK7, hCP, hCM, hTD, hFl, hSC⟩⟩ := h
    obtain ⟨r, σ1, e1, _, n_GI, fX⟩ := traces_eq (N := 10000) (σ := σ) (τ := σ) hc (Nat.le_refl _) hRX hRM hCP hGI p0
    have g1 := kp_frG fX hR n_GI
    obtain ⟨r', σ1', e1', e2, _⟩ := traces_eq (N := 10000) (σ := σ) (τ := σ1) hc (Nat.le_refl _) hRX g1.2.1.2.2.2.2.2.2.2.2.1 hCP hGI p0
    obtain ⟨q1, q2⟩ := Prod.mk.inj (Option.some.inj (e1.symm.trans e1'))
    subst q1; subst q2
    exact ⟨r, σ1, σ1, fun P' hp => c_X_traces 135 p0 σ e1 hp, fun P' hp => c_M_traces 137 p0 σ1 e2 hp, g1.2.2.2.2.2.2.2.2.2.2.2.2, Or.inr ⟨a, b, M, E, H, d, T, n, len, g1⟩⟩
theorem s_sorts {xs : Nat → Int32} {Ls : Nat} {σ : aSt} (h : IV xs Ls σ) (p0 p1 : Int32) : ∃ r σ1 σ2, (∀ P' : Option Value → aSt → Prop, P' (some (.int r)) σ1 → aCall MT 140 350 [.ref 0, .int p0, .int p1] σ P') ∧ (∀ P' : Option Value → aSt → Prop, P' (some (.int r)) σ2 → aCall MT 140 351 [.ref 66, .int p0, .int p1] σ1 P') ∧ SC xs Ls σ1 ∧ IV xs Ls σ2 := by
  rcases h with ⟨T, n, len, h⟩ | ⟨a, b, M, E, H, d, T, n, len, h⟩
  · have hb := h.2.1
    have e1 : f_X_sorts 10000 p0 p1 σ = some (-2 : Int32) := by simp [f_X_sorts, f_X_sorts_b5, f_X_isListed, f_X_isPoint, f_X_isByPrime, hb.1]
    have e2 : f_M_sorts 10000 p0 p1 σ = some (-2 : Int32) := by simp [f_M_sorts, f_M_isListed, f_M_isPoint, f_M_isGoodPrime, hb.2.1]
    exact ⟨(-2 : Int32), σ, σ, fun P' hp => c_X_sorts 136 p0 p1 σ e1 hp, fun P' hp => c_M_sorts 137 p0 p1 σ e2 hp, h.2.2.2.2.2.2.2.2.2.2.2.2, Or.inl ⟨T, n, len, h⟩⟩
  · have hR := h
    obtain ⟨⟨hc, hV, hT0⟩, ⟨hRX, hOR, hLN, hMK, hBS, hGI, hTR, hXH, hRM, hMH⟩, ⟨hXT, hMT, hZ9, hK1, hK9, hK7, hCP, hCM, hTD, hFl, hSC⟩⟩ := h
    obtain ⟨r, e1, e2⟩ := sorts_eq (N := 10000) (σ := σ) (τ := σ) (CVc_CV hc) (Nat.le_refl _) hRX hRM p0 p1
    exact ⟨r, σ, σ, fun P' hp => c_X_sorts 136 p0 p1 σ e1 hp, fun P' hp => c_M_sorts 137 p0 p1 σ e2 hp, hSC, Or.inr ⟨a, b, M, E, H, d, T, n, len, hR⟩⟩
