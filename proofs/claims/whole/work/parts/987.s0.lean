/-! the calls of the law, from invariant to invariant (printed by g987.py) -/
theorem s_point {xs : Nat → Int32} {Ls : Nat} {σ : aSt} (h : IV xs Ls σ) (p0 p1 : Int32) : ∃ r σ1 σ2, (∀ P' : Option Value → aSt → Prop, P' (some (.long r)) σ1 → aCall MT 140 78 [.ref 0, .int p0, .int p1] σ P') ∧ (∀ P' : Option Value → aSt → Prop, P' (some (.long r)) σ2 → aCall MT 140 80 [.ref 66, .int p0, .int p1] σ1 P') ∧ SC xs Ls σ1 ∧ IV xs Ls σ2 := by
  rcases h with ⟨T, n, len, h⟩ | ⟨a, b, M, E, H, d, T, n, len, h⟩
  · have hb := h.2.1
    have e1 : f_X_point p0 p1 σ = (-9223372036854775808 : Int64) := by simp [f_X_point, f_X_isListed, f_X_isPoint, f_X_isByPrime, hb.1]
    have e2 : f_M_point 10000 p0 p1 σ = some (-9223372036854775808 : Int64) := by simp [f_M_point, f_M_isListed, f_M_isPoint, f_M_isGoodPrime, hb.2.1]
    exact ⟨(-9223372036854775808 : Int64), σ, σ, fun P' hp => c_X_point 137 p0 p1 σ (by rw [e1]; exact hp), fun P' hp => c_M_point 137 p0 p1 σ e2 hp, h.2.2.2.2.2.2.2.2.2.2.2.2, Or.inl ⟨T, n, len, h⟩⟩
  · have hR := h
    obtain ⟨⟨hc, hV, hT0⟩, ⟨hRX, hOR, hLN, hMK, hBS, hGI, hTR, hXH, hRM, hMH⟩, ⟨hXT, hMT, hZ9, hK1, hK9, hK7, hCP, hCM, hTD, hFl, hSC⟩⟩ := h
    have e2 := point_eq (N := 10000) (σ := σ) (τ := σ) (CVc_CV hc).1 hc.2.2.2.2.2.1 hc.2.2.2.2.2.2.2 hRX hRM p0 p1
    exact ⟨_, σ, σ, fun P' hp => c_X_point 137 p0 p1 σ hp, fun P' hp => c_M_point 137 p0 p1 σ e2 hp, hSC, Or.inr ⟨a, b, M, E, H, d, T, n, len, hR⟩⟩
theorem s_at {xs : Nat → Int32} {Ls : Nat} {σ : aSt} (h : IV xs Ls σ) (p0 p1 p2 : Int32) : ∃ r σ1 σ2, (∀ P' : Option Value → aSt → Prop, P' (some (.int r)) σ1 → aCall MT 140 82 [.ref 0, .int p0, .int p1, .int p2] σ P') ∧ (∀ P' : Option Value → aSt → Prop, P' (some (.int r)) σ2 → aCall MT 140 84 [.ref 66, .int p0, .int p1, .int p2] σ1 P') ∧ SC xs Ls σ1 ∧ IV xs Ls σ2 := by
  rcases h with ⟨T, n, len, h⟩ | ⟨a, b, M, E, H, d, T, n, len, h⟩
  · have hb := h.2.1
    have e1 : f_X_at 10000 p0 p1 p2 σ = some (-2 : Int32) := by simp [f_X_at, f_X_isListed, f_X_isPoint, f_X_isByPrime, hb.1]
    have e2 : f_M_at 10000 p0 p1 p2 σ = some (-2 : Int32) := by simp [f_M_at, f_M_isListed, f_M_isPoint, f_M_isGoodPrime, hb.2.1]
    exact ⟨(-2 : Int32), σ, σ, fun P' hp => c_X_at 138 p0 p1 p2 σ e1 hp, fun P' hp => c_M_at 138 p0 p1 p2 σ e2 hp, h.2.2.2.2.2.2.2.2.2.2.2.2, Or.inl ⟨T, n, len, h⟩⟩
  · have hR := h
    obtain ⟨⟨hc, hV, hT0⟩, ⟨hRX, hOR, hLN, hMK, hBS, hGI, hTR, hXH, hRM, hMH⟩, ⟨hXT, hMT, hZ9, hK1, hK9, hK7, hCP, hCM, hTD, hFl, hSC⟩⟩ := h
    obtain ⟨r, e1, e2⟩ := at_eq (N := 10000) (σ := σ) (τ := σ) (CVc_CV hc) (Nat.le_refl _) hRX hRM p0 p1 p2
    exact ⟨r, σ, σ, fun P' hp => c_X_at 138 p0 p1 p2 σ e1 hp, fun P' hp => c_M_at 138 p0 p1 p2 σ e2 hp, hSC, Or.inr ⟨a, b, M, E, H, d, T, n, len, hR⟩⟩
theorem s_turned {xs : Nat → Int32} {Ls : Nat} {σ : aSt} (h : IV xs Ls σ) (p0 : Int32) : ∃ r σ1 σ2, (∀ P' : Option Value → aSt → Prop, P' (some (.int r)) σ1 → aCall MT 140 89 [.ref 0, .int p0] σ P') ∧ (∀ P' : Option Value → aSt → Prop, P' (some (.int r)) σ2 → aCall MT 140 93 [.ref 66, .int p0] σ1 P') ∧ SC xs Ls σ1 ∧ IV xs Ls σ2 := by
  rcases h with ⟨T, n, len, h⟩ | ⟨a, b, M, E, H, d, T, n, len, h⟩
  · have hb := h.2.1
    have e1 : f_X_turned p0 σ = (-2 : Int32) := by simp [f_X_turned, f_X_isListed, f_X_isPoint, f_X_isByPrime, hb.1]
    have e2 : f_M_turned 10000 p0 σ = some (-2 : Int32) := by simp [f_M_turned, f_M_isListed, f_M_isPoint, f_M_isGoodPrime, hb.2.1]
    exact ⟨(-2 : Int32), σ, σ, fun P' hp => c_X_turned 136 p0 σ (by rw [e1]; exact hp), fun P' hp => c_M_turned 136 p0 σ e2 hp, h.2.2.2.2.2.2.2.2.2.2.2.2, Or.inl ⟨T, n, len, h⟩⟩
  · have hR := h
    obtain ⟨⟨hc, hV, hT0⟩, ⟨hRX, hOR, hLN, hMK, hBS, hGI, hTR, hXH, hRM, hMH⟩, ⟨hXT, hMT, hZ9, hK1, hK9, hK7, hCP, hCM, hTD, hFl, hSC⟩⟩ := h
    have e2 := turned_eq (N := 10000) (σ := σ) (τ := σ) (CVc_CV hc) (Nat.le_refl _) hRX hRM p0
    exact ⟨_, σ, σ, fun P' hp => c_X_turned 136 p0 σ hp, fun P' hp => c_M_turned 136 p0 σ e2 hp, hSC, Or.inr ⟨a, b, M, E, H, d, T, n, len, hR⟩⟩
theorem s_sum {xs : Nat → Int32} {Ls : Nat} {σ : aSt} (h : IV xs Ls σ) (p0 p1 : Int32) : ∃ r σ1 σ2, (∀ P' : Option Value → aSt → Prop, P' (some (.int r)) σ1 → aCall MT 140 102 [.ref 0, .int p0, .int p1] σ P') ∧ (∀ P' : Option Value → aSt → Prop, P' (some (.int r)) σ2 → aCall MT 140 106 [.ref 66, .int p0, .int p1] σ1 P') ∧ SC xs Ls σ1 ∧ IV xs Ls σ2 := by
  rcases h with ⟨T, n, len, h⟩ | ⟨a, b, M, E, H, d, T, n, len, h⟩
  · have hb := h.2.1
    have e1 : f_X_sum 10000 p0 p1 σ = some ((-2 : Int32), σ) := by simp [f_X_sum, f_X_isListed, f_X_isPoint, f_X_isByPrime, hb.1]
    have e2 : f_M_sum 10000 p0 p1 σ = some ((-2 : Int32), σ) := by simp [f_M_sum, f_M_isListed, f_M_isPoint, f_M_isGoodPrime, hb.2.1]
    exact ⟨(-2 : Int32), σ, σ, fun P' hp => c_X_sum 135 p0 p1 σ e1 hp, fun P' hp => c_M_sum 135 p0 p1 σ e2 hp, h.2.2.2.2.2.2.2.2.2.2.2.2, Or.inl ⟨T, n, len, h⟩⟩
  · have hR := h
    obtain ⟨⟨hc, hV, hT0⟩, ⟨hRX, hOR, hLN, hMK, hBS, hGI, hTR, hXH, hRM, hMH⟩, ⟨hXT, hMT, hZ9, hK1, hK9, hK7, hCP, hCM, hTD, hFl, hSC⟩⟩ := h
    obtain ⟨r, σ1, t1, e1, _, fX, fM⟩ := sum_eq (N := 10000) (σ := σ) (τ := σ) (CVc_CV hc) (Nat.le_refl _) hRX hRM p0 p1
    have g1 := kp_fr22 fX hR
    obtain ⟨r', σ1', σ2, e1', e2, fX2, fM2⟩ := sum_eq (N := 10000) (σ := σ) (τ := σ1) (CVc_CV hc) (Nat.le_refl _) hRX g1.2.1.2.2.2.2.2.2.2.2.1 p0 p1
    obtain ⟨q1, q2⟩ := Prod.mk.inj (Option.some.inj (e1.symm.trans e1'))
    subst q1; subst q2
    have g2 := kp_fr23 fM2 g1
    exact ⟨r, σ1, σ2, fun P' hp => c_X_sum 135 p0 p1 σ e1 hp, fun P' hp => c_M_sum 135 p0 p1 σ1 e2 hp, g1.2.2.2.2.2.2.2.2.2.2.2.2, Or.inr ⟨a, b, M, E, H, d, T, n, len, g2⟩⟩
theorem s_of {xs : Nat → Int32} {Ls : Nat} {σ : aSt} (h : IV xs Ls σ) (p0 p1 p2 p3 : Int32) : ∃ r σ1 σ2, (∀ P' : Option Value → aSt → Prop, P' (some (.long r)) σ1 → aCall MT 140 113 [.ref 0, .int p0, .int p1, .int p2, .int p3] σ P') ∧ (∀ P' : Option Value → aSt → Prop, P' (some (.long r)) σ2 → aCall MT 140 115 [.ref 66, .int p0, .int p1, .int p2, .int p3] σ1 P') ∧ SC xs Ls σ1 ∧ IV xs Ls σ2 := by
  rcases h with ⟨T, n, len, h⟩ | ⟨a, b, M, E, H, d, T, n, len, h⟩
  · have hb := h.2.1
    have e1 : f_X_of 10000 p0 p1 p2 p3 σ = some ((-9223372036854775808 : Int64), σ) := by simp [f_X_of, f_X_isListed, f_X_isPoint, f_X_isByPrime, hb.1]
    have e2 : f_M_of 10000 p0 p1 p2 p3 σ = some ((-9223372036854775808 : Int64), σ) := by simp [f_M_of, f_M_isListed, f_M_isPoint, f_M_isGoodPrime, hb.2.1]
    exact ⟨(-9223372036854775808 : Int64), σ, σ, fun P' hp => c_X_of 136 p0 p1 p2 p3 σ e1 hp, fun P' hp => c_M_of 136 p0 p1 p2 p3 σ e2 hp, h.2.2.2.2.2.2.2.2.2.2.2.2, Or.inl ⟨T, n, len, h⟩⟩
  · have hR := h
    obtain ⟨⟨hc, hV, hT0⟩, ⟨hRX, hOR, hLN, hMK, hBS, hGI, hTR, hXH, hRM, hMH⟩, ⟨hXT, hMT, hZ9, hK1, hK9, hK7, hCP, hCM, hTD, hFl, hSC⟩⟩ := h
    obtain ⟨r, σ1, t1, e1, _, fX, fM⟩ := of_eq (N := 10000) (σ := σ) (τ := σ) (CVc_CV hc) (Nat.le_refl _) hRX hRM p0 p1 p2 p3
    have g1 := kp_fr22 fX hR
    obtain ⟨r', σ1', σ2, e1', e2, fX2, fM2⟩ := of_eq (N := 10000) (σ := σ) (τ := σ1) (CVc_CV hc) (Nat.le_refl _) hRX g1.2.1.2.2.2.2.2.2.2.2.1 p0 p1 p2 p3
    obtain ⟨q1, q2⟩ := Prod.mk.inj (Option.some.inj (e1.symm.trans e1'))
    subst q1; subst q2
    have g2 := kp_fr23 fM2 g1
    exact ⟨r, σ1, σ2, fun P' hp => c_X_of 136 p0 p1 p2 p3 σ e1 hp, fun P' hp => c_M_of 136 p0 p1 p2 p3 σ1 e2 hp, g1.2.2.2.2.2.2.2.2.2.2.2.2, Or.inr ⟨a, b, M, E, H, d, T, n, len, g2⟩⟩
theorem s_times {xs : Nat → Int32} {Ls : Nat} {σ : aSt} (h : IV xs Ls σ) (p0 p1 : Int32) : ∃ r σ1 σ2, (∀ P' : Option Value → aSt → Prop, P' (some (.int r)) σ1 → aCall MT 140 117 [.ref 0, .int p0, .int p1] σ P') ∧ (∀ P' : Option Value → aSt → Prop, P' (some (.int r)) σ2 → aCall MT 140 119 [.ref 66, .int p0, .int p1] σ1 P') ∧ SC xs Ls σ1 ∧ IV xs Ls σ2 := by
  rcases h with ⟨T, n, len, h⟩ | ⟨a, b, M, E, H, d, T, n, len, h⟩
  · have hb := h.2.1
    have e1 : f_X_times 10000 p0 p1 σ = some ((-2 : Int32), σ) := by simp [f_X_times, f_X_isListed, f_X_isPoint, f_X_isByPrime, hb.1]
    have e2 : f_M_times 10000 p0 p1 σ = some ((-2 : Int32), σ) := by simp [f_M_times, f_M_isListed, f_M_isPoint, f_M_isGoodPrime, hb.2.1]
    exact ⟨(-2 : Int32), σ, σ, fun P' hp => c_X_times 134 p0 p1 σ e1 hp, fun P' hp => c_M_times 134 p0 p1 σ e2 hp, h.2.2.2.2.2.2.2.2.2.2.2.2, Or.inl ⟨T, n, len, h⟩⟩
  · have hR := h
    obtain ⟨⟨hc, hV, hT0⟩, ⟨hRX, hOR, hLN, hMK, hBS, hGI, hTR, hXH, hRM, hMH⟩, ⟨hXT, hMT, hZ9, hK1, hK9, hK7, hCP, hCM, hTD, hFl, hSC⟩⟩ := h
    obtain ⟨r, σ1, t1, e1, _, fX, fM⟩ := times_eq (N := 10000) (σ := σ) (τ := σ) (CVc_CV hc) (Nat.le_refl _) hRX hRM p0 p1
    have g1 := kp_fr22 fX hR
    obtain ⟨r', σ1', σ2, e1', e2, fX2, fM2⟩ := times_eq (N := 10000) (σ := σ) (τ := σ1) (CVc_CV hc) (Nat.le_refl _) hRX g1.2.1.2.2.2.2.2.2.2.2.1 p0 p1
    obtain ⟨q1, q2⟩ := Prod.mk.inj (Option.some.inj (e1.symm.trans e1'))
    subst q1; subst q2
    have g2 := kp_fr23 fM2 g1
    exact ⟨r, σ1, σ2, fun P' hp => c_X_times 134 p0 p1 σ e1 hp, fun P' hp => c_M_times 134 p0 p1 σ1 e2 hp, g1.2.2.2.2.2.2.2.2.2.2.2.2, Or.inr ⟨a, b, M, E, H, d, T, n, len, g2⟩⟩
theorem s_order {xs : Nat → Int32} {Ls : Nat} {σ : aSt} (h : IV xs Ls σ) (p0 : Int32) : ∃ r σ1 σ2, (∀ P' : Option Value → aSt → Prop, P' (some (.int r)) σ1 → aCall MT 140 121 [.ref 0, .int p0] σ P') ∧ (∀ P' : Option Value → aSt → Prop, P' (some (.int r)) σ2 → aCall MT 140 123 [.ref 66, .int p0] σ1 P') ∧ SC xs Ls σ1 ∧ IV xs Ls σ2 := by
  rcases h with ⟨T, n, len, h⟩ | ⟨a, b, M, E, H, d, T, n, len, h⟩
  · have hb := h.2.1
    have e1 : f_X_order 10000 p0 σ = some ((-2 : Int32), σ) := by simp [f_X_order, f_X_isListed, f_X_isPoint, f_X_isByPrime, hb.1]
    have e2 : f_M_order 10000 p0 σ = some ((-2 : Int32), σ) := by simp [f_M_order, f_M_isListed, f_M_isPoint, f_M_isGoodPrime, hb.2.1]
    exact ⟨(-2 : Int32), σ, σ, fun P' hp => c_X_order 134 p0 σ e1 hp, fun P' hp => c_M_order 134 p0 σ e2 hp, h.2.2.2.2.2.2.2.2.2.2.2.2, Or.inl ⟨T, n, len, h⟩⟩
  · have hR := h
    obtain ⟨⟨hc, hV, hT0⟩, ⟨hRX, hOR, hLN, hMK, hBS, hGI, hTR, hXH, hRM, hMH⟩, ⟨hXT, hMT, hZ9, hK1, hK9, hK7, hCP, hCM, hTD, hFl, hSC⟩⟩ := h
    obtain ⟨r, σ1, t1, e1, _, fX, n_OR, fM⟩ := order_eq (N := 10000) (σ := σ) (τ := σ) (CVc_CV hc) (Nat.le_refl _) hRX hOR hRM p0
    have g1 := kp_fr2 fX hR n_OR
    obtain ⟨r', σ1', σ2, e1', e2, fX2, n_OR2, fM2⟩ := order_eq (N := 10000) (σ := σ) (τ := σ1) (CVc_CV hc) (Nat.le_refl _) hRX hOR g1.2.1.2.2.2.2.2.2.2.2.1 p0
    obtain ⟨q1, q2⟩ := Prod.mk.inj (Option.some.inj (e1.symm.trans e1'))
    subst q1; subst q2
    have g2 := kp_fr23 fM2 g1
    exact ⟨r, σ1, σ2, fun P' hp => c_X_order 134 p0 σ e1 hp, fun P' hp => c_M_order 134 p0 σ1 e2 hp, g1.2.2.2.2.2.2.2.2.2.2.2.2, Or.inr ⟨a, b, M, E, H, d, T, n, len, g2⟩⟩
theorem s_round {xs : Nat → Int32} {Ls : Nat} {σ : aSt} (h : IV xs Ls σ) (p0 : Int32) : ∃ r σ1 σ2, (∀ P' : Option Value → aSt → Prop, P' (some (.int r)) σ1 → aCall MT 140 124 [.ref 0, .int p0] σ P') ∧ (∀ P' : Option Value → aSt → Prop, P' (some (.int r)) σ2 → aCall MT 140 125 [.ref 66, .int p0] σ1 P') ∧ SC xs Ls σ1 ∧ IV xs Ls σ2 := by
  rcases h with ⟨T, n, len, h⟩ | ⟨a, b, M, E, H, d, T, n, len, h⟩
  · have hb := h.2.1
    have e1 : f_X_round 10000 p0 σ = some ((-2 : Int32), σ) := by simp [f_X_round, f_X_isListed, f_X_isPoint, f_X_isByPrime, hb.1]
    have e2 : f_M_round 10000 p0 σ = some ((-2 : Int32), σ) := by simp [f_M_round, f_M_isListed, f_M_isPoint, f_M_isGoodPrime, hb.2.1]
    exact ⟨(-2 : Int32), σ, σ, fun P' hp => c_X_round 134 p0 σ e1 hp, fun P' hp => c_M_round 134 p0 σ e2 hp, h.2.2.2.2.2.2.2.2.2.2.2.2, Or.inl ⟨T, n, len, h⟩⟩
  · have hR := h
    obtain ⟨⟨hc, hV, hT0⟩, ⟨hRX, hOR, hLN, hMK, hBS, hGI, hTR, hXH, hRM, hMH⟩, ⟨hXT, hMT, hZ9, hK1, hK9, hK7, hCP, hCM, hTD, hFl, hSC⟩⟩ := h
    obtain ⟨r, σ1, t1, e1, _, fX, n_OR, fM⟩ := round_eq (N := 10000) (σ := σ) (τ := σ) (CVc_CV hc) (Nat.le_refl _) hRX hOR hRM p0
    have g1 := kp_fr2 fX hR n_OR
    obtain ⟨r', σ1', σ2, e1', e2, fX2, n_OR2, fM2⟩ := round_eq (N := 10000) (σ := σ) (τ := σ1) (CVc_CV hc) (Nat.le_refl _) hRX hOR g1.2.1.2.2.2.2.2.2.2.2.1 p0
    obtain ⟨q1, q2⟩ := Prod.mk.inj (Option.some.inj (e1.symm.trans e1'))
    subst q1; subst q2
    have g2 := kp_fr23 fM2 g1
    exact ⟨r, σ1, σ2, fun P' hp => c_X_round 134 p0 σ e1 hp, fun P' hp => c_M_round 134 p0 σ1 e2 hp, g1.2.2.2.2.2.2.2.2.2.2.2.2, Or.inr ⟨a, b, M, E, H, d, T, n, len, g2⟩⟩
theorem s_many {xs : Nat → Int32} {Ls : Nat} {σ : aSt} (h : IV xs Ls σ) (p0 : Int32) : ∃ r σ1 σ2, (∀ P' : Option Value → aSt → Prop, P' (some (.int r)) σ1 → aCall MT 140 144 [.ref 0, .int p0] σ P') ∧ (∀ P' : Option Value → aSt → Prop, P' (some (.int r)) σ2 → aCall MT 140 149 [.ref 66, .int p0] σ1 P') ∧ SC xs Ls σ1 ∧ IV xs Ls σ2 := by
  rcases h with ⟨T, n, len, h⟩ | ⟨a, b, M, E, H, d, T, n, len, h⟩
  · have hb := h.2.1
    have e1 : f_X_many 10000 p0 σ = some ((-2 : Int32), σ) := by simp [f_X_many, f_X_isListed, f_X_isPoint, f_X_isByPrime, hb.1]
    have e2 : f_M_many 10000 p0 σ = some (-2 : Int32) := by simp [f_M_many, f_M_isListed, f_M_isPoint, f_M_isGoodPrime, hb.2.1]
    exact ⟨(-2 : Int32), σ, σ, fun P' hp => c_X_many 135 p0 σ e1 hp, fun P' hp => c_M_many 137 p0 σ e2 hp, h.2.2.2.2.2.2.2.2.2.2.2.2, Or.inl ⟨T, n, len, h⟩⟩
  · have hR := h
    obtain ⟨⟨hc, hV, hT0⟩, ⟨hRX, hOR, hLN, hMK, hBS, hGI, hTR, hXH, hRM, hMH⟩, ⟨hXT, hMT, hZ9, hK1, hK9, hK7, hCP, hCM, hTD, hFl, hSC⟩⟩ := h
    obtain ⟨r, σ1, e1, _, n_GI, fX⟩ := many_eq (N := 10000) (σ := σ) (τ := σ) hc (Nat.le_refl _) hRX hRM hCP hGI p0
    have g1 := kp_frG fX hR n_GI
    obtain ⟨r', σ1', e1', e2, _⟩ := many_eq (N := 10000) (σ := σ) (τ := σ1) hc (Nat.le_refl _) hRX g1.2.1.2.2.2.2.2.2.2.2.1 hCP hGI p0
    obtain ⟨q1, q2⟩ := Prod.mk.inj (Option.some.inj (e1.symm.trans e1'))
    subst q1; subst q2
    exact ⟨r, σ1, σ1, fun P' hp => c_X_many 135 p0 σ e1 hp, fun P' hp => c_M_many 137 p0 σ1 e2 hp, g1.2.2.2.2.2.2.2.2.2.2.2.2, Or.inr ⟨a, b, M, E, H, d, T, n, len, g1⟩⟩
theorem s_orderBy {xs : Nat → Int32} {Ls : Nat} {σ : aSt} (h : IV xs Ls σ) (p0 p1 : Int32) : ∃ r σ1 σ2, (∀ P' : Option Value → aSt → Prop, P' (some (.int r)) σ1 → aCall MT 140 154 [.ref 0, .int p0, .int p1] σ P') ∧ (∀ P' : Option Value → aSt → Prop, P' (some (.int r)) σ2 → aCall MT 140 159 [.ref 66, .int p0, .int p1] σ1 P') ∧ SC xs Ls σ1 ∧ IV xs Ls σ2 := by
  rcases h with ⟨T, n, len, h⟩ | ⟨a, b, M, E, H, d, T, n, len, h⟩
  · have hb := h.2.1
    have e1 : f_X_orderBy 10000 p0 p1 σ = some ((-2 : Int32), σ) := by simp [f_X_orderBy, f_X_isListed, f_X_isPoint, f_X_isByPrime, hb.1]
    have e2 : f_M_orderBy 10000 p0 p1 σ = some ((-2 : Int32), σ) := by simp [f_M_orderBy, f_M_isListed, f_M_isPoint, f_M_isGoodPrime, hb.2.1]
    exact ⟨(-2 : Int32), σ, σ, fun P' hp => c_X_orderBy 135 p0 p1 σ e1 hp, fun P' hp => c_M_orderBy 136 p0 p1 σ e2 hp, h.2.2.2.2.2.2.2.2.2.2.2.2, Or.inl ⟨T, n, len, h⟩⟩
  · have hR := h
    obtain ⟨⟨hc, hV, hT0⟩, ⟨hRX, hOR, hLN, hMK, hBS, hGI, hTR, hXH, hRM, hMH⟩, ⟨hXT, hMT, hZ9, hK1, hK9, hK7, hCP, hCM, hTD, hFl, hSC⟩⟩ := h
    obtain ⟨r, σ1, t1, e1, _, n_GI, fX, fM⟩ := orderBy_eq (N := 10000) (σ := σ) (τ := σ) hc (Nat.le_refl _) hRX hRM hCP hGI p0 p1
    have g1 := kp_frG fX hR n_GI
    obtain ⟨r', σ1', σ2, e1', e2, n_GI2, fX2, fM2⟩ := orderBy_eq (N := 10000) (σ := σ) (τ := σ1) hc (Nat.le_refl _) hRX g1.2.1.2.2.2.2.2.2.2.2.1 hCP hGI p0 p1
    obtain ⟨q1, q2⟩ := Prod.mk.inj (Option.some.inj (e1.symm.trans e1'))
    subst q1; subst q2
    have g2 := kp_frBP fM2 g1
    exact ⟨r, σ1, σ2, fun P' hp => c_X_orderBy 135 p0 p1 σ e1 hp, fun P' hp => c_M_orderBy 136 p0 p1 σ1 e2 hp, g1.2.2.2.2.2.2.2.2.2.2.2.2, Or.inr ⟨a, b, M, E, H, d, T, n, len, g2⟩⟩
theorem s_bound {xs : Nat → Int32} {Ls : Nat} {σ : aSt} (h : IV xs Ls σ) : ∃ r σ1 σ2, (∀ P' : Option Value → aSt → Prop, P' (some (.int r)) σ1 → aCall MT 140 160 [.ref 0] σ P') ∧ (∀ P' : Option Value → aSt → Prop, P' (some (.int r)) σ2 → aCall MT 140 161 [.ref 66] σ1 P') ∧ SC xs Ls σ1 ∧ IV xs Ls σ2 := by
  rcases h with ⟨T, n, len, h⟩ | ⟨a, b, M, E, H, d, T, n, len, h⟩
  · have hb := h.2.1
    have e1 : f_X_bound 10000 σ = some ((-2 : Int32), σ) := by simp [f_X_bound, f_X_isListed, f_X_isPoint, f_X_isByPrime, hb.1]
    have e2 : f_M_bound 10000 σ = some (-2 : Int32) := by simp [f_M_bound, f_M_isListed, f_M_isPoint, f_M_isGoodPrime, hb.2.1]
    exact ⟨(-2 : Int32), σ, σ, fun P' hp => c_X_bound 135  σ e1 hp, fun P' hp => c_M_bound 137  σ e2 hp, h.2.2.2.2.2.2.2.2.2.2.2.2, Or.inl ⟨T, n, len, h⟩⟩
  · have hR := h
    obtain ⟨⟨hc, hV, hT0⟩, ⟨hRX, hOR, hLN, hMK, hBS, hGI, hTR, hXH, hRM, hMH⟩, ⟨hXT, hMT, hZ9, hK1, hK9, hK7, hCP, hCM, hTD, hFl, hSC⟩⟩ := h
    obtain ⟨r, σ1, e1, _, n_GI, fX⟩ := bound_eq (N := 10000) (σ := σ) (τ := σ) hc (Nat.le_refl _) hRX hRM hCP hGI
    have g1 := kp_frG fX hR n_GI
    obtain ⟨r', σ1', e1', e2, _⟩ := bound_eq (N := 10000) (σ := σ) (τ := σ1) hc (Nat.le_refl _) hRX g1.2.1.2.2.2.2.2.2.2.2.1 hCP hGI
    obtain ⟨q1, q2⟩ := Prod.mk.inj (Option.some.inj (e1.symm.trans e1'))
    subst q1; subst q2
    exact ⟨r, σ1, σ1, fun P' hp => c_X_bound 135  σ e1 hp, fun P' hp => c_M_bound 137  σ1 e2 hp, g1.2.2.2.2.2.2.2.2.2.2.2.2, Or.inr ⟨a, b, M, E, H, d, T, n, len, g1⟩⟩
theorem s_trace {xs : Nat → Int32} {Ls : Nat} {σ : aSt} (h : IV xs Ls σ) (p0 : Int32) : ∃ r σ1 σ2, (∀ P' : Option Value → aSt → Prop, P' (some (.long r)) σ1 → aCall MT 140 162 [.ref 0, .int p0] σ P') ∧ (∀ P' : Option Value → aSt → Prop, P' (some (.long r)) σ2 → aCall MT 140 163 [.ref 66, .int p0] σ1 P') ∧ SC xs Ls σ1 ∧ IV xs Ls σ2 := by
  rcases h with ⟨T, n, len, h⟩ | ⟨a, b, M, E, H, d, T, n, len, h⟩
  · have hb := h.2.1
    have e1 : f_X_trace 10000 p0 σ = some ((-9223372036854775808 : Int64), σ) := by simp [f_X_trace, f_X_isListed, f_X_isPoint, f_X_isByPrime, hb.1]
    have e2 : f_M_trace 10000 p0 σ = some (-9223372036854775808 : Int64) := by simp [f_M_trace, f_M_isListed, f_M_isPoint, f_M_isGoodPrime, hb.2.1]
    exact ⟨(-9223372036854775808 : Int64), σ, σ, fun P' hp => c_X_trace 135 p0 σ e1 hp, fun P' hp => c_M_trace 137 p0 σ e2 hp, h.2.2.2.2.2.2.2.2.2.2.2.2, Or.inl ⟨T, n, len, h⟩⟩
  · have hR := h
    obtain ⟨⟨hc, hV, hT0⟩, ⟨hRX, hOR, hLN, hMK, hBS, hGI, hTR, hXH, hRM, hMH⟩, ⟨hXT, hMT, hZ9, hK1, hK9, hK7, hCP, hCM, hTD, hFl, hSC⟩⟩ := h
    obtain ⟨r, σ1, e1, _, n_GI, fX⟩ := trace_eq (N := 10000) (σ := σ) (τ := σ) hc (Nat.le_refl _) hRX hRM hCP hGI p0
    have g1 := kp_frG fX hR n_GI
    obtain ⟨r', σ1', e1', e2, _⟩ := trace_eq (N := 10000) (σ := σ) (τ := σ1) hc (Nat.le_refl _) hRX g1.2.1.2.2.2.2.2.2.2.2.1 hCP hGI p0
    obtain ⟨q1, q2⟩ := Prod.mk.inj (Option.some.inj (e1.symm.trans e1'))
    subst q1; subst q2
    exact ⟨r, σ1, σ1, fun P' hp => c_X_trace 135 p0 σ e1 hp, fun P' hp => c_M_trace 137 p0 σ1 e2 hp, g1.2.2.2.2.2.2.2.2.2.2.2.2, Or.inr ⟨a, b, M, E, H, d, T, n, len, g1⟩⟩
theorem s_classes {xs : Nat → Int32} {Ls : Nat} {σ : aSt} (h : IV xs Ls σ) (p0 p1 : Int32) : ∃ r σ1 σ2, (∀ P' : Option Value → aSt → Prop, P' (some (.int r)) σ1 → aCall MT 140 180 [.ref 0, .int p0, .int p1] σ P') ∧ (∀ P' : Option Value → aSt → Prop, P' (some (.int r)) σ2 → aCall MT 140 192 [.ref 66, .int p0, .int p1] σ1 P') ∧ SC xs Ls σ1 ∧ IV xs Ls σ2 := by
  rcases h with ⟨T, n, len, h⟩ | ⟨a, b, M, E, H, d, T, n, len, h⟩
  · have hb := h.2.1
    have e1 : f_X_classes 10000 p0 p1 σ = some ((-2 : Int32), σ) := by simp [f_X_classes, f_X_isListed, f_X_isPoint, f_X_isByPrime, hb.1]
    have e2 : f_M_classes 10000 p0 p1 σ = some ((-2 : Int32), σ) := by simp [f_M_classes, f_M_isListed, f_M_isPoint, f_M_isGoodPrime, hb.2.1]
    exact ⟨(-2 : Int32), σ, σ, fun P' hp => c_X_classes 132 p0 p1 σ e1 hp, fun P' hp => c_M_classes 135 p0 p1 σ e2 hp, h.2.2.2.2.2.2.2.2.2.2.2.2, Or.inl ⟨T, n, len, h⟩⟩
  · have hR := h
    obtain ⟨⟨hc, hV, hT0⟩, ⟨hRX, hOR, hLN, hMK, hBS, hGI, hTR, hXH, hRM, hMH⟩, ⟨hXT, hMT, hZ9, hK1, hK9, hK7, hCP, hCM, hTD, hFl, hSC⟩⟩ := h
    obtain ⟨r, σ1, t1, e1, _, n_KT_41, n_KT_49, fX, fM⟩ := classes_eq (N := 10000) (σ := σ) (τ := σ) hc (Nat.le_refl _) hRX hRM hCM hK1 hK9 p0 p1
    have g1 := kp_frCQ fX hR n_KT_41 n_KT_49
    obtain ⟨r', σ1', σ2, e1', e2, n_KT_412, n_KT_492, fX2, fM2⟩ := classes_eq (N := 10000) (σ := σ) (τ := σ1) hc (Nat.le_refl _) hRX g1.2.1.2.2.2.2.2.2.2.2.1 hCM hK1 hK9 p0 p1
    obtain ⟨q1, q2⟩ := Prod.mk.inj (Option.some.inj (e1.symm.trans e1'))
    subst q1; subst q2
    have g2 := kp_frSi fM2 g1
    exact ⟨r, σ1, σ2, fun P' hp => c_X_classes 132 p0 p1 σ e1 hp, fun P' hp => c_M_classes 135 p0 p1 σ1 e2 hp, g1.2.2.2.2.2.2.2.2.2.2.2.2, Or.inr ⟨a, b, M, E, H, d, T, n, len, g2⟩⟩
theorem s_classOf {xs : Nat → Int32} {Ls : Nat} {σ : aSt} (h : IV xs Ls σ) (p0 p1 p2 : Int32) : ∃ r σ1 σ2, (∀ P' : Option Value → aSt → Prop, P' (some (.long r)) σ1 → aCall MT 140 197 [.ref 0, .int p0, .int p1, .int p2] σ P') ∧ (∀ P' : Option Value → aSt → Prop, P' (some (.long r)) σ2 → aCall MT 140 198 [.ref 66, .int p0, .int p1, .int p2] σ1 P') ∧ SC xs Ls σ1 ∧ IV xs Ls σ2 := by
  rcases h with ⟨T, n, len, h⟩ | ⟨a, b, M, E, H, d, T, n, len, h⟩
  · have hb := h.2.1
    have e1 : f_X_classOf 10000 p0 p1 p2 σ = some ((-9223372036854775808 : Int64), σ) := by simp [f_X_classOf, f_X_isListed, f_X_isPoint, f_X_isByPrime, hb.1]
    have e2 : f_M_classOf 10000 p0 p1 p2 σ = some ((-9223372036854775808 : Int64), σ) := by simp [f_M_classOf, f_M_isListed, f_M_isPoint, f_M_isGoodPrime, hb.2.1]
    exact ⟨(-9223372036854775808 : Int64), σ, σ, fun P' hp => c_X_classOf 132 p0 p1 p2 σ e1 hp, fun P' hp => c_M_classOf 135 p0 p1 p2 σ e2 hp, h.2.2.2.2.2.2.2.2.2.2.2.2, Or.inl ⟨T, n, len, h⟩⟩
  · have hR := h
    obtain ⟨⟨hc, hV, hT0⟩, ⟨hRX, hOR, hLN, hMK, hBS, hGI, hTR, hXH, hRM, hMH⟩, ⟨hXT, hMT, hZ9, hK1, hK9, hK7, hCP, hCM, hTD, hFl, hSC⟩⟩ := h
    obtain ⟨r, σ1, t1, e1, _, n_KT_41, n_KT_49, fX, fM⟩ := classOf_eq (N := 10000) (σ := σ) (τ := σ) hc (Nat.le_refl _) hRX hRM hCM hK1 hK9 p0 p1 p2
    have g1 := kp_frCQ fX hR n_KT_41 n_KT_49
    obtain ⟨r', σ1', σ2, e1', e2, n_KT_412, n_KT_492, fX2, fM2⟩ := classOf_eq (N := 10000) (σ := σ) (τ := σ1) hc (Nat.le_refl _) hRX g1.2.1.2.2.2.2.2.2.2.2.1 hCM hK1 hK9 p0 p1 p2
    obtain ⟨q1, q2⟩ := Prod.mk.inj (Option.some.inj (e1.symm.trans e1'))
    subst q1; subst q2
    have g2 := kp_frSi fM2 g1
    exact ⟨r, σ1, σ2, fun P' hp => c_X_classOf 132 p0 p1 p2 σ e1 hp, fun P' hp => c_M_classOf 135 p0 p1 p2 σ1 e2 hp, g1.2.2.2.2.2.2.2.2.2.2.2.2, Or.inr ⟨a, b, M, E, H, d, T, n, len, g2⟩⟩
theorem s_rank {xs : Nat → Int32} {Ls : Nat} {σ : aSt} (h : IV xs Ls σ) (p0 : Int32) : ∃ r σ1 σ2, (∀ P' : Option Value → aSt → Prop, P' (some (.int r)) σ1 → aCall MT 140 201 [.ref 0, .int p0] σ P') ∧ (∀ P' : Option Value → aSt → Prop, P' (some (.int r)) σ2 → aCall MT 140 203 [.ref 66, .int p0] σ1 P') ∧ SC xs Ls σ1 ∧ IV xs Ls σ2 := by
  rcases h with ⟨T, n, len, h⟩ | ⟨a, b, M, E, H, d, T, n, len, h⟩
  · have hb := h.2.1
    have e1 : f_X_rank 10000 p0 σ = some ((-2 : Int32), σ) := by simp [f_X_rank, f_X_isListed, f_X_isPoint, f_X_isByPrime, hb.1]
    have e2 : f_M_rank 10000 p0 σ = some ((-2 : Int32), σ) := by simp [f_M_rank, f_M_isListed, f_M_isPoint, f_M_isGoodPrime, hb.2.1]
    exact ⟨(-2 : Int32), σ, σ, fun P' hp => c_X_rank 132 p0 σ e1 hp, fun P' hp => c_M_rank 135 p0 σ e2 hp, h.2.2.2.2.2.2.2.2.2.2.2.2, Or.inl ⟨T, n, len, h⟩⟩
  · have hR := h
    obtain ⟨⟨hc, hV, hT0⟩, ⟨hRX, hOR, hLN, hMK, hBS, hGI, hTR, hXH, hRM, hMH⟩, ⟨hXT, hMT, hZ9, hK1, hK9, hK7, hCP, hCM, hTD, hFl, hSC⟩⟩ := h
    obtain ⟨r, σ1, t1, e1, _, n_KT_41, n_KT_49, fX, fM⟩ := rank_eq (N := 10000) (σ := σ) (τ := σ) hc (Nat.le_refl _) hRX hRM hCM hK1 hK9 p0
    have g1 := kp_frCQ fX hR n_KT_41 n_KT_49
    obtain ⟨r', σ1', σ2, e1', e2, n_KT_412, n_KT_492, fX2, fM2⟩ := rank_eq (N := 10000) (σ := σ) (τ := σ1) hc (Nat.le_refl _) hRX g1.2.1.2.2.2.2.2.2.2.2.1 hCM hK1 hK9 p0
    obtain ⟨q1, q2⟩ := Prod.mk.inj (Option.some.inj (e1.symm.trans e1'))
    subst q1; subst q2
    have g2 := kp_frSi fM2 g1
    exact ⟨r, σ1, σ2, fun P' hp => c_X_rank 132 p0 σ e1 hp, fun P' hp => c_M_rank 135 p0 σ1 e2 hp, g1.2.2.2.2.2.2.2.2.2.2.2.2, Or.inr ⟨a, b, M, E, H, d, T, n, len, g2⟩⟩
theorem s_classAt {xs : Nat → Int32} {Ls : Nat} {σ : aSt} (h : IV xs Ls σ) (p0 : Int32) : ∃ r σ1 σ2, (∀ P' : Option Value → aSt → Prop, P' (some (.long r)) σ1 → aCall MT 140 204 [.ref 0, .int p0] σ P') ∧ (∀ P' : Option Value → aSt → Prop, P' (some (.long r)) σ2 → aCall MT 140 206 [.ref 66, .int p0] σ1 P') ∧ SC xs Ls σ1 ∧ IV xs Ls σ2 := by
  rcases h with ⟨T, n, len, h⟩ | ⟨a, b, M, E, H, d, T, n, len, h⟩
  · have hb := h.2.1
    have e1 : f_X_classAt 10000 p0 σ = some (-9223372036854775808 : Int64) := by simp [f_X_classAt, f_X_isListed, f_X_isPoint, f_X_isByPrime, hb.1]
    have e2 : f_M_classAt 10000 p0 σ = some ((-9223372036854775808 : Int64), σ) := by simp [f_M_classAt, f_M_isListed, f_M_isPoint, f_M_isGoodPrime, hb.2.1]
    exact ⟨(-9223372036854775808 : Int64), σ, σ, fun P' hp => c_X_classAt 137 p0 σ e1 hp, fun P' hp => c_M_classAt 135 p0 σ e2 hp, h.2.2.2.2.2.2.2.2.2.2.2.2, Or.inl ⟨T, n, len, h⟩⟩
  · have hR := h
    obtain ⟨⟨hc, hV, hT0⟩, ⟨hRX, hOR, hLN, hMK, hBS, hGI, hTR, hXH, hRM, hMH⟩, ⟨hXT, hMT, hZ9, hK1, hK9, hK7, hCP, hCM, hTD, hFl, hSC⟩⟩ := h
    obtain ⟨r, σ2, e1, e2, fM⟩ := classAt_eq (N := 10000) (σ := σ) (τ := σ) hc (Nat.le_refl _) hRX hRM p0
    exact ⟨r, σ, σ2, fun P' hp => c_X_classAt 137 p0 σ e1 hp, fun P' hp => c_M_classAt 135 p0 σ e2 hp, hSC, Or.inr ⟨a, b, M, E, H, d, T, n, len, (kp_frSi fM hR)⟩⟩
