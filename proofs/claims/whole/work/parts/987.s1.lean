/-! the calls of the law, from invariant to invariant (printed by g987.py) -/
theorem s_bits {xs : Nat → Int32} {Ls : Nat} {σ : aSt} (h : IV xs Ls σ) (p0 : Int32) : ∃ r σ1 σ2, (∀ P' : Option Value → aSt → Prop, P' (some (.int r)) σ1 → aCall MT 140 208 [.ref 0, .int p0] σ P') ∧ (∀ P' : Option Value → aSt → Prop, P' (some (.int r)) σ2 → aCall MT 140 211 [.ref 66, .int p0] σ1 P') ∧ SC xs Ls σ1 ∧ IV xs Ls σ2 := by
  rcases h with ⟨T, n, len, h⟩ | ⟨a, b, M, E, H, d, T, n, len, h⟩
  · have hb := h.2.1
    have e1 : f_X_bits p0 σ = (-2 : Int32) := by simp [f_X_bits, f_X_isListed, f_X_isPoint, f_X_isByPrime, hb.1]
    have e2 : f_M_bits 10000 p0 σ = some (-2 : Int32) := by simp [f_M_bits, f_M_isListed, f_M_isPoint, f_M_isGoodPrime, hb.2.1]
    exact ⟨(-2 : Int32), σ, σ, fun P' hp => c_X_bits 136 p0 σ (by rw [e1]; exact hp), fun P' hp => c_M_bits 136 p0 σ e2 hp, h.2.2.2.2.2.2.2.2.2.2.2.2, Or.inl ⟨T, n, len, h⟩⟩
  · have hR := h
    obtain ⟨⟨hc, hV, hT0⟩, ⟨hRX, hOR, hLN, hMK, hBS, hGI, hTR, hXH, hRM, hMH⟩, ⟨hXT, hMT, hZ9, hK1, hK9, hK7, hCP, hCM, hTD, hFl, hSC⟩⟩ := h
    have e2 := bits_eq (N := 10000) (σ := σ) (τ := σ) (CVc_CV hc) (Nat.le_refl _) hRX hRM p0
    exact ⟨_, σ, σ, fun P' hp => c_X_bits 136 p0 σ hp, fun P' hp => c_M_bits 136 p0 σ e2 hp, hSC, Or.inr ⟨a, b, M, E, H, d, T, n, len, hR⟩⟩
theorem s_parallel {xs : Nat → Int32} {Ls : Nat} {σ : aSt} (h : IV xs Ls σ) (p0 p1 : Int32) : ∃ r σ1 σ2, (∀ P' : Option Value → aSt → Prop, P' (some (.long r)) σ1 → aCall MT 140 213 [.ref 0, .int p0, .int p1] σ P') ∧ (∀ P' : Option Value → aSt → Prop, P' (some (.long r)) σ2 → aCall MT 140 215 [.ref 66, .int p0, .int p1] σ1 P') ∧ SC xs Ls σ1 ∧ IV xs Ls σ2 := by
  rcases h with ⟨T, n, len, h⟩ | ⟨a, b, M, E, H, d, T, n, len, h⟩
  · have hb := h.2.1
    have e1 : f_X_parallel 10000 p0 p1 σ = some ((-9223372036854775808 : Int64), σ) := by simp [f_X_parallel, f_X_isListed, f_X_isPoint, f_X_isByPrime, hb.1]
    have e2 : f_M_parallel 10000 p0 p1 σ = some ((-9223372036854775808 : Int64), σ) := by simp [f_M_parallel, f_M_isListed, f_M_isPoint, f_M_isGoodPrime, hb.2.1]
    exact ⟨(-9223372036854775808 : Int64), σ, σ, fun P' hp => c_X_parallel 135 p0 p1 σ e1 hp, fun P' hp => c_M_parallel 135 p0 p1 σ e2 hp, h.2.2.2.2.2.2.2.2.2.2.2.2, Or.inl ⟨T, n, len, h⟩⟩
  · have hR := h
    obtain ⟨⟨hc, hV, hT0⟩, ⟨hRX, hOR, hLN, hMK, hBS, hGI, hTR, hXH, hRM, hMH⟩, ⟨hXT, hMT, hZ9, hK1, hK9, hK7, hCP, hCM, hTD, hFl, hSC⟩⟩ := h
    obtain ⟨r, σ1, t1, e1, _, fX, fM⟩ := parallel_eq (N := 10000) (σ := σ) (τ := σ) (CVc_CV hc) (Nat.le_refl _) hRX hRM p0 p1
    have g1 := kp_fr22 fX hR
    obtain ⟨r', σ1', σ2, e1', e2, fX2, fM2⟩ := parallel_eq (N := 10000) (σ := σ) (τ := σ1) (CVc_CV hc) (Nat.le_refl _) hRX g1.2.1.2.2.2.2.2.2.2.2.1 p0 p1
    obtain ⟨q1, q2⟩ := Prod.mk.inj (Option.some.inj (e1.symm.trans e1'))
    subst q1; subst q2
    have g2 := kp_fr23 fM2 g1
    exact ⟨r, σ1, σ2, fun P' hp => c_X_parallel 135 p0 p1 σ e1 hp, fun P' hp => c_M_parallel 135 p0 p1 σ1 e2 hp, g1.2.2.2.2.2.2.2.2.2.2.2.2, Or.inr ⟨a, b, M, E, H, d, T, n, len, g2⟩⟩
theorem s_made {xs : Nat → Int32} {Ls : Nat} {σ : aSt} (h : IV xs Ls σ) (p0 p1 : Int32) : ∃ r σ1 σ2, (∀ P' : Option Value → aSt → Prop, P' (some (.int r)) σ1 → aCall MT 140 221 [.ref 0, .int p0, .int p1] σ P') ∧ (∀ P' : Option Value → aSt → Prop, P' (some (.int r)) σ2 → aCall MT 140 224 [.ref 66, .int p0, .int p1] σ1 P') ∧ SC xs Ls σ1 ∧ IV xs Ls σ2 := by
  rcases h with ⟨T, n, len, h⟩ | ⟨a, b, M, E, H, d, T, n, len, h⟩
  · have hb := h.2.1
    have e1 : f_X_made 10000 p0 p1 σ = some ((-2 : Int32), σ) := by simp [f_X_made, f_X_isListed, f_X_isPoint, f_X_isByPrime, hb.1]
    have e2 : f_M_made 10000 p0 p1 σ = some ((-2 : Int32), σ) := by simp [f_M_made, f_M_isListed, f_M_isPoint, f_M_isGoodPrime, hb.2.1]
    exact ⟨(-2 : Int32), σ, σ, fun P' hp => c_X_made 135 p0 p1 σ e1 hp, fun P' hp => c_M_made 134 p0 p1 σ e2 hp, h.2.2.2.2.2.2.2.2.2.2.2.2, Or.inl ⟨T, n, len, h⟩⟩
  · have hR := h
    obtain ⟨⟨hc, hV, hT0⟩, ⟨hRX, hOR, hLN, hMK, hBS, hGI, hTR, hXH, hRM, hMH⟩, ⟨hXT, hMT, hZ9, hK1, hK9, hK7, hCP, hCM, hTD, hFl, hSC⟩⟩ := h
    obtain ⟨r, σ1, t1, e1, _, fX, fM⟩ := made_eq (N := 10000) (σ := σ) (τ := σ) (CVc_CV hc) (Nat.le_refl _) hRX hRM p0 p1
    have g1 := kp_frC30 fX hR
    obtain ⟨r', σ1', σ2, e1', e2, fX2, fM2⟩ := made_eq (N := 10000) (σ := σ) (τ := σ1) (CVc_CV hc) (Nat.le_refl _) hRX g1.2.1.2.2.2.2.2.2.2.2.1 p0 p1
    obtain ⟨q1, q2⟩ := Prod.mk.inj (Option.some.inj (e1.symm.trans e1'))
    subst q1; subst q2
    have g2 := kp_frJ fM2 g1
    exact ⟨r, σ1, σ2, fun P' hp => c_X_made 135 p0 p1 σ e1 hp, fun P' hp => c_M_made 134 p0 p1 σ1 e2 hp, g1.2.2.2.2.2.2.2.2.2.2.2.2, Or.inr ⟨a, b, M, E, H, d, T, n, len, g2⟩⟩
theorem s_makers {xs : Nat → Int32} {Ls : Nat} {σ : aSt} (h : IV xs Ls σ) (p0 : Int32) : ∃ r σ1 σ2, (∀ P' : Option Value → aSt → Prop, P' (some (.int r)) σ1 → aCall MT 140 227 [.ref 0, .int p0] σ P') ∧ (∀ P' : Option Value → aSt → Prop, P' (some (.int r)) σ2 → aCall MT 140 228 [.ref 66, .int p0] σ1 P') ∧ SC xs Ls σ1 ∧ IV xs Ls σ2 := by
  rcases h with ⟨T, n, len, h⟩ | ⟨a, b, M, E, H, d, T, n, len, h⟩
  · have hb := h.2.1
    have e1 : f_X_makers 10000 p0 σ = some ((-2 : Int32), σ) := by simp [f_X_makers, f_X_isListed, f_X_isPoint, f_X_isByPrime, hb.1]
    have e2 : f_M_makers 10000 p0 σ = some ((-2 : Int32), σ) := by simp [f_M_makers, f_M_isListed, f_M_isPoint, f_M_isGoodPrime, hb.2.1]
    exact ⟨(-2 : Int32), σ, σ, fun P' hp => c_X_makers 134 p0 σ e1 hp, fun P' hp => c_M_makers 134 p0 σ e2 hp, h.2.2.2.2.2.2.2.2.2.2.2.2, Or.inl ⟨T, n, len, h⟩⟩
  · have hR := h
    obtain ⟨⟨hc, hV, hT0⟩, ⟨hRX, hOR, hLN, hMK, hBS, hGI, hTR, hXH, hRM, hMH⟩, ⟨hXT, hMT, hZ9, hK1, hK9, hK7, hCP, hCM, hTD, hFl, hSC⟩⟩ := h
    obtain ⟨r, σ1, t1, e1, _, fX, n_MKc, fM⟩ := makers_eq (N := 10000) (σ := σ) (τ := σ) (CVc_CV hc) (Nat.le_refl _) hRX hMK hRM p0
    have g1 := kp_frC26 fX hR n_MKc
    obtain ⟨r', σ1', σ2, e1', e2, fX2, n_MKc2, fM2⟩ := makers_eq (N := 10000) (σ := σ) (τ := σ1) (CVc_CV hc) (Nat.le_refl _) hRX hMK g1.2.1.2.2.2.2.2.2.2.2.1 p0
    obtain ⟨q1, q2⟩ := Prod.mk.inj (Option.some.inj (e1.symm.trans e1'))
    subst q1; subst q2
    have g2 := kp_frJ fM2 g1
    exact ⟨r, σ1, σ2, fun P' hp => c_X_makers 134 p0 σ e1 hp, fun P' hp => c_M_makers 134 p0 σ1 e2 hp, g1.2.2.2.2.2.2.2.2.2.2.2.2, Or.inr ⟨a, b, M, E, H, d, T, n, len, g2⟩⟩
theorem s_related {xs : Nat → Int32} {Ls : Nat} {σ : aSt} (h : IV xs Ls σ) (p0 p1 p2 : Int32) : ∃ r σ1 σ2, (∀ P' : Option Value → aSt → Prop, P' (some (.long r)) σ1 → aCall MT 140 233 [.ref 0, .int p0, .int p1, .int p2] σ P') ∧ (∀ P' : Option Value → aSt → Prop, P' (some (.long r)) σ2 → aCall MT 140 236 [.ref 66, .int p0, .int p1, .int p2] σ1 P') ∧ SC xs Ls σ1 ∧ IV xs Ls σ2 := by
  rcases h with ⟨T, n, len, h⟩ | ⟨a, b, M, E, H, d, T, n, len, h⟩
  · have hb := h.2.1
    have e1 : f_X_related 10000 p0 p1 p2 σ = some ((-9223372036854775808 : Int64), σ) := by simp [f_X_related, f_X_isListed, f_X_isPoint, f_X_isByPrime, hb.1]
    have e2 : f_M_related 10000 p0 p1 p2 σ = some ((-9223372036854775808 : Int64), σ) := by simp [f_M_related, f_M_isListed, f_M_isPoint, f_M_isGoodPrime, hb.2.1]
    exact ⟨(-9223372036854775808 : Int64), σ, σ, fun P' hp => c_X_related 132 p0 p1 p2 σ e1 hp, fun P' hp => c_M_related 132 p0 p1 p2 σ e2 hp, h.2.2.2.2.2.2.2.2.2.2.2.2, Or.inl ⟨T, n, len, h⟩⟩
  · have hR := h
    obtain ⟨⟨hc, hV, hT0⟩, ⟨hRX, hOR, hLN, hMK, hBS, hGI, hTR, hXH, hRM, hMH⟩, ⟨hXT, hMT, hZ9, hK1, hK9, hK7, hCP, hCM, hTD, hFl, hSC⟩⟩ := h
    obtain ⟨r, σ1, t1, e1, _, fX, n_OR, fM⟩ := related_eq (N := 10000) (σ := σ) (τ := σ) (CVc_CV hc) (Nat.le_refl _) hRX hOR hRM p0 p1 p2
    have g1 := kp_frT fX hR n_OR
    obtain ⟨r', σ1', σ2, e1', e2, fX2, n_OR2, fM2⟩ := related_eq (N := 10000) (σ := σ) (τ := σ1) (CVc_CV hc) (Nat.le_refl _) hRX hOR g1.2.1.2.2.2.2.2.2.2.2.1 p0 p1 p2
    obtain ⟨q1, q2⟩ := Prod.mk.inj (Option.some.inj (e1.symm.trans e1'))
    subst q1; subst q2
    have g2 := kp_fr23 fM2 g1
    exact ⟨r, σ1, σ2, fun P' hp => c_X_related 132 p0 p1 p2 σ e1 hp, fun P' hp => c_M_related 132 p0 p1 p2 σ1 e2 hp, g1.2.2.2.2.2.2.2.2.2.2.2.2, Or.inr ⟨a, b, M, E, H, d, T, n, len, g2⟩⟩
theorem s_above {xs : Nat → Int32} {Ls : Nat} {σ : aSt} (h : IV xs Ls σ) (p0 : Int32) : ∃ r σ1 σ2, (∀ P' : Option Value → aSt → Prop, P' (some (.int r)) σ1 → aCall MT 140 237 [.ref 0, .int p0] σ P') ∧ (∀ P' : Option Value → aSt → Prop, P' (some (.int r)) σ2 → aCall MT 140 238 [.ref 66, .int p0] σ1 P') ∧ SC xs Ls σ1 ∧ IV xs Ls σ2 := by
  rcases h with ⟨T, n, len, h⟩ | ⟨a, b, M, E, H, d, T, n, len, h⟩
  · have hb := h.2.1
    have e1 : f_X_above 10000 p0 σ = some (-2 : Int32) := by simp [f_X_above, f_X_isListed, f_X_isPoint, f_X_isByPrime, hb.1]
    have e2 : f_M_above 10000 p0 σ = some (-2 : Int32) := by simp [f_M_above, f_M_isListed, f_M_isPoint, f_M_isGoodPrime, hb.2.1]
    exact ⟨(-2 : Int32), σ, σ, fun P' hp => c_X_above 137 p0 σ e1 hp, fun P' hp => c_M_above 137 p0 σ e2 hp, h.2.2.2.2.2.2.2.2.2.2.2.2, Or.inl ⟨T, n, len, h⟩⟩
  · have hR := h
    obtain ⟨⟨hc, hV, hT0⟩, ⟨hRX, hOR, hLN, hMK, hBS, hGI, hTR, hXH, hRM, hMH⟩, ⟨hXT, hMT, hZ9, hK1, hK9, hK7, hCP, hCM, hTD, hFl, hSC⟩⟩ := h
    obtain ⟨r, e1, e2⟩ := above_eq (N := 10000) (σ := σ) (τ := σ) (CVc_CV hc) (Nat.le_refl _) hRX hRM p0
    exact ⟨r, σ, σ, fun P' hp => c_X_above 137 p0 σ e1 hp, fun P' hp => c_M_above 137 p0 σ e2 hp, hSC, Or.inr ⟨a, b, M, E, H, d, T, n, len, hR⟩⟩
theorem s_upTo {xs : Nat → Int32} {Ls : Nat} {σ : aSt} (h : IV xs Ls σ) (p0 : Int32) : ∃ r σ1 σ2, (∀ P' : Option Value → aSt → Prop, P' (some (.int r)) σ1 → aCall MT 140 239 [.ref 0, .int p0] σ P') ∧ (∀ P' : Option Value → aSt → Prop, P' (some (.int r)) σ2 → aCall MT 140 240 [.ref 66, .int p0] σ1 P') ∧ SC xs Ls σ1 ∧ IV xs Ls σ2 := by
  rcases h with ⟨T, n, len, h⟩ | ⟨a, b, M, E, H, d, T, n, len, h⟩
  · have hb := h.2.1
    have e1 : f_X_upTo 10000 p0 σ = some (-2 : Int32) := by simp [f_X_upTo, f_X_isListed, f_X_isPoint, f_X_isByPrime, hb.1]
    have e2 : f_M_upTo 10000 p0 σ = some (-2 : Int32) := by simp [f_M_upTo, f_M_isListed, f_M_isPoint, f_M_isGoodPrime, hb.2.1]
    exact ⟨(-2 : Int32), σ, σ, fun P' hp => c_X_upTo 137 p0 σ e1 hp, fun P' hp => c_M_upTo 137 p0 σ e2 hp, h.2.2.2.2.2.2.2.2.2.2.2.2, Or.inl ⟨T, n, len, h⟩⟩
  · have hR := h
    obtain ⟨⟨hc, hV, hT0⟩, ⟨hRX, hOR, hLN, hMK, hBS, hGI, hTR, hXH, hRM, hMH⟩, ⟨hXT, hMT, hZ9, hK1, hK9, hK7, hCP, hCM, hTD, hFl, hSC⟩⟩ := h
    obtain ⟨r, e1, e2⟩ := upTo_eq (N := 10000) (σ := σ) (τ := σ) (CVc_CV hc) (Nat.le_refl _) hRX hRM p0
    exact ⟨r, σ, σ, fun P' hp => c_X_upTo 137 p0 σ e1 hp, fun P' hp => c_M_upTo 137 p0 σ e2 hp, hSC, Or.inr ⟨a, b, M, E, H, d, T, n, len, hR⟩⟩
theorem s_beside {xs : Nat → Int32} {Ls : Nat} {σ : aSt} (h : IV xs Ls σ) (p0 p1 : Int32) : ∃ r σ1 σ2, (∀ P' : Option Value → aSt → Prop, P' (some (.long r)) σ1 → aCall MT 140 241 [.ref 0, .int p0, .int p1] σ P') ∧ (∀ P' : Option Value → aSt → Prop, P' (some (.long r)) σ2 → aCall MT 140 242 [.ref 66, .int p0, .int p1] σ1 P') ∧ SC xs Ls σ1 ∧ IV xs Ls σ2 := by
  rcases h with ⟨T, n, len, h⟩ | ⟨a, b, M, E, H, d, T, n, len, h⟩
  · have hb := h.2.1
    have e1 : f_X_beside 10000 p0 p1 σ = some (-9223372036854775808 : Int64) := by simp [f_X_beside, f_X_isListed, f_X_isPoint, f_X_isByPrime, hb.1]
    have e2 : f_M_beside 10000 p0 p1 σ = some ((-9223372036854775808 : Int64), σ) := by simp [f_M_beside, f_M_isListed, f_M_isPoint, f_M_isGoodPrime, hb.2.1]
    exact ⟨(-9223372036854775808 : Int64), σ, σ, fun P' hp => c_X_beside 137 p0 p1 σ e1 hp, fun P' hp => c_M_beside 137 p0 p1 σ e2 hp, h.2.2.2.2.2.2.2.2.2.2.2.2, Or.inl ⟨T, n, len, h⟩⟩
  · have hR := h
    obtain ⟨⟨hc, hV, hT0⟩, ⟨hRX, hOR, hLN, hMK, hBS, hGI, hTR, hXH, hRM, hMH⟩, ⟨hXT, hMT, hZ9, hK1, hK9, hK7, hCP, hCM, hTD, hFl, hSC⟩⟩ := h
    obtain ⟨r, σ2, e1, e2, fM⟩ := beside_eq (N := 10000) (σ := σ) (τ := σ) (CVc_CV hc) (Nat.le_refl _) hRX hRM p0 p1
    exact ⟨r, σ, σ2, fun P' hp => c_X_beside 137 p0 p1 σ e1 hp, fun P' hp => c_M_beside 137 p0 p1 σ e2 hp, hSC, Or.inr ⟨a, b, M, E, H, d, T, n, len, (kp_fr23 fM hR)⟩⟩
theorem s_same {xs : Nat → Int32} {Ls : Nat} {σ : aSt} (h : IV xs Ls σ) (p0 : Int32) : ∃ r σ1 σ2, (∀ P' : Option Value → aSt → Prop, P' (some (.long r)) σ1 → aCall MT 140 243 [.ref 0, .int p0] σ P') ∧ (∀ P' : Option Value → aSt → Prop, P' (some (.long r)) σ2 → aCall MT 140 244 [.ref 66, .int p0] σ1 P') ∧ SC xs Ls σ1 ∧ IV xs Ls σ2 := by
  rcases h with ⟨T, n, len, h⟩ | ⟨a, b, M, E, H, d, T, n, len, h⟩
  · have hb := h.2.1
    have e1 : f_X_same 10000 p0 σ = some (-9223372036854775808 : Int64) := by simp [f_X_same, f_X_isListed, f_X_isPoint, f_X_isByPrime, hb.1]
    have e2 : f_M_same 10000 p0 σ = some ((-9223372036854775808 : Int64), σ) := by simp [f_M_same, f_M_isListed, f_M_isPoint, f_M_isGoodPrime, hb.2.1]
    exact ⟨(-9223372036854775808 : Int64), σ, σ, fun P' hp => c_X_same 137 p0 σ e1 hp, fun P' hp => c_M_same 137 p0 σ e2 hp, h.2.2.2.2.2.2.2.2.2.2.2.2, Or.inl ⟨T, n, len, h⟩⟩
  · have hR := h
    obtain ⟨⟨hc, hV, hT0⟩, ⟨hRX, hOR, hLN, hMK, hBS, hGI, hTR, hXH, hRM, hMH⟩, ⟨hXT, hMT, hZ9, hK1, hK9, hK7, hCP, hCM, hTD, hFl, hSC⟩⟩ := h
    obtain ⟨r, σ2, e1, e2, fM⟩ := same_eq (N := 10000) (σ := σ) (τ := σ) hc (Nat.le_refl _) hRX hRM p0
    exact ⟨r, σ, σ2, fun P' hp => c_X_same 137 p0 σ e1 hp, fun P' hp => c_M_same 137 p0 σ e2 hp, hSC, Or.inr ⟨a, b, M, E, H, d, T, n, len, (kp_fr23 fM hR)⟩⟩
theorem s_half {xs : Nat → Int32} {Ls : Nat} {σ : aSt} (h : IV xs Ls σ) (p0 p1 : Int32) : ∃ r σ1 σ2, (∀ P' : Option Value → aSt → Prop, P' (some (.int r)) σ1 → aCall MT 140 269 [.ref 0, .int p0, .int p1] σ P') ∧ (∀ P' : Option Value → aSt → Prop, P' (some (.int r)) σ2 → aCall MT 140 270 [.ref 66, .int p0, .int p1] σ1 P') ∧ SC xs Ls σ1 ∧ IV xs Ls σ2 := by
  rcases h with ⟨T, n, len, h⟩ | ⟨a, b, M, E, H, d, T, n, len, h⟩
  · have hb := h.2.1
    have e1 : f_X_half 10000 p0 p1 σ = some ((-2 : Int32), σ) := by simp [f_X_half, f_X_isListed, f_X_isPoint, f_X_isByPrime, hb.1]
    have e2 : f_M_half 10000 p0 p1 σ = some ((-2 : Int32), σ) := by simp [f_M_half, f_M_isListed, f_M_isPoint, f_M_isGoodPrime, hb.2.1]
    exact ⟨(-2 : Int32), σ, σ, fun P' hp => c_X_half 135 p0 p1 σ e1 hp, fun P' hp => c_M_half 135 p0 p1 σ e2 hp, h.2.2.2.2.2.2.2.2.2.2.2.2, Or.inl ⟨T, n, len, h⟩⟩
  · have hR := h
    obtain ⟨⟨hc, hV, hT0⟩, ⟨hRX, hOR, hLN, hMK, hBS, hGI, hTR, hXH, hRM, hMH⟩, ⟨hXT, hMT, hZ9, hK1, hK9, hK7, hCP, hCM, hTD, hFl, hSC⟩⟩ := h
    obtain ⟨r, σ1, t1, e1, _, fX, fM⟩ := half_eq (N := 10000) (σ := σ) (τ := σ) (CVc_CV hc) (Nat.le_refl _) hRX hRM p0 p1
    have g1 := kp_fr22 fX hR
    obtain ⟨r', σ1', σ2, e1', e2, fX2, fM2⟩ := half_eq (N := 10000) (σ := σ) (τ := σ1) (CVc_CV hc) (Nat.le_refl _) hRX g1.2.1.2.2.2.2.2.2.2.2.1 p0 p1
    obtain ⟨q1, q2⟩ := Prod.mk.inj (Option.some.inj (e1.symm.trans e1'))
    subst q1; subst q2
    have g2 := kp_fr23 fM2 g1
    exact ⟨r, σ1, σ2, fun P' hp => c_X_half 135 p0 p1 σ e1 hp, fun P' hp => c_M_half 135 p0 p1 σ1 e2 hp, g1.2.2.2.2.2.2.2.2.2.2.2.2, Or.inr ⟨a, b, M, E, H, d, T, n, len, g2⟩⟩
theorem s_straight {xs : Nat → Int32} {Ls : Nat} {σ : aSt} (h : IV xs Ls σ) (p0 p1 p2 : Int32) : ∃ r σ1 σ2, (∀ P' : Option Value → aSt → Prop, P' (some (.int r)) σ1 → aCall MT 140 271 [.ref 0, .int p0, .int p1, .int p2] σ P') ∧ (∀ P' : Option Value → aSt → Prop, P' (some (.int r)) σ2 → aCall MT 140 273 [.ref 66, .int p0, .int p1, .int p2] σ1 P') ∧ SC xs Ls σ1 ∧ IV xs Ls σ2 := by
  rcases h with ⟨T, n, len, h⟩ | ⟨a, b, M, E, H, d, T, n, len, h⟩
  · have hb := h.2.1
    have e1 : f_X_straight 10000 p0 p1 p2 σ = some ((-2 : Int32), σ) := by simp [f_X_straight, f_X_isListed, f_X_isPoint, f_X_isByPrime, hb.1]
    have e2 : f_M_straight 10000 p0 p1 p2 σ = some ((-2 : Int32), σ) := by simp [f_M_straight, f_M_isListed, f_M_isPoint, f_M_isGoodPrime, hb.2.1]
    exact ⟨(-2 : Int32), σ, σ, fun P' hp => c_X_straight 136 p0 p1 p2 σ e1 hp, fun P' hp => c_M_straight 136 p0 p1 p2 σ e2 hp, h.2.2.2.2.2.2.2.2.2.2.2.2, Or.inl ⟨T, n, len, h⟩⟩
  · have hR := h
    obtain ⟨⟨hc, hV, hT0⟩, ⟨hRX, hOR, hLN, hMK, hBS, hGI, hTR, hXH, hRM, hMH⟩, ⟨hXT, hMT, hZ9, hK1, hK9, hK7, hCP, hCM, hTD, hFl, hSC⟩⟩ := h
    obtain ⟨r, σ1, t1, e1, _, fX, fM⟩ := straight_eq (N := 10000) (σ := σ) (τ := σ) (CVc_CV hc) (Nat.le_refl _) hRX hRM p0 p1 p2
    have g1 := kp_fr22 fX hR
    obtain ⟨r', σ1', σ2, e1', e2, fX2, fM2⟩ := straight_eq (N := 10000) (σ := σ) (τ := σ1) (CVc_CV hc) (Nat.le_refl _) hRX g1.2.1.2.2.2.2.2.2.2.2.1 p0 p1 p2
    obtain ⟨q1, q2⟩ := Prod.mk.inj (Option.some.inj (e1.symm.trans e1'))
    subst q1; subst q2
    have g2 := kp_fr23 fM2 g1
    exact ⟨r, σ1, σ2, fun P' hp => c_X_straight 136 p0 p1 p2 σ e1 hp, fun P' hp => c_M_straight 136 p0 p1 p2 σ1 e2 hp, g1.2.2.2.2.2.2.2.2.2.2.2.2, Or.inr ⟨a, b, M, E, H, d, T, n, len, g2⟩⟩
theorem s_part {xs : Nat → Int32} {Ls : Nat} {σ : aSt} (h : IV xs Ls σ) (p0 : Int32) : ∃ r σ1 σ2, (∀ P' : Option Value → aSt → Prop, P' (some (.int r)) σ1 → aCall MT 140 277 [.ref 0, .int p0] σ P') ∧ (∀ P' : Option Value → aSt → Prop, P' (some (.int r)) σ2 → aCall MT 140 278 [.ref 66, .int p0] σ1 P') ∧ SC xs Ls σ1 ∧ IV xs Ls σ2 := by
  rcases h with ⟨T, n, len, h⟩ | ⟨a, b, M, E, H, d, T, n, len, h⟩
  · have hb := h.2.1
    have e1 : f_X_part p0 σ = (-2 : Int32) := by simp [f_X_part, f_X_isListed, f_X_isPoint, f_X_isByPrime, hb.1]
    have e2 : f_M_part 10000 p0 σ = some (-2 : Int32) := by simp [f_M_part, f_M_isListed, f_M_isPoint, f_M_isGoodPrime, hb.2.1]
    exact ⟨(-2 : Int32), σ, σ, fun P' hp => c_X_part 136 p0 σ (by rw [e1]; exact hp), fun P' hp => c_M_part 136 p0 σ e2 hp, h.2.2.2.2.2.2.2.2.2.2.2.2, Or.inl ⟨T, n, len, h⟩⟩
  · have hR := h
    obtain ⟨⟨hc, hV, hT0⟩, ⟨hRX, hOR, hLN, hMK, hBS, hGI, hTR, hXH, hRM, hMH⟩, ⟨hXT, hMT, hZ9, hK1, hK9, hK7, hCP, hCM, hTD, hFl, hSC⟩⟩ := h
    have e2 := part_eq (N := 10000) (σ := σ) (τ := σ) (CVc_CV hc) hRX hRM p0
    exact ⟨_, σ, σ, fun P' hp => c_X_part 136 p0 σ hp, fun P' hp => c_M_part 136 p0 σ e2 hp, hSC, Or.inr ⟨a, b, M, E, H, d, T, n, len, hR⟩⟩
theorem s_shows {xs : Nat → Int32} {Ls : Nat} {σ : aSt} (h : IV xs Ls σ) (p0 : Int32) : ∃ r σ1 σ2, (∀ P' : Option Value → aSt → Prop, P' (some (.int r)) σ1 → aCall MT 140 280 [.ref 0, .int p0] σ P') ∧ (∀ P' : Option Value → aSt → Prop, P' (some (.int r)) σ2 → aCall MT 140 281 [.ref 66, .int p0] σ1 P') ∧ SC xs Ls σ1 ∧ IV xs Ls σ2 := by
  rcases h with ⟨T, n, len, h⟩ | ⟨a, b, M, E, H, d, T, n, len, h⟩
  · have hb := h.2.1
    have e1 : f_X_shows 10000 p0 σ = some ((-2 : Int32), σ) := by simp [f_X_shows, f_X_isListed, f_X_isPoint, f_X_isByPrime, hb.1]
    have e2 : f_M_shows 10000 p0 σ = some ((-2 : Int32), σ) := by simp [f_M_shows, f_M_isListed, f_M_isPoint, f_M_isGoodPrime, hb.2.1]
    exact ⟨(-2 : Int32), σ, σ, fun P' hp => c_X_shows 132 p0 σ e1 hp, fun P' hp => c_M_shows 135 p0 σ e2 hp, h.2.2.2.2.2.2.2.2.2.2.2.2, Or.inl ⟨T, n, len, h⟩⟩
  · have hR := h
    obtain ⟨⟨hc, hV, hT0⟩, ⟨hRX, hOR, hLN, hMK, hBS, hGI, hTR, hXH, hRM, hMH⟩, ⟨hXT, hMT, hZ9, hK1, hK9, hK7, hCP, hCM, hTD, hFl, hSC⟩⟩ := h
    obtain ⟨r, σ1, t1, e1, _, n_KT_41, fX, fM⟩ := shows_eq (N := 10000) (σ := σ) (τ := σ) hc (Nat.le_refl _) hRX hRM hCM hK1 p0
    have g1 := kp_frX_41 fX hR n_KT_41
    obtain ⟨r', σ1', σ2, e1', e2, n_KT_412, fX2, fM2⟩ := shows_eq (N := 10000) (σ := σ) (τ := σ1) hc (Nat.le_refl _) hRX g1.2.1.2.2.2.2.2.2.2.2.1 hCM hK1 p0
    obtain ⟨q1, q2⟩ := Prod.mk.inj (Option.some.inj (e1.symm.trans e1'))
    subst q1; subst q2
    have g2 := kp_frSh fM2 g1
    exact ⟨r, σ1, σ2, fun P' hp => c_X_shows 132 p0 σ e1 hp, fun P' hp => c_M_shows 135 p0 σ1 e2 hp, g1.2.2.2.2.2.2.2.2.2.2.2.2, Or.inr ⟨a, b, M, E, H, d, T, n, len, g2⟩⟩
theorem s_groupBy {xs : Nat → Int32} {Ls : Nat} {σ : aSt} (h : IV xs Ls σ) (p0 p1 : Int32) : ∃ r σ1 σ2, (∀ P' : Option Value → aSt → Prop, P' (some (.int r)) σ1 → aCall MT 140 287 [.ref 0, .int p0, .int p1] σ P') ∧ (∀ P' : Option Value → aSt → Prop, P' (some (.int r)) σ2 → aCall MT 140 289 [.ref 66, .int p0, .int p1] σ1 P') ∧ SC xs Ls σ1 ∧ IV xs Ls σ2 := by
  rcases h with ⟨T, n, len, h⟩ | ⟨a, b, M, E, H, d, T, n, len, h⟩
  · have hb := h.2.1
    have e1 : f_X_groupBy 10000 p0 p1 σ = some ((-2 : Int32), σ) := by simp [f_X_groupBy, f_X_isListed, f_X_isPoint, f_X_isByPrime, hb.1]
    have e2 : f_M_groupBy 10000 p0 p1 σ = some ((-2 : Int32), σ) := by simp [f_M_groupBy, f_M_isListed, f_M_isPoint, f_M_isGoodPrime, hb.2.1]
    exact ⟨(-2 : Int32), σ, σ, fun P' hp => c_X_groupBy 132 p0 p1 σ e1 hp, fun P' hp => c_M_groupBy 135 p0 p1 σ e2 hp, h.2.2.2.2.2.2.2.2.2.2.2.2, Or.inl ⟨T, n, len, h⟩⟩
  · have hR := h
    obtain ⟨⟨hc, hV, hT0⟩, ⟨hRX, hOR, hLN, hMK, hBS, hGI, hTR, hXH, hRM, hMH⟩, ⟨hXT, hMT, hZ9, hK1, hK9, hK7, hCP, hCM, hTD, hFl, hSC⟩⟩ := h
    obtain ⟨r, σ1, t1, e1, _, n_GI, fX, fM⟩ := groupBy_eq (N := 10000) (σ := σ) (τ := σ) hc (Nat.le_refl _) hRX hRM hCP hGI p0 p1
    have g1 := kp_frG fX hR n_GI
    obtain ⟨r', σ1', σ2, e1', e2, n_GI2, fX2, fM2⟩ := groupBy_eq (N := 10000) (σ := σ) (τ := σ1) hc (Nat.le_refl _) hRX g1.2.1.2.2.2.2.2.2.2.2.1 hCP hGI p0 p1
    obtain ⟨q1, q2⟩ := Prod.mk.inj (Option.some.inj (e1.symm.trans e1'))
    subst q1; subst q2
    have g2 := kp_frBP fM2 g1
    exact ⟨r, σ1, σ2, fun P' hp => c_X_groupBy 132 p0 p1 σ e1 hp, fun P' hp => c_M_groupBy 135 p0 p1 σ1 e2 hp, g1.2.2.2.2.2.2.2.2.2.2.2.2, Or.inr ⟨a, b, M, E, H, d, T, n, len, g2⟩⟩
theorem s_logBy {xs : Nat → Int32} {Ls : Nat} {σ : aSt} (h : IV xs Ls σ) (p0 p1 p2 : Int32) : ∃ r σ1 σ2, (∀ P' : Option Value → aSt → Prop, P' (some (.int r)) σ1 → aCall MT 140 291 [.ref 0, .int p0, .int p1, .int p2] σ P') ∧ (∀ P' : Option Value → aSt → Prop, P' (some (.int r)) σ2 → aCall MT 140 292 [.ref 66, .int p0, .int p1, .int p2] σ1 P') ∧ SC xs Ls σ1 ∧ IV xs Ls σ2 := by
  rcases h with ⟨T, n, len, h⟩ | ⟨a, b, M, E, H, d, T, n, len, h⟩
  · have hb := h.2.1
    have e1 : f_X_logBy 10000 p0 p1 p2 σ = some ((-2 : Int32), σ) := by simp [f_X_logBy, f_X_isListed, f_X_isPoint, f_X_isByPrime, hb.1]
    have e2 : f_M_logBy 10000 p0 p1 p2 σ = some ((-2 : Int32), σ) := by simp [f_M_logBy, f_M_isListed, f_M_isPoint, f_M_isGoodPrime, hb.2.1]
    exact ⟨(-2 : Int32), σ, σ, fun P' hp => c_X_logBy 135 p0 p1 p2 σ e1 hp, fun P' hp => c_M_logBy 136 p0 p1 p2 σ e2 hp, h.2.2.2.2.2.2.2.2.2.2.2.2, Or.inl ⟨T, n, len, h⟩⟩
  · have hR := h
    obtain ⟨⟨hc, hV, hT0⟩, ⟨hRX, hOR, hLN, hMK, hBS, hGI, hTR, hXH, hRM, hMH⟩, ⟨hXT, hMT, hZ9, hK1, hK9, hK7, hCP, hCM, hTD, hFl, hSC⟩⟩ := h
    obtain ⟨r, σ1, t1, e1, _, n_GI, fX, fM⟩ := logBy_eq (N := 10000) (σ := σ) (τ := σ) hc (Nat.le_refl _) hRX hRM hCP hGI p0 p1 p2
    have g1 := kp_frG fX hR n_GI
    obtain ⟨r', σ1', σ2, e1', e2, n_GI2, fX2, fM2⟩ := logBy_eq (N := 10000) (σ := σ) (τ := σ1) hc (Nat.le_refl _) hRX g1.2.1.2.2.2.2.2.2.2.2.1 hCP hGI p0 p1 p2
    obtain ⟨q1, q2⟩ := Prod.mk.inj (Option.some.inj (e1.symm.trans e1'))
    subst q1; subst q2
    have g2 := kp_frBP fM2 g1
    exact ⟨r, σ1, σ2, fun P' hp => c_X_logBy 135 p0 p1 p2 σ e1 hp, fun P' hp => c_M_logBy 136 p0 p1 p2 σ1 e2 hp, g1.2.2.2.2.2.2.2.2.2.2.2.2, Or.inr ⟨a, b, M, E, H, d, T, n, len, g2⟩⟩
theorem s_bestBy {xs : Nat → Int32} {Ls : Nat} {σ : aSt} (h : IV xs Ls σ) (p0 p1 : Int32) : ∃ r σ1 σ2, (∀ P' : Option Value → aSt → Prop, P' (some (.int r)) σ1 → aCall MT 140 294 [.ref 0, .int p0, .int p1] σ P') ∧ (∀ P' : Option Value → aSt → Prop, P' (some (.int r)) σ2 → aCall MT 140 295 [.ref 66, .int p0, .int p1] σ1 P') ∧ SC xs Ls σ1 ∧ IV xs Ls σ2 := by
  rcases h with ⟨T, n, len, h⟩ | ⟨a, b, M, E, H, d, T, n, len, h⟩
  · have hb := h.2.1
    have e1 : f_X_bestBy 10000 p0 p1 σ = some ((-2 : Int32), σ) := by simp [f_X_bestBy, f_X_isListed, f_X_isPoint, f_X_isByPrime, hb.1]
    have e2 : f_M_bestBy 10000 p0 p1 σ = some ((-2 : Int32), σ) := by simp [f_M_bestBy, f_M_isListed, f_M_isPoint, f_M_isGoodPrime, hb.2.1]
    exact ⟨(-2 : Int32), σ, σ, fun P' hp => c_X_bestBy 132 p0 p1 σ e1 hp, fun P' hp => c_M_bestBy 135 p0 p1 σ e2 hp, h.2.2.2.2.2.2.2.2.2.2.2.2, Or.inl ⟨T, n, len, h⟩⟩
  · have hR := h
    obtain ⟨⟨hc, hV, hT0⟩, ⟨hRX, hOR, hLN, hMK, hBS, hGI, hTR, hXH, hRM, hMH⟩, ⟨hXT, hMT, hZ9, hK1, hK9, hK7, hCP, hCM, hTD, hFl, hSC⟩⟩ := h
    obtain ⟨r, σ1, t1, e1, _, n_GI, fX, fM⟩ := bestBy_eq (N := 10000) (σ := σ) (τ := σ) hc (Nat.le_refl _) hRX hRM hCP hGI p0 p1
    have g1 := kp_frG fX hR n_GI
    obtain ⟨r', σ1', σ2, e1', e2, n_GI2, fX2, fM2⟩ := bestBy_eq (N := 10000) (σ := σ) (τ := σ1) hc (Nat.le_refl _) hRX g1.2.1.2.2.2.2.2.2.2.2.1 hCP hGI p0 p1
    obtain ⟨q1, q2⟩ := Prod.mk.inj (Option.some.inj (e1.symm.trans e1'))
    subst q1; subst q2
    have g2 := kp_frBP fM2 g1
    exact ⟨r, σ1, σ2, fun P' hp => c_X_bestBy 132 p0 p1 σ e1 hp, fun P' hp => c_M_bestBy 135 p0 p1 σ1 e2 hp, g1.2.2.2.2.2.2.2.2.2.2.2.2, Or.inr ⟨a, b, M, E, H, d, T, n, len, g2⟩⟩
