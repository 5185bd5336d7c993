section AS
variable {p : Program} {l : Launch} {e : Env} {R : Room} {s : State} {m : MethodId} {args : Array Value} {below : List Frame} {meth : Method} {c : Code} {cells slots : Nat} {Q : State → Prop}
variable {ad adV : Nat → Nat} {fm : Value} {D : va_G} {cA : Nat → ClassId} {σ0 : aSt} {A : Nat → Prop}
variable {own : String} {bytes : ByteArray} {ret : Option FieldType} {nL : Nat} {mt : List aME} {code : List aMI} {C : Nat → List Value → aSt → (Option Value → aSt → Prop) → Prop} {Rr : Option Value → aSt → Prop} {K : Nat → aLo → List Value → aSt → Prop} {rm : Room}
def isSw : Instr → Bool
  | .tableswitch _ _ _ _ => true
  | _ => false
theorem ckD_ok {bytes : ByteArray} {pc : Nat} {act : Instr} {rest : Nat × Nat × Nat × Value × List Nat} (h : ckD bytes (pc, act, rest) = true) (hn : isSw act = false) : decode bytes pc = .ok (act, ilen act) := by
  refine ckD_of (q := (pc, act, rest)) h ?_
  dsimp only
  cases act <;> first | rfl | cases hn
set_option maxHeartbeats 1000000 in
theorem st_iconst (X : aCtx p l R s m args c cells slots ad adV fm D cA σ0 A own bytes nL mt C rm) (hK : ∀ k L S σ, K k L S σ → aWc p l e R s m args below meth c cells slots Q ad D cA σ0 A nL code k L S σ) (hR : ∀ (r : Option Value) (σ : aSt) (H : Heap) (locs : List Loc) (ls : Array Slot) (pc : Nat), Rr r σ → aRet bytes ret pc r → aWd ad D cA σ0 A σ H → va_S A s.heap H locs → W p l e R s m args below meth c H locs cells slots Q (F0 m pc ls ((r.map (cv ad)).toList))) {n : Int} {pc a b w : Nat} {v : Value} {ts : List Nat} {k : Nat} {L : aLo} {S : List Value} {σ : aSt} {H : Heap} {locs : List Loc} {ls : Array Slot} (hcd : ckD bytes (pc, .iconst n, a, b, w, v, ts) = true) (hca : ckA mt own ret code k (pc, .iconst n, a, b, w, v, ts) = true) (hs0 : aStep C Rr K (pc, .iconst n, a, b, w, v, ts) k L S σ) (hW : aWd ad D cA σ0 A σ H) (hS : va_S A s.heap H locs) (hL : L.length = nL) (hl : lv_has ls nL (lcn ad 0 L)) : W p l e R s m args below meth c H locs cells slots Q (F0 m pc ls (S.map (cv ad))) := by
  have X' := X
  obtain ⟨hx, hb, hml, hown, hts, hKK, hO, hSt, -⟩ := X
  have hd : decode bytes pc = .ok (.iconst n, 1) := ckD_ok hcd rfl
  dsimp only [ckA] at hca; rw [Bool.and_eq_true] at hca
  obtain ⟨h1, h2⟩ := hca
  have h1 := of_decide_eq_true h1
  try dsimp only at h1
  subst h1
  exact lv_iconst hx hb hd rfl (a_nx hK h2 hs0 hW hS hL hl)
set_option maxHeartbeats 1000000 in
theorem st_bipush (X : aCtx p l R s m args c cells slots ad adV fm D cA σ0 A own bytes nL mt C rm) (hK : ∀ k L S σ, K k L S σ → aWc p l e R s m args below meth c cells slots Q ad D cA σ0 A nL code k L S σ) (hR : ∀ (r : Option Value) (σ : aSt) (H : Heap) (locs : List Loc) (ls : Array Slot) (pc : Nat), Rr r σ → aRet bytes ret pc r → aWd ad D cA σ0 A σ H → va_S A s.heap H locs → W p l e R s m args below meth c H locs cells slots Q (F0 m pc ls ((r.map (cv ad)).toList))) {n : Int} {pc a b w : Nat} {v : Value} {ts : List Nat} {k : Nat} {L : aLo} {S : List Value} {σ : aSt} {H : Heap} {locs : List Loc} {ls : Array Slot} (hcd : ckD bytes (pc, .bipush n, a, b, w, v, ts) = true) (hca : ckA mt own ret code k (pc, .bipush n, a, b, w, v, ts) = true) (hs0 : aStep C Rr K (pc, .bipush n, a, b, w, v, ts) k L S σ) (hW : aWd ad D cA σ0 A σ H) (hS : va_S A s.heap H locs) (hL : L.length = nL) (hl : lv_has ls nL (lcn ad 0 L)) : W p l e R s m args below meth c H locs cells slots Q (F0 m pc ls (S.map (cv ad))) := by
  have X' := X
  obtain ⟨hx, hb, hml, hown, hts, hKK, hO, hSt, -⟩ := X
  have hd : decode bytes pc = .ok (.bipush n, 2) := ckD_ok hcd rfl
  dsimp only [ckA] at hca; rw [Bool.and_eq_true] at hca
  obtain ⟨h1, h2⟩ := hca
  have h1 := of_decide_eq_true h1
  try dsimp only at h1
  subst h1
  exact lv_bipush hx hb hd rfl (a_nx hK h2 hs0 hW hS hL hl)
set_option maxHeartbeats 1000000 in
theorem st_sipush (X : aCtx p l R s m args c cells slots ad adV fm D cA σ0 A own bytes nL mt C rm) (hK : ∀ k L S σ, K k L S σ → aWc p l e R s m args below meth c cells slots Q ad D cA σ0 A nL code k L S σ) (hR : ∀ (r : Option Value) (σ : aSt) (H : Heap) (locs : List Loc) (ls : Array Slot) (pc : Nat), Rr r σ → aRet bytes ret pc r → aWd ad D cA σ0 A σ H → va_S A s.heap H locs → W p l e R s m args below meth c H locs cells slots Q (F0 m pc ls ((r.map (cv ad)).toList))) {n : Int} {pc a b w : Nat} {v : Value} {ts : List Nat} {k : Nat} {L : aLo} {S : List Value} {σ : aSt} {H : Heap} {locs : List Loc} {ls : Array Slot} (hcd : ckD bytes (pc, .sipush n, a, b, w, v, ts) = true) (hca : ckA mt own ret code k (pc, .sipush n, a, b, w, v, ts) = true) (hs0 : aStep C Rr K (pc, .sipush n, a, b, w, v, ts) k L S σ) (hW : aWd ad D cA σ0 A σ H) (hS : va_S A s.heap H locs) (hL : L.length = nL) (hl : lv_has ls nL (lcn ad 0 L)) : W p l e R s m args below meth c H locs cells slots Q (F0 m pc ls (S.map (cv ad))) := by
  have X' := X
  obtain ⟨hx, hb, hml, hown, hts, hKK, hO, hSt, -⟩ := X
  have hd : decode bytes pc = .ok (.sipush n, 3) := ckD_ok hcd rfl
  dsimp only [ckA] at hca; rw [Bool.and_eq_true] at hca
  obtain ⟨h1, h2⟩ := hca
  have h1 := of_decide_eq_true h1
  try dsimp only at h1
  subst h1
  exact lv_sipush hx hb hd rfl (a_nx hK h2 hs0 hW hS hL hl)
set_option maxHeartbeats 1000000 in
theorem st_lconst (X : aCtx p l R s m args c cells slots ad adV fm D cA σ0 A own bytes nL mt C rm) (hK : ∀ k L S σ, K k L S σ → aWc p l e R s m args below meth c cells slots Q ad D cA σ0 A nL code k L S σ) (hR : ∀ (r : Option Value) (σ : aSt) (H : Heap) (locs : List Loc) (ls : Array Slot) (pc : Nat), Rr r σ → aRet bytes ret pc r → aWd ad D cA σ0 A σ H → va_S A s.heap H locs → W p l e R s m args below meth c H locs cells slots Q (F0 m pc ls ((r.map (cv ad)).toList))) {n : Fin 2} {pc a b w : Nat} {v : Value} {ts : List Nat} {k : Nat} {L : aLo} {S : List Value} {σ : aSt} {H : Heap} {locs : List Loc} {ls : Array Slot} (hcd : ckD bytes (pc, .lconst n, a, b, w, v, ts) = true) (hca : ckA mt own ret code k (pc, .lconst n, a, b, w, v, ts) = true) (hs0 : aStep C Rr K (pc, .lconst n, a, b, w, v, ts) k L S σ) (hW : aWd ad D cA σ0 A σ H) (hS : va_S A s.heap H locs) (hL : L.length = nL) (hl : lv_has ls nL (lcn ad 0 L)) : W p l e R s m args below meth c H locs cells slots Q (F0 m pc ls (S.map (cv ad))) := by
  have X' := X
  obtain ⟨hx, hb, hml, hown, hts, hKK, hO, hSt, -⟩ := X
  have hd : decode bytes pc = .ok (.lconst n, 1) := ckD_ok hcd rfl
  dsimp only [ckA] at hca; rw [Bool.and_eq_true] at hca
  obtain ⟨h1, h2⟩ := hca
  have h1 := of_decide_eq_true h1
  try dsimp only at h1
  subst h1
  exact lv_lconst hx hb hd rfl (a_nx hK h2 hs0 hW hS hL hl)
set_option maxHeartbeats 1000000 in
theorem st_ldc (X : aCtx p l R s m args c cells slots ad adV fm D cA σ0 A own bytes nL mt C rm) (hK : ∀ k L S σ, K k L S σ → aWc p l e R s m args below meth c cells slots Q ad D cA σ0 A nL code k L S σ) (hR : ∀ (r : Option Value) (σ : aSt) (H : Heap) (locs : List Loc) (ls : Array Slot) (pc : Nat), Rr r σ → aRet bytes ret pc r → aWd ad D cA σ0 A σ H → va_S A s.heap H locs → W p l e R s m args below meth c H locs cells slots Q (F0 m pc ls ((r.map (cv ad)).toList))) {i : Nat} {pc a b w : Nat} {v : Value} {ts : List Nat} {k : Nat} {L : aLo} {S : List Value} {σ : aSt} {H : Heap} {locs : List Loc} {ls : Array Slot} (hcd : ckD bytes (pc, .ldc i, a, b, w, v, ts) = true) (hca : ckA mt own ret code k (pc, .ldc i, a, b, w, v, ts) = true) (hs0 : aStep C Rr K (pc, .ldc i, a, b, w, v, ts) k L S σ) (hW : aWd ad D cA σ0 A σ H) (hS : va_S A s.heap H locs) (hL : L.length = nL) (hl : lv_has ls nL (lcn ad 0 L)) : W p l e R s m args below meth c H locs cells slots Q (F0 m pc ls (S.map (cv ad))) := by
  have X' := X
  obtain ⟨hx, hb, hml, hown, hts, hKK, hO, hSt, -⟩ := X
  have hd : decode bytes pc = .ok (.ldc i, 2) := ckD_ok hcd rfl
  dsimp only [ckA] at hca; rw [Bool.and_eq_true] at hca
  obtain ⟨h1, h2⟩ := hca
  cases v with
  | int x => exact lv_ldc hx hb hown (hts _ (wd_good h1)) hd (a_nx hK h2 hs0 hW hS hL hl)
  | ref j =>
    dsimp only at h1
    obtain ⟨q9, h3, h4⟩ := List.any_eq_true.mp h1
    simp only [Bool.and_eq_true, decide_eq_true_eq] at h4
    obtain ⟨⟨h4, h5⟩, h6⟩ := h4
    have h5 := Nat.eq_of_beq_eq_true h5
    have h6 := Nat.eq_of_beq_eq_true h6
    have h7 := hSt q9 h3
    rw [h4, h5, h6] at h7
    exact va_ldcS hx hb hown h7 hd (a_nx hK h2 hs0 hW hS hL hl)
  | _ => cases h1
set_option maxHeartbeats 1000000 in
theorem st_ldc_w (X : aCtx p l R s m args c cells slots ad adV fm D cA σ0 A own bytes nL mt C rm) (hK : ∀ k L S σ, K k L S σ → aWc p l e R s m args below meth c cells slots Q ad D cA σ0 A nL code k L S σ) (hR : ∀ (r : Option Value) (σ : aSt) (H : Heap) (locs : List Loc) (ls : Array Slot) (pc : Nat), Rr r σ → aRet bytes ret pc r → aWd ad D cA σ0 A σ H → va_S A s.heap H locs → W p l e R s m args below meth c H locs cells slots Q (F0 m pc ls ((r.map (cv ad)).toList))) {i : Nat} {pc a b w : Nat} {v : Value} {ts : List Nat} {k : Nat} {L : aLo} {S : List Value} {σ : aSt} {H : Heap} {locs : List Loc} {ls : Array Slot} (hcd : ckD bytes (pc, .ldc_w i, a, b, w, v, ts) = true) (hca : ckA mt own ret code k (pc, .ldc_w i, a, b, w, v, ts) = true) (hs0 : aStep C Rr K (pc, .ldc_w i, a, b, w, v, ts) k L S σ) (hW : aWd ad D cA σ0 A σ H) (hS : va_S A s.heap H locs) (hL : L.length = nL) (hl : lv_has ls nL (lcn ad 0 L)) : W p l e R s m args below meth c H locs cells slots Q (F0 m pc ls (S.map (cv ad))) := by
  have X' := X
  obtain ⟨hx, hb, hml, hown, hts, hKK, hO, hSt, -⟩ := X
  have hd : decode bytes pc = .ok (.ldc_w i, 3) := ckD_ok hcd rfl
  dsimp only [ckA] at hca; rw [Bool.and_eq_true] at hca
  obtain ⟨h1, h2⟩ := hca
  cases v with
  | int x => exact lv_ldcw hx hb hown (hts _ (wd_good h1)) hd (a_nx hK h2 hs0 hW hS hL hl)
  | ref j =>
    dsimp only at h1
    obtain ⟨q9, h3, h4⟩ := List.any_eq_true.mp h1
    simp only [Bool.and_eq_true, decide_eq_true_eq] at h4
    obtain ⟨⟨h4, h5⟩, h6⟩ := h4
    have h5 := Nat.eq_of_beq_eq_true h5
    have h6 := Nat.eq_of_beq_eq_true h6
    have h7 := hSt q9 h3
    rw [h4, h5, h6] at h7
    exact a_ldcwS hx hb hown h7 hd (a_nx hK h2 hs0 hW hS hL hl)
  | _ => cases h1
set_option maxHeartbeats 1000000 in
theorem st_ldc2_w (X : aCtx p l R s m args c cells slots ad adV fm D cA σ0 A own bytes nL mt C rm) (hK : ∀ k L S σ, K k L S σ → aWc p l e R s m args below meth c cells slots Q ad D cA σ0 A nL code k L S σ) (hR : ∀ (r : Option Value) (σ : aSt) (H : Heap) (locs : List Loc) (ls : Array Slot) (pc : Nat), Rr r σ → aRet bytes ret pc r → aWd ad D cA σ0 A σ H → va_S A s.heap H locs → W p l e R s m args below meth c H locs cells slots Q (F0 m pc ls ((r.map (cv ad)).toList))) {i : Nat} {pc a b w : Nat} {v : Value} {ts : List Nat} {k : Nat} {L : aLo} {S : List Value} {σ : aSt} {H : Heap} {locs : List Loc} {ls : Array Slot} (hcd : ckD bytes (pc, .ldc2_w i, a, b, w, v, ts) = true) (hca : ckA mt own ret code k (pc, .ldc2_w i, a, b, w, v, ts) = true) (hs0 : aStep C Rr K (pc, .ldc2_w i, a, b, w, v, ts) k L S σ) (hW : aWd ad D cA σ0 A σ H) (hS : va_S A s.heap H locs) (hL : L.length = nL) (hl : lv_has ls nL (lcn ad 0 L)) : W p l e R s m args below meth c H locs cells slots Q (F0 m pc ls (S.map (cv ad))) := by
  have X' := X
  obtain ⟨hx, hb, hml, hown, hts, hKK, hO, hSt, -⟩ := X
  have hd : decode bytes pc = .ok (.ldc2_w i, 3) := ckD_ok hcd rfl
  dsimp only [ckA] at hca; rw [Bool.and_eq_true] at hca
  obtain ⟨h1, h2⟩ := hca
  cases v with
  | long x => exact lv_ldc2 hx hb hown (hts _ (wd_good h1)) hd (a_nx hK h2 hs0 hW hS hL hl)
  | _ => cases h1
set_option maxHeartbeats 1000000 in
theorem st_iload (X : aCtx p l R s m args c cells slots ad adV fm D cA σ0 A own bytes nL mt C rm) (hK : ∀ k L S σ, K k L S σ → aWc p l e R s m args below meth c cells slots Q ad D cA σ0 A nL code k L S σ) (hR : ∀ (r : Option Value) (σ : aSt) (H : Heap) (locs : List Loc) (ls : Array Slot) (pc : Nat), Rr r σ → aRet bytes ret pc r → aWd ad D cA σ0 A σ H → va_S A s.heap H locs → W p l e R s m args below meth c H locs cells slots Q (F0 m pc ls ((r.map (cv ad)).toList))) {i : Nat} {pc a b w : Nat} {v : Value} {ts : List Nat} {k : Nat} {L : aLo} {S : List Value} {σ : aSt} {H : Heap} {locs : List Loc} {ls : Array Slot} (hcd : ckD bytes (pc, .iload i, a, b, w, v, ts) = true) (hca : ckA mt own ret code k (pc, .iload i, a, b, w, v, ts) = true) (hs0 : aStep C Rr K (pc, .iload i, a, b, w, v, ts) k L S σ) (hW : aWd ad D cA σ0 A σ H) (hS : va_S A s.heap H locs) (hL : L.length = nL) (hl : lv_has ls nL (lcn ad 0 L)) : W p l e R s m args below meth c H locs cells slots Q (F0 m pc ls (S.map (cv ad))) := by
  have X' := X
  obtain ⟨hx, hb, hml, hown, hts, hKK, hO, hSt, -⟩ := X
  have hd : decode bytes pc = .ok (.iload i, 2) := ckD_ok hcd rfl
  obtain ⟨x, hx9, hs⟩ := gI_of hs0
  exact lv_iload hx hb hd (lcn_at hl hx9) (a_nx hK hca hs hW hS hL hl)
set_option maxHeartbeats 1000000 in
theorem st_iload_n (X : aCtx p l R s m args c cells slots ad adV fm D cA σ0 A own bytes nL mt C rm) (hK : ∀ k L S σ, K k L S σ → aWc p l e R s m args below meth c cells slots Q ad D cA σ0 A nL code k L S σ) (hR : ∀ (r : Option Value) (σ : aSt) (H : Heap) (locs : List Loc) (ls : Array Slot) (pc : Nat), Rr r σ → aRet bytes ret pc r → aWd ad D cA σ0 A σ H → va_S A s.heap H locs → W p l e R s m args below meth c H locs cells slots Q (F0 m pc ls ((r.map (cv ad)).toList))) {i : Fin 4} {pc a b w : Nat} {v : Value} {ts : List Nat} {k : Nat} {L : aLo} {S : List Value} {σ : aSt} {H : Heap} {locs : List Loc} {ls : Array Slot} (hcd : ckD bytes (pc, .iload_n i, a, b, w, v, ts) = true) (hca : ckA mt own ret code k (pc, .iload_n i, a, b, w, v, ts) = true) (hs0 : aStep C Rr K (pc, .iload_n i, a, b, w, v, ts) k L S σ) (hW : aWd ad D cA σ0 A σ H) (hS : va_S A s.heap H locs) (hL : L.length = nL) (hl : lv_has ls nL (lcn ad 0 L)) : W p l e R s m args below meth c H locs cells slots Q (F0 m pc ls (S.map (cv ad))) := by
  have X' := X
  obtain ⟨hx, hb, hml, hown, hts, hKK, hO, hSt, -⟩ := X
  have hd : decode bytes pc = .ok (.iload_n i, 1) := ckD_ok hcd rfl
  obtain ⟨x, hx9, hs⟩ := gI_of hs0
  exact lv_iload_n hx hb hd rfl (lcn_at hl hx9) (a_nx hK hca hs hW hS hL hl)
set_option maxHeartbeats 1000000 in
theorem st_lload (X : aCtx p l R s m args c cells slots ad adV fm D cA σ0 A own bytes nL mt C rm) (hK : ∀ k L S σ, K k L S σ → aWc p l e R s m args below meth c cells slots Q ad D cA σ0 A nL code k L S σ) (hR : ∀ (r : Option Value) (σ : aSt) (H : Heap) (locs : List Loc) (ls : Array Slot) (pc : Nat), Rr r σ → aRet bytes ret pc r → aWd ad D cA σ0 A σ H → va_S A s.heap H locs → W p l e R s m args below meth c H locs cells slots Q (F0 m pc ls ((r.map (cv ad)).toList))) {i : Nat} {pc a b w : Nat} {v : Value} {ts : List Nat} {k : Nat} {L : aLo} {S : List Value} {σ : aSt} {H : Heap} {locs : List Loc} {ls : Array Slot} (hcd : ckD bytes (pc, .lload i, a, b, w, v, ts) = true) (hca : ckA mt own ret code k (pc, .lload i, a, b, w, v, ts) = true) (hs0 : aStep C Rr K (pc, .lload i, a, b, w, v, ts) k L S σ) (hW : aWd ad D cA σ0 A σ H) (hS : va_S A s.heap H locs) (hL : L.length = nL) (hl : lv_has ls nL (lcn ad 0 L)) : W p l e R s m args below meth c H locs cells slots Q (F0 m pc ls (S.map (cv ad))) := by
  have X' := X
  obtain ⟨hx, hb, hml, hown, hts, hKK, hO, hSt, -⟩ := X
  have hd : decode bytes pc = .ok (.lload i, 2) := ckD_ok hcd rfl
  obtain ⟨x, hx9, hs⟩ := gL_of hs0
  exact lv_lload hx hb hd (lcn_at hl hx9) (a_nx hK hca hs hW hS hL hl)
set_option maxHeartbeats 1000000 in
theorem st_lload_n (X : aCtx p l R s m args c cells slots ad adV fm D cA σ0 A own bytes nL mt C rm) (hK : ∀ k L S σ, K k L S σ → aWc p l e R s m args below meth c cells slots Q ad D cA σ0 A nL code k L S σ) (hR : ∀ (r : Option Value) (σ : aSt) (H : Heap) (locs : List Loc) (ls : Array Slot) (pc : Nat), Rr r σ → aRet bytes ret pc r → aWd ad D cA σ0 A σ H → va_S A s.heap H locs → W p l e R s m args below meth c H locs cells slots Q (F0 m pc ls ((r.map (cv ad)).toList))) {i : Fin 4} {pc a b w : Nat} {v : Value} {ts : List Nat} {k : Nat} {L : aLo} {S : List Value} {σ : aSt} {H : Heap} {locs : List Loc} {ls : Array Slot} (hcd : ckD bytes (pc, .lload_n i, a, b, w, v, ts) = true) (hca : ckA mt own ret code k (pc, .lload_n i, a, b, w, v, ts) = true) (hs0 : aStep C Rr K (pc, .lload_n i, a, b, w, v, ts) k L S σ) (hW : aWd ad D cA σ0 A σ H) (hS : va_S A s.heap H locs) (hL : L.length = nL) (hl : lv_has ls nL (lcn ad 0 L)) : W p l e R s m args below meth c H locs cells slots Q (F0 m pc ls (S.map (cv ad))) := by
  have X' := X
  obtain ⟨hx, hb, hml, hown, hts, hKK, hO, hSt, -⟩ := X
  have hd : decode bytes pc = .ok (.lload_n i, 1) := ckD_ok hcd rfl
  obtain ⟨x, hx9, hs⟩ := gL_of hs0
  exact lv_lload_n hx hb hd rfl (lcn_at hl hx9) (a_nx hK hca hs hW hS hL hl)
set_option maxHeartbeats 1000000 in
theorem st_aload (X : aCtx p l R s m args c cells slots ad adV fm D cA σ0 A own bytes nL mt C rm) (hK : ∀ k L S σ, K k L S σ → aWc p l e R s m args below meth c cells slots Q ad D cA σ0 A nL code k L S σ) (hR : ∀ (r : Option Value) (σ : aSt) (H : Heap) (locs : List Loc) (ls : Array Slot) (pc : Nat), Rr r σ → aRet bytes ret pc r → aWd ad D cA σ0 A σ H → va_S A s.heap H locs → W p l e R s m args below meth c H locs cells slots Q (F0 m pc ls ((r.map (cv ad)).toList))) {i : Nat} {pc a b w : Nat} {v : Value} {ts : List Nat} {k : Nat} {L : aLo} {S : List Value} {σ : aSt} {H : Heap} {locs : List Loc} {ls : Array Slot} (hcd : ckD bytes (pc, .aload i, a, b, w, v, ts) = true) (hca : ckA mt own ret code k (pc, .aload i, a, b, w, v, ts) = true) (hs0 : aStep C Rr K (pc, .aload i, a, b, w, v, ts) k L S σ) (hW : aWd ad D cA σ0 A σ H) (hS : va_S A s.heap H locs) (hL : L.length = nL) (hl : lv_has ls nL (lcn ad 0 L)) : W p l e R s m args below meth c H locs cells slots Q (F0 m pc ls (S.map (cv ad))) := by
  have X' := X
  obtain ⟨hx, hb, hml, hown, hts, hKK, hO, hSt, -⟩ := X
  have hd : decode bytes pc = .ok (.aload i, 2) := ckD_ok hcd rfl
  obtain ⟨x, hx9, hs⟩ := gR_of hs0
  exact lv_aload hx hb hd (lcn_at hl hx9) (a_nx hK hca hs hW hS hL hl)
set_option maxHeartbeats 1000000 in
theorem st_aload_n (X : aCtx p l R s m args c cells slots ad adV fm D cA σ0 A own bytes nL mt C rm) (hK : ∀ k L S σ, K k L S σ → aWc p l e R s m args below meth c cells slots Q ad D cA σ0 A nL code k L S σ) (hR : ∀ (r : Option Value) (σ : aSt) (H : Heap) (locs : List Loc) (ls : Array Slot) (pc : Nat), Rr r σ → aRet bytes ret pc r → aWd ad D cA σ0 A σ H → va_S A s.heap H locs → W p l e R s m args below meth c H locs cells slots Q (F0 m pc ls ((r.map (cv ad)).toList))) {i : Fin 4} {pc a b w : Nat} {v : Value} {ts : List Nat} {k : Nat} {L : aLo} {S : List Value} {σ : aSt} {H : Heap} {locs : List Loc} {ls : Array Slot} (hcd : ckD bytes (pc, .aload_n i, a, b, w, v, ts) = true) (hca : ckA mt own ret code k (pc, .aload_n i, a, b, w, v, ts) = true) (hs0 : aStep C Rr K (pc, .aload_n i, a, b, w, v, ts) k L S σ) (hW : aWd ad D cA σ0 A σ H) (hS : va_S A s.heap H locs) (hL : L.length = nL) (hl : lv_has ls nL (lcn ad 0 L)) : W p l e R s m args below meth c H locs cells slots Q (F0 m pc ls (S.map (cv ad))) := by
  have X' := X
  obtain ⟨hx, hb, hml, hown, hts, hKK, hO, hSt, -⟩ := X
  have hd : decode bytes pc = .ok (.aload_n i, 1) := ckD_ok hcd rfl
  obtain ⟨x, hx9, hs⟩ := gR_of hs0
  exact lv_aload_n hx hb hd rfl (lcn_at hl hx9) (a_nx hK hca hs hW hS hL hl)
set_option maxHeartbeats 1000000 in
theorem st_istore (X : aCtx p l R s m args c cells slots ad adV fm D cA σ0 A own bytes nL mt C rm) (hK : ∀ k L S σ, K k L S σ → aWc p l e R s m args below meth c cells slots Q ad D cA σ0 A nL code k L S σ) (hR : ∀ (r : Option Value) (σ : aSt) (H : Heap) (locs : List Loc) (ls : Array Slot) (pc : Nat), Rr r σ → aRet bytes ret pc r → aWd ad D cA σ0 A σ H → va_S A s.heap H locs → W p l e R s m args below meth c H locs cells slots Q (F0 m pc ls ((r.map (cv ad)).toList))) {i : Nat} {pc a b w : Nat} {v : Value} {ts : List Nat} {k : Nat} {L : aLo} {S : List Value} {σ : aSt} {H : Heap} {locs : List Loc} {ls : Array Slot} (hcd : ckD bytes (pc, .istore i, a, b, w, v, ts) = true) (hca : ckA mt own ret code k (pc, .istore i, a, b, w, v, ts) = true) (hs0 : aStep C Rr K (pc, .istore i, a, b, w, v, ts) k L S σ) (hW : aWd ad D cA σ0 A σ H) (hS : va_S A s.heap H locs) (hL : L.length = nL) (hl : lv_has ls nL (lcn ad 0 L)) : W p l e R s m args below meth c H locs cells slots Q (F0 m pc ls (S.map (cv ad))) := by
  have X' := X
  obtain ⟨hx, hb, hml, hown, hts, hKK, hO, hSt, -⟩ := X
  have hd : decode bytes pc = .ok (.istore i, 2) := ckD_ok hcd rfl
  obtain ⟨x, S1, rfl, hs⟩ := pI_of hs0
  obtain ⟨hok, hs⟩ := cond_and hs
  try dsimp only at hok hs
  refine lv_istore hx hb hd hl (by unfold okS at hok; rw [Bool.and_eq_true] at hok; have := hok.1; rw [← hL]; simpa [Nat.blt_eq] using this) rfl (fun ls1 hl1 => ?_)
  exact a_nx hK hca hs hW hS ((lst1_len _ _ _ _).trans hL) (lcn_st1 (v := .int x) hok hl1)
set_option maxHeartbeats 1000000 in
theorem st_istore_n (X : aCtx p l R s m args c cells slots ad adV fm D cA σ0 A own bytes nL mt C rm) (hK : ∀ k L S σ, K k L S σ → aWc p l e R s m args below meth c cells slots Q ad D cA σ0 A nL code k L S σ) (hR : ∀ (r : Option Value) (σ : aSt) (H : Heap) (locs : List Loc) (ls : Array Slot) (pc : Nat), Rr r σ → aRet bytes ret pc r → aWd ad D cA σ0 A σ H → va_S A s.heap H locs → W p l e R s m args below meth c H locs cells slots Q (F0 m pc ls ((r.map (cv ad)).toList))) {i : Fin 4} {pc a b w : Nat} {v : Value} {ts : List Nat} {k : Nat} {L : aLo} {S : List Value} {σ : aSt} {H : Heap} {locs : List Loc} {ls : Array Slot} (hcd : ckD bytes (pc, .istore_n i, a, b, w, v, ts) = true) (hca : ckA mt own ret code k (pc, .istore_n i, a, b, w, v, ts) = true) (hs0 : aStep C Rr K (pc, .istore_n i, a, b, w, v, ts) k L S σ) (hW : aWd ad D cA σ0 A σ H) (hS : va_S A s.heap H locs) (hL : L.length = nL) (hl : lv_has ls nL (lcn ad 0 L)) : W p l e R s m args below meth c H locs cells slots Q (F0 m pc ls (S.map (cv ad))) := by
  have X' := X
  obtain ⟨hx, hb, hml, hown, hts, hKK, hO, hSt, -⟩ := X
  have hd : decode bytes pc = .ok (.istore_n i, 1) := ckD_ok hcd rfl
  obtain ⟨x, S1, rfl, hs⟩ := pI_of hs0
  obtain ⟨hok, hs⟩ := cond_and hs
  try dsimp only at hok hs
  refine lv_istore_n hx hb hd rfl hl (by unfold okS at hok; rw [Bool.and_eq_true] at hok; have := hok.1; rw [← hL]; simpa [Nat.blt_eq] using this) rfl (fun ls1 hl1 => ?_)
  exact a_nx hK hca hs hW hS ((lst1_len _ _ _ _).trans hL) (lcn_st1 (v := .int x) hok hl1)
set_option maxHeartbeats 1000000 in
theorem st_lstore (X : aCtx p l R s m args c cells slots ad adV fm D cA σ0 A own bytes nL mt C rm) (hK : ∀ k L S σ, K k L S σ → aWc p l e R s m args below meth c cells slots Q ad D cA σ0 A nL code k L S σ) (hR : ∀ (r : Option Value) (σ : aSt) (H : Heap) (locs : List Loc) (ls : Array Slot) (pc : Nat), Rr r σ → aRet bytes ret pc r → aWd ad D cA σ0 A σ H → va_S A s.heap H locs → W p l e R s m args below meth c H locs cells slots Q (F0 m pc ls ((r.map (cv ad)).toList))) {i : Nat} {pc a b w : Nat} {v : Value} {ts : List Nat} {k : Nat} {L : aLo} {S : List Value} {σ : aSt} {H : Heap} {locs : List Loc} {ls : Array Slot} (hcd : ckD bytes (pc, .lstore i, a, b, w, v, ts) = true) (hca : ckA mt own ret code k (pc, .lstore i, a, b, w, v, ts) = true) (hs0 : aStep C Rr K (pc, .lstore i, a, b, w, v, ts) k L S σ) (hW : aWd ad D cA σ0 A σ H) (hS : va_S A s.heap H locs) (hL : L.length = nL) (hl : lv_has ls nL (lcn ad 0 L)) : W p l e R s m args below meth c H locs cells slots Q (F0 m pc ls (S.map (cv ad))) := by
  have X' := X
  obtain ⟨hx, hb, hml, hown, hts, hKK, hO, hSt, -⟩ := X
  have hd : decode bytes pc = .ok (.lstore i, 2) := ckD_ok hcd rfl
  obtain ⟨x, S1, rfl, hs⟩ := pL_of hs0
  obtain ⟨hok, hs⟩ := cond_and hs
  try dsimp only at hok hs
  refine lv_lstore hx hb hd hl (by unfold okS2 at hok; rw [Bool.and_eq_true] at hok; have := hok.1; rw [← hL]; simpa [Nat.blt_eq] using this) rfl (fun ls1 hl1 => ?_)
  exact a_nx hK hca hs hW hS ((lst2_len _ _ _ _).trans hL) (lcn_st2 (v := .long x) hok hl1)
set_option maxHeartbeats 1000000 in
theorem st_lstore_n (X : aCtx p l R s m args c cells slots ad adV fm D cA σ0 A own bytes nL mt C rm) (hK : ∀ k L S σ, K k L S σ → aWc p l e R s m args below meth c cells slots Q ad D cA σ0 A nL code k L S σ) (hR : ∀ (r : Option Value) (σ : aSt) (H : Heap) (locs : List Loc) (ls : Array Slot) (pc : Nat), Rr r σ → aRet bytes ret pc r → aWd ad D cA σ0 A σ H → va_S A s.heap H locs → W p l e R s m args below meth c H locs cells slots Q (F0 m pc ls ((r.map (cv ad)).toList))) {i : Fin 4} {pc a b w : Nat} {v : Value} {ts : List Nat} {k : Nat} {L : aLo} {S : List Value} {σ : aSt} {H : Heap} {locs : List Loc} {ls : Array Slot} (hcd : ckD bytes (pc, .lstore_n i, a, b, w, v, ts) = true) (hca : ckA mt own ret code k (pc, .lstore_n i, a, b, w, v, ts) = true) (hs0 : aStep C Rr K (pc, .lstore_n i, a, b, w, v, ts) k L S σ) (hW : aWd ad D cA σ0 A σ H) (hS : va_S A s.heap H locs) (hL : L.length = nL) (hl : lv_has ls nL (lcn ad 0 L)) : W p l e R s m args below meth c H locs cells slots Q (F0 m pc ls (S.map (cv ad))) := by
  have X' := X
  obtain ⟨hx, hb, hml, hown, hts, hKK, hO, hSt, -⟩ := X
  have hd : decode bytes pc = .ok (.lstore_n i, 1) := ckD_ok hcd rfl
  obtain ⟨x, S1, rfl, hs⟩ := pL_of hs0
  obtain ⟨hok, hs⟩ := cond_and hs
  try dsimp only at hok hs
  refine lv_lstore_n hx hb hd rfl hl (by unfold okS2 at hok; rw [Bool.and_eq_true] at hok; have := hok.1; rw [← hL]; simpa [Nat.blt_eq] using this) rfl (fun ls1 hl1 => ?_)
  exact a_nx hK hca hs hW hS ((lst2_len _ _ _ _).trans hL) (lcn_st2 (v := .long x) hok hl1)
set_option maxHeartbeats 1000000 in
theorem st_astore (X : aCtx p l R s m args c cells slots ad adV fm D cA σ0 A own bytes nL mt C rm) (hK : ∀ k L S σ, K k L S σ → aWc p l e R s m args below meth c cells slots Q ad D cA σ0 A nL code k L S σ) (hR : ∀ (r : Option Value) (σ : aSt) (H : Heap) (locs : List Loc) (ls : Array Slot) (pc : Nat), Rr r σ → aRet bytes ret pc r → aWd ad D cA σ0 A σ H → va_S A s.heap H locs → W p l e R s m args below meth c H locs cells slots Q (F0 m pc ls ((r.map (cv ad)).toList))) {i : Nat} {pc a b w : Nat} {v : Value} {ts : List Nat} {k : Nat} {L : aLo} {S : List Value} {σ : aSt} {H : Heap} {locs : List Loc} {ls : Array Slot} (hcd : ckD bytes (pc, .astore i, a, b, w, v, ts) = true) (hca : ckA mt own ret code k (pc, .astore i, a, b, w, v, ts) = true) (hs0 : aStep C Rr K (pc, .astore i, a, b, w, v, ts) k L S σ) (hW : aWd ad D cA σ0 A σ H) (hS : va_S A s.heap H locs) (hL : L.length = nL) (hl : lv_has ls nL (lcn ad 0 L)) : W p l e R s m args below meth c H locs cells slots Q (F0 m pc ls (S.map (cv ad))) := by
  have X' := X
  obtain ⟨hx, hb, hml, hown, hts, hKK, hO, hSt, -⟩ := X
  have hd : decode bytes pc = .ok (.astore i, 2) := ckD_ok hcd rfl
  obtain ⟨x, S1, rfl, hs⟩ := pR_of hs0
  obtain ⟨hok, hs⟩ := cond_and hs
  try dsimp only at hok hs
  refine lv_astore hx hb hd hl (by unfold okS at hok; rw [Bool.and_eq_true] at hok; have := hok.1; rw [← hL]; simpa [Nat.blt_eq] using this) rfl (fun ls1 hl1 => ?_)
  exact a_nx hK hca hs hW hS ((lst1_len _ _ _ _).trans hL) (lcn_st1 (v := .ref x) hok hl1)
set_option maxHeartbeats 1000000 in
theorem st_astore_n (X : aCtx p l R s m args c cells slots ad adV fm D cA σ0 A own bytes nL mt C rm) (hK : ∀ k L S σ, K k L S σ → aWc p l e R s m args below meth c cells slots Q ad D cA σ0 A nL code k L S σ) (hR : ∀ (r : Option Value) (σ : aSt) (H : Heap) (locs : List Loc) (ls : Array Slot) (pc : Nat), Rr r σ → aRet bytes ret pc r → aWd ad D cA σ0 A σ H → va_S A s.heap H locs → W p l e R s m args below meth c H locs cells slots Q (F0 m pc ls ((r.map (cv ad)).toList))) {i : Fin 4} {pc a b w : Nat} {v : Value} {ts : List Nat} {k : Nat} {L : aLo} {S : List Value} {σ : aSt} {H : Heap} {locs : List Loc} {ls : Array Slot} (hcd : ckD bytes (pc, .astore_n i, a, b, w, v, ts) = true) (hca : ckA mt own ret code k (pc, .astore_n i, a, b, w, v, ts) = true) (hs0 : aStep C Rr K (pc, .astore_n i, a, b, w, v, ts) k L S σ) (hW : aWd ad D cA σ0 A σ H) (hS : va_S A s.heap H locs) (hL : L.length = nL) (hl : lv_has ls nL (lcn ad 0 L)) : W p l e R s m args below meth c H locs cells slots Q (F0 m pc ls (S.map (cv ad))) := by
  have X' := X
  obtain ⟨hx, hb, hml, hown, hts, hKK, hO, hSt, -⟩ := X
  have hd : decode bytes pc = .ok (.astore_n i, 1) := ckD_ok hcd rfl
  obtain ⟨x, S1, rfl, hs⟩ := pR_of hs0
  obtain ⟨hok, hs⟩ := cond_and hs
  try dsimp only at hok hs
  refine lv_astore_n hx hb hd rfl hl (by unfold okS at hok; rw [Bool.and_eq_true] at hok; have := hok.1; rw [← hL]; simpa [Nat.blt_eq] using this) rfl (fun ls1 hl1 => ?_)
  exact a_nx hK hca hs hW hS ((lst1_len _ _ _ _).trans hL) (lcn_st1 (v := .ref x) hok hl1)
set_option maxHeartbeats 1000000 in
theorem st_iinc (X : aCtx p l R s m args c cells slots ad adV fm D cA σ0 A own bytes nL mt C rm) (hK : ∀ k L S σ, K k L S σ → aWc p l e R s m args below meth c cells slots Q ad D cA σ0 A nL code k L S σ) (hR : ∀ (r : Option Value) (σ : aSt) (H : Heap) (locs : List Loc) (ls : Array Slot) (pc : Nat), Rr r σ → aRet bytes ret pc r → aWd ad D cA σ0 A σ H → va_S A s.heap H locs → W p l e R s m args below meth c H locs cells slots Q (F0 m pc ls ((r.map (cv ad)).toList))) {i : Nat} {n : Int} {pc a b w : Nat} {v : Value} {ts : List Nat} {k : Nat} {L : aLo} {S : List Value} {σ : aSt} {H : Heap} {locs : List Loc} {ls : Array Slot} (hcd : ckD bytes (pc, .iinc i n, a, b, w, v, ts) = true) (hca : ckA mt own ret code k (pc, .iinc i n, a, b, w, v, ts) = true) (hs0 : aStep C Rr K (pc, .iinc i n, a, b, w, v, ts) k L S σ) (hW : aWd ad D cA σ0 A σ H) (hS : va_S A s.heap H locs) (hL : L.length = nL) (hl : lv_has ls nL (lcn ad 0 L)) : W p l e R s m args below meth c H locs cells slots Q (F0 m pc ls (S.map (cv ad))) := by
  have X' := X
  obtain ⟨hx, hb, hml, hown, hts, hKK, hO, hSt, -⟩ := X
  have hd : decode bytes pc = .ok (.iinc i n, 3) := ckD_ok hcd rfl
  dsimp only [ckA] at hca; rw [Bool.and_eq_true] at hca
  obtain ⟨h1, h2⟩ := hca
  have h1 := of_decide_eq_true h1
  try dsimp only at h1
  subst h1
  obtain ⟨x, hx9, hs⟩ := gI_of hs0
  have hlt : i < nL := by rw [← hL]; exact (List.getElem?_eq_some_iff.mp hx9).1
  obtain ⟨k9, hk9⟩ := List.getElem?_of_mem (lcn_mem (ad := ad).mpr ⟨i, _, hx9, (Nat.zero_add i).symm, rfl⟩)
  refine lv_iinc (lv := lcn ad 0 L) hx hb hd hl hk9 rfl hlt rfl (fun ls1 hl1 => ?_)
  refine a_nx hK h2 hs hW hS (by simpa using hL) (lcn_sub hl1 (fun j u hu => ?_))
  rw [List.getElem?_set] at hu
  by_cases hj : i = j
  · subst hj
    rw [if_pos rfl, if_pos (by rw [hL]; exact hlt)] at hu
    cases hu
    exact List.mem_cons_self
  · rw [if_neg hj] at hu
    refine List.mem_cons_of_mem _ (List.mem_filter.mpr ⟨lcn_mem.mpr ⟨j, u, hu, by omega, rfl⟩, ?_⟩)
    simp only [Bool.and_eq_true, Bool.not_eq_true', beq_eq_false_iff_ne, ne_eq, Bool.and_eq_false_iff, cv_cat]
    refine ⟨fun q => hj q.symm, ?_⟩
    by_cases h4 : j + 1 = i
    · right
      intro h5
      have h6 := hl.2.1.1 j (cv ad u) (lcn_at hl hu) (by rw [cv_cat]; exact h5)
      rw [h4, lcn_at hl hx9] at h6
      cases h6
    · exact Or.inl h4
set_option maxHeartbeats 1000000 in
theorem st_iadd (X : aCtx p l R s m args c cells slots ad adV fm D cA σ0 A own bytes nL mt C rm) (hK : ∀ k L S σ, K k L S σ → aWc p l e R s m args below meth c cells slots Q ad D cA σ0 A nL code k L S σ) (hR : ∀ (r : Option Value) (σ : aSt) (H : Heap) (locs : List Loc) (ls : Array Slot) (pc : Nat), Rr r σ → aRet bytes ret pc r → aWd ad D cA σ0 A σ H → va_S A s.heap H locs → W p l e R s m args below meth c H locs cells slots Q (F0 m pc ls ((r.map (cv ad)).toList))) {pc a b w : Nat} {v : Value} {ts : List Nat} {k : Nat} {L : aLo} {S : List Value} {σ : aSt} {H : Heap} {locs : List Loc} {ls : Array Slot} (hcd : ckD bytes (pc, .iadd, a, b, w, v, ts) = true) (hca : ckA mt own ret code k (pc, .iadd, a, b, w, v, ts) = true) (hs0 : aStep C Rr K (pc, .iadd, a, b, w, v, ts) k L S σ) (hW : aWd ad D cA σ0 A σ H) (hS : va_S A s.heap H locs) (hL : L.length = nL) (hl : lv_has ls nL (lcn ad 0 L)) : W p l e R s m args below meth c H locs cells slots Q (F0 m pc ls (S.map (cv ad))) := by
  have X' := X
  obtain ⟨hx, hb, hml, hown, hts, hKK, hO, hSt, -⟩ := X
  have hd : decode bytes pc = .ok (.iadd, 1) := ckD_ok hcd rfl
  obtain ⟨x, y, S1, rfl, hs⟩ := pII_of hs0
  exact lv_iadd hx hb hd (a_nx hK hca hs hW hS hL hl)
set_option maxHeartbeats 1000000 in
theorem st_isub (X : aCtx p l R s m args c cells slots ad adV fm D cA σ0 A own bytes nL mt C rm) (hK : ∀ k L S σ, K k L S σ → aWc p l e R s m args below meth c cells slots Q ad D cA σ0 A nL code k L S σ) (hR : ∀ (r : Option Value) (σ : aSt) (H : Heap) (locs : List Loc) (ls : Array Slot) (pc : Nat), Rr r σ → aRet bytes ret pc r → aWd ad D cA σ0 A σ H → va_S A s.heap H locs → W p l e R s m args below meth c H locs cells slots Q (F0 m pc ls ((r.map (cv ad)).toList))) {pc a b w : Nat} {v : Value} {ts : List Nat} {k : Nat} {L : aLo} {S : List Value} {σ : aSt} {H : Heap} {locs : List Loc} {ls : Array Slot} (hcd : ckD bytes (pc, .isub, a, b, w, v, ts) = true) (hca : ckA mt own ret code k (pc, .isub, a, b, w, v, ts) = true) (hs0 : aStep C Rr K (pc, .isub, a, b, w, v, ts) k L S σ) (hW : aWd ad D cA σ0 A σ H) (hS : va_S A s.heap H locs) (hL : L.length = nL) (hl : lv_has ls nL (lcn ad 0 L)) : W p l e R s m args below meth c H locs cells slots Q (F0 m pc ls (S.map (cv ad))) := by
  have X' := X
  obtain ⟨hx, hb, hml, hown, hts, hKK, hO, hSt, -⟩ := X
  have hd : decode bytes pc = .ok (.isub, 1) := ckD_ok hcd rfl
  obtain ⟨x, y, S1, rfl, hs⟩ := pII_of hs0
  exact lv_isub hx hb hd (a_nx hK hca hs hW hS hL hl)
set_option maxHeartbeats 1000000 in
theorem st_imul (X : aCtx p l R s m args c cells slots ad adV fm D cA σ0 A own bytes nL mt C rm) (hK : ∀ k L S σ, K k L S σ → aWc p l e R s m args below meth c cells slots Q ad D cA σ0 A nL code k L S σ) (hR : ∀ (r : Option Value) (σ : aSt) (H : Heap) (locs : List Loc) (ls : Array Slot) (pc : Nat), Rr r σ → aRet bytes ret pc r → aWd ad D cA σ0 A σ H → va_S A s.heap H locs → W p l e R s m args below meth c H locs cells slots Q (F0 m pc ls ((r.map (cv ad)).toList))) {pc a b w : Nat} {v : Value} {ts : List Nat} {k : Nat} {L : aLo} {S : List Value} {σ : aSt} {H : Heap} {locs : List Loc} {ls : Array Slot} (hcd : ckD bytes (pc, .imul, a, b, w, v, ts) = true) (hca : ckA mt own ret code k (pc, .imul, a, b, w, v, ts) = true) (hs0 : aStep C Rr K (pc, .imul, a, b, w, v, ts) k L S σ) (hW : aWd ad D cA σ0 A σ H) (hS : va_S A s.heap H locs) (hL : L.length = nL) (hl : lv_has ls nL (lcn ad 0 L)) : W p l e R s m args below meth c H locs cells slots Q (F0 m pc ls (S.map (cv ad))) := by
  have X' := X
  obtain ⟨hx, hb, hml, hown, hts, hKK, hO, hSt, -⟩ := X
  have hd : decode bytes pc = .ok (.imul, 1) := ckD_ok hcd rfl
  obtain ⟨x, y, S1, rfl, hs⟩ := pII_of hs0
  exact lv_imul hx hb hd (a_nx hK hca hs hW hS hL hl)
set_option maxHeartbeats 1000000 in
theorem st_iand (X : aCtx p l R s m args c cells slots ad adV fm D cA σ0 A own bytes nL mt C rm) (hK : ∀ k L S σ, K k L S σ → aWc p l e R s m args below meth c cells slots Q ad D cA σ0 A nL code k L S σ) (hR : ∀ (r : Option Value) (σ : aSt) (H : Heap) (locs : List Loc) (ls : Array Slot) (pc : Nat), Rr r σ → aRet bytes ret pc r → aWd ad D cA σ0 A σ H → va_S A s.heap H locs → W p l e R s m args below meth c H locs cells slots Q (F0 m pc ls ((r.map (cv ad)).toList))) {pc a b w : Nat} {v : Value} {ts : List Nat} {k : Nat} {L : aLo} {S : List Value} {σ : aSt} {H : Heap} {locs : List Loc} {ls : Array Slot} (hcd : ckD bytes (pc, .iand, a, b, w, v, ts) = true) (hca : ckA mt own ret code k (pc, .iand, a, b, w, v, ts) = true) (hs0 : aStep C Rr K (pc, .iand, a, b, w, v, ts) k L S σ) (hW : aWd ad D cA σ0 A σ H) (hS : va_S A s.heap H locs) (hL : L.length = nL) (hl : lv_has ls nL (lcn ad 0 L)) : W p l e R s m args below meth c H locs cells slots Q (F0 m pc ls (S.map (cv ad))) := by
  have X' := X
  obtain ⟨hx, hb, hml, hown, hts, hKK, hO, hSt, -⟩ := X
  have hd : decode bytes pc = .ok (.iand, 1) := ckD_ok hcd rfl
  obtain ⟨x, y, S1, rfl, hs⟩ := pII_of hs0
  exact lv_iand hx hb hd (a_nx hK hca hs hW hS hL hl)
set_option maxHeartbeats 1000000 in
theorem st_ior (X : aCtx p l R s m args c cells slots ad adV fm D cA σ0 A own bytes nL mt C rm) (hK : ∀ k L S σ, K k L S σ → aWc p l e R s m args below meth c cells slots Q ad D cA σ0 A nL code k L S σ) (hR : ∀ (r : Option Value) (σ : aSt) (H : Heap) (locs : List Loc) (ls : Array Slot) (pc : Nat), Rr r σ → aRet bytes ret pc r → aWd ad D cA σ0 A σ H → va_S A s.heap H locs → W p l e R s m args below meth c H locs cells slots Q (F0 m pc ls ((r.map (cv ad)).toList))) {pc a b w : Nat} {v : Value} {ts : List Nat} {k : Nat} {L : aLo} {S : List Value} {σ : aSt} {H : Heap} {locs : List Loc} {ls : Array Slot} (hcd : ckD bytes (pc, .ior, a, b, w, v, ts) = true) (hca : ckA mt own ret code k (pc, .ior, a, b, w, v, ts) = true) (hs0 : aStep C Rr K (pc, .ior, a, b, w, v, ts) k L S σ) (hW : aWd ad D cA σ0 A σ H) (hS : va_S A s.heap H locs) (hL : L.length = nL) (hl : lv_has ls nL (lcn ad 0 L)) : W p l e R s m args below meth c H locs cells slots Q (F0 m pc ls (S.map (cv ad))) := by
  have X' := X
  obtain ⟨hx, hb, hml, hown, hts, hKK, hO, hSt, -⟩ := X
  have hd : decode bytes pc = .ok (.ior, 1) := ckD_ok hcd rfl
  obtain ⟨x, y, S1, rfl, hs⟩ := pII_of hs0
  exact lv_ior hx hb hd (a_nx hK hca hs hW hS hL hl)
set_option maxHeartbeats 1000000 in
theorem st_ixor (X : aCtx p l R s m args c cells slots ad adV fm D cA σ0 A own bytes nL mt C rm) (hK : ∀ k L S σ, K k L S σ → aWc p l e R s m args below meth c cells slots Q ad D cA σ0 A nL code k L S σ) (hR : ∀ (r : Option Value) (σ : aSt) (H : Heap) (locs : List Loc) (ls : Array Slot) (pc : Nat), Rr r σ → aRet bytes ret pc r → aWd ad D cA σ0 A σ H → va_S A s.heap H locs → W p l e R s m args below meth c H locs cells slots Q (F0 m pc ls ((r.map (cv ad)).toList))) {pc a b w : Nat} {v : Value} {ts : List Nat} {k : Nat} {L : aLo} {S : List Value} {σ : aSt} {H : Heap} {locs : List Loc} {ls : Array Slot} (hcd : ckD bytes (pc, .ixor, a, b, w, v, ts) = true) (hca : ckA mt own ret code k (pc, .ixor, a, b, w, v, ts) = true) (hs0 : aStep C Rr K (pc, .ixor, a, b, w, v, ts) k L S σ) (hW : aWd ad D cA σ0 A σ H) (hS : va_S A s.heap H locs) (hL : L.length = nL) (hl : lv_has ls nL (lcn ad 0 L)) : W p l e R s m args below meth c H locs cells slots Q (F0 m pc ls (S.map (cv ad))) := by
  have X' := X
  obtain ⟨hx, hb, hml, hown, hts, hKK, hO, hSt, -⟩ := X
  have hd : decode bytes pc = .ok (.ixor, 1) := ckD_ok hcd rfl
  obtain ⟨x, y, S1, rfl, hs⟩ := pII_of hs0
  exact lv_ixor hx hb hd (a_nx hK hca hs hW hS hL hl)
set_option maxHeartbeats 1000000 in
theorem st_ishl (X : aCtx p l R s m args c cells slots ad adV fm D cA σ0 A own bytes nL mt C rm) (hK : ∀ k L S σ, K k L S σ → aWc p l e R s m args below meth c cells slots Q ad D cA σ0 A nL code k L S σ) (hR : ∀ (r : Option Value) (σ : aSt) (H : Heap) (locs : List Loc) (ls : Array Slot) (pc : Nat), Rr r σ → aRet bytes ret pc r → aWd ad D cA σ0 A σ H → va_S A s.heap H locs → W p l e R s m args below meth c H locs cells slots Q (F0 m pc ls ((r.map (cv ad)).toList))) {pc a b w : Nat} {v : Value} {ts : List Nat} {k : Nat} {L : aLo} {S : List Value} {σ : aSt} {H : Heap} {locs : List Loc} {ls : Array Slot} (hcd : ckD bytes (pc, .ishl, a, b, w, v, ts) = true) (hca : ckA mt own ret code k (pc, .ishl, a, b, w, v, ts) = true) (hs0 : aStep C Rr K (pc, .ishl, a, b, w, v, ts) k L S σ) (hW : aWd ad D cA σ0 A σ H) (hS : va_S A s.heap H locs) (hL : L.length = nL) (hl : lv_has ls nL (lcn ad 0 L)) : W p l e R s m args below meth c H locs cells slots Q (F0 m pc ls (S.map (cv ad))) := by
  have X' := X
  obtain ⟨hx, hb, hml, hown, hts, hKK, hO, hSt, -⟩ := X
  have hd : decode bytes pc = .ok (.ishl, 1) := ckD_ok hcd rfl
  obtain ⟨x, y, S1, rfl, hs⟩ := pII_of hs0
  exact lv_ishl hx hb hd (a_nx hK hca hs hW hS hL hl)
set_option maxHeartbeats 1000000 in
theorem st_ishr (X : aCtx p l R s m args c cells slots ad adV fm D cA σ0 A own bytes nL mt C rm) (hK : ∀ k L S σ, K k L S σ → aWc p l e R s m args below meth c cells slots Q ad D cA σ0 A nL code k L S σ) (hR : ∀ (r : Option Value) (σ : aSt) (H : Heap) (locs : List Loc) (ls : Array Slot) (pc : Nat), Rr r σ → aRet bytes ret pc r → aWd ad D cA σ0 A σ H → va_S A s.heap H locs → W p l e R s m args below meth c H locs cells slots Q (F0 m pc ls ((r.map (cv ad)).toList))) {pc a b w : Nat} {v : Value} {ts : List Nat} {k : Nat} {L : aLo} {S : List Value} {σ : aSt} {H : Heap} {locs : List Loc} {ls : Array Slot} (hcd : ckD bytes (pc, .ishr, a, b, w, v, ts) = true) (hca : ckA mt own ret code k (pc, .ishr, a, b, w, v, ts) = true) (hs0 : aStep C Rr K (pc, .ishr, a, b, w, v, ts) k L S σ) (hW : aWd ad D cA σ0 A σ H) (hS : va_S A s.heap H locs) (hL : L.length = nL) (hl : lv_has ls nL (lcn ad 0 L)) : W p l e R s m args below meth c H locs cells slots Q (F0 m pc ls (S.map (cv ad))) := by
  have X' := X
  obtain ⟨hx, hb, hml, hown, hts, hKK, hO, hSt, -⟩ := X
  have hd : decode bytes pc = .ok (.ishr, 1) := ckD_ok hcd rfl
  obtain ⟨x, y, S1, rfl, hs⟩ := pII_of hs0
  exact lv_ishr hx hb hd (a_nx hK hca hs hW hS hL hl)
set_option maxHeartbeats 1000000 in
theorem st_iushr (X : aCtx p l R s m args c cells slots ad adV fm D cA σ0 A own bytes nL mt C rm) (hK : ∀ k L S σ, K k L S σ → aWc p l e R s m args below meth c cells slots Q ad D cA σ0 A nL code k L S σ) (hR : ∀ (r : Option Value) (σ : aSt) (H : Heap) (locs : List Loc) (ls : Array Slot) (pc : Nat), Rr r σ → aRet bytes ret pc r → aWd ad D cA σ0 A σ H → va_S A s.heap H locs → W p l e R s m args below meth c H locs cells slots Q (F0 m pc ls ((r.map (cv ad)).toList))) {pc a b w : Nat} {v : Value} {ts : List Nat} {k : Nat} {L : aLo} {S : List Value} {σ : aSt} {H : Heap} {locs : List Loc} {ls : Array Slot} (hcd : ckD bytes (pc, .iushr, a, b, w, v, ts) = true) (hca : ckA mt own ret code k (pc, .iushr, a, b, w, v, ts) = true) (hs0 : aStep C Rr K (pc, .iushr, a, b, w, v, ts) k L S σ) (hW : aWd ad D cA σ0 A σ H) (hS : va_S A s.heap H locs) (hL : L.length = nL) (hl : lv_has ls nL (lcn ad 0 L)) : W p l e R s m args below meth c H locs cells slots Q (F0 m pc ls (S.map (cv ad))) := by
  have X' := X
  obtain ⟨hx, hb, hml, hown, hts, hKK, hO, hSt, -⟩ := X
  have hd : decode bytes pc = .ok (.iushr, 1) := ckD_ok hcd rfl
  obtain ⟨x, y, S1, rfl, hs⟩ := pII_of hs0
  exact lv_iushr hx hb hd rfl (a_nx hK hca hs hW hS hL hl)
set_option maxHeartbeats 1000000 in
theorem st_ladd (X : aCtx p l R s m args c cells slots ad adV fm D cA σ0 A own bytes nL mt C rm) (hK : ∀ k L S σ, K k L S σ → aWc p l e R s m args below meth c cells slots Q ad D cA σ0 A nL code k L S σ) (hR : ∀ (r : Option Value) (σ : aSt) (H : Heap) (locs : List Loc) (ls : Array Slot) (pc : Nat), Rr r σ → aRet bytes ret pc r → aWd ad D cA σ0 A σ H → va_S A s.heap H locs → W p l e R s m args below meth c H locs cells slots Q (F0 m pc ls ((r.map (cv ad)).toList))) {pc a b w : Nat} {v : Value} {ts : List Nat} {k : Nat} {L : aLo} {S : List Value} {σ : aSt} {H : Heap} {locs : List Loc} {ls : Array Slot} (hcd : ckD bytes (pc, .ladd, a, b, w, v, ts) = true) (hca : ckA mt own ret code k (pc, .ladd, a, b, w, v, ts) = true) (hs0 : aStep C Rr K (pc, .ladd, a, b, w, v, ts) k L S σ) (hW : aWd ad D cA σ0 A σ H) (hS : va_S A s.heap H locs) (hL : L.length = nL) (hl : lv_has ls nL (lcn ad 0 L)) : W p l e R s m args below meth c H locs cells slots Q (F0 m pc ls (S.map (cv ad))) := by
  have X' := X
  obtain ⟨hx, hb, hml, hown, hts, hKK, hO, hSt, -⟩ := X
  have hd : decode bytes pc = .ok (.ladd, 1) := ckD_ok hcd rfl
  obtain ⟨x, y, S1, rfl, hs⟩ := pLL_of hs0
  exact lv_ladd hx hb hd (a_nx hK hca hs hW hS hL hl)
set_option maxHeartbeats 1000000 in
theorem st_lsub (X : aCtx p l R s m args c cells slots ad adV fm D cA σ0 A own bytes nL mt C rm) (hK : ∀ k L S σ, K k L S σ → aWc p l e R s m args below meth c cells slots Q ad D cA σ0 A nL code k L S σ) (hR : ∀ (r : Option Value) (σ : aSt) (H : Heap) (locs : List Loc) (ls : Array Slot) (pc : Nat), Rr r σ → aRet bytes ret pc r → aWd ad D cA σ0 A σ H → va_S A s.heap H locs → W p l e R s m args below meth c H locs cells slots Q (F0 m pc ls ((r.map (cv ad)).toList))) {pc a b w : Nat} {v : Value} {ts : List Nat} {k : Nat} {L : aLo} {S : List Value} {σ : aSt} {H : Heap} {locs : List Loc} {ls : Array Slot} (hcd : ckD bytes (pc, .lsub, a, b, w, v, ts) = true) (hca : ckA mt own ret code k (pc, .lsub, a, b, w, v, ts) = true) (hs0 : aStep C Rr K (pc, .lsub, a, b, w, v, ts) k L S σ) (hW : aWd ad D cA σ0 A σ H) (hS : va_S A s.heap H locs) (hL : L.length = nL) (hl : lv_has ls nL (lcn ad 0 L)) : W p l e R s m args below meth c H locs cells slots Q (F0 m pc ls (S.map (cv ad))) := by
  have X' := X
  obtain ⟨hx, hb, hml, hown, hts, hKK, hO, hSt, -⟩ := X
  have hd : decode bytes pc = .ok (.lsub, 1) := ckD_ok hcd rfl
  obtain ⟨x, y, S1, rfl, hs⟩ := pLL_of hs0
  exact lv_lsub hx hb hd (a_nx hK hca hs hW hS hL hl)
set_option maxHeartbeats 1000000 in
theorem st_lmul (X : aCtx p l R s m args c cells slots ad adV fm D cA σ0 A own bytes nL mt C rm) (hK : ∀ k L S σ, K k L S σ → aWc p l e R s m args below meth c cells slots Q ad D cA σ0 A nL code k L S σ) (hR : ∀ (r : Option Value) (σ : aSt) (H : Heap) (locs : List Loc) (ls : Array Slot) (pc : Nat), Rr r σ → aRet bytes ret pc r → aWd ad D cA σ0 A σ H → va_S A s.heap H locs → W p l e R s m args below meth c H locs cells slots Q (F0 m pc ls ((r.map (cv ad)).toList))) {pc a b w : Nat} {v : Value} {ts : List Nat} {k : Nat} {L : aLo} {S : List Value} {σ : aSt} {H : Heap} {locs : List Loc} {ls : Array Slot} (hcd : ckD bytes (pc, .lmul, a, b, w, v, ts) = true) (hca : ckA mt own ret code k (pc, .lmul, a, b, w, v, ts) = true) (hs0 : aStep C Rr K (pc, .lmul, a, b, w, v, ts) k L S σ) (hW : aWd ad D cA σ0 A σ H) (hS : va_S A s.heap H locs) (hL : L.length = nL) (hl : lv_has ls nL (lcn ad 0 L)) : W p l e R s m args below meth c H locs cells slots Q (F0 m pc ls (S.map (cv ad))) := by
  have X' := X
  obtain ⟨hx, hb, hml, hown, hts, hKK, hO, hSt, -⟩ := X
  have hd : decode bytes pc = .ok (.lmul, 1) := ckD_ok hcd rfl
  obtain ⟨x, y, S1, rfl, hs⟩ := pLL_of hs0
  exact lv_lmul hx hb hd (a_nx hK hca hs hW hS hL hl)
set_option maxHeartbeats 1000000 in
theorem st_land (X : aCtx p l R s m args c cells slots ad adV fm D cA σ0 A own bytes nL mt C rm) (hK : ∀ k L S σ, K k L S σ → aWc p l e R s m args below meth c cells slots Q ad D cA σ0 A nL code k L S σ) (hR : ∀ (r : Option Value) (σ : aSt) (H : Heap) (locs : List Loc) (ls : Array Slot) (pc : Nat), Rr r σ → aRet bytes ret pc r → aWd ad D cA σ0 A σ H → va_S A s.heap H locs → W p l e R s m args below meth c H locs cells slots Q (F0 m pc ls ((r.map (cv ad)).toList))) {pc a b w : Nat} {v : Value} {ts : List Nat} {k : Nat} {L : aLo} {S : List Value} {σ : aSt} {H : Heap} {locs : List Loc} {ls : Array Slot} (hcd : ckD bytes (pc, .land, a, b, w, v, ts) = true) (hca : ckA mt own ret code k (pc, .land, a, b, w, v, ts) = true) (hs0 : aStep C Rr K (pc, .land, a, b, w, v, ts) k L S σ) (hW : aWd ad D cA σ0 A σ H) (hS : va_S A s.heap H locs) (hL : L.length = nL) (hl : lv_has ls nL (lcn ad 0 L)) : W p l e R s m args below meth c H locs cells slots Q (F0 m pc ls (S.map (cv ad))) := by
  have X' := X
  obtain ⟨hx, hb, hml, hown, hts, hKK, hO, hSt, -⟩ := X
  have hd : decode bytes pc = .ok (.land, 1) := ckD_ok hcd rfl
  obtain ⟨x, y, S1, rfl, hs⟩ := pLL_of hs0
  exact lv_land hx hb hd (a_nx hK hca hs hW hS hL hl)
set_option maxHeartbeats 1000000 in
theorem st_lor (X : aCtx p l R s m args c cells slots ad adV fm D cA σ0 A own bytes nL mt C rm) (hK : ∀ k L S σ, K k L S σ → aWc p l e R s m args below meth c cells slots Q ad D cA σ0 A nL code k L S σ) (hR : ∀ (r : Option Value) (σ : aSt) (H : Heap) (locs : List Loc) (ls : Array Slot) (pc : Nat), Rr r σ → aRet bytes ret pc r → aWd ad D cA σ0 A σ H → va_S A s.heap H locs → W p l e R s m args below meth c H locs cells slots Q (F0 m pc ls ((r.map (cv ad)).toList))) {pc a b w : Nat} {v : Value} {ts : List Nat} {k : Nat} {L : aLo} {S : List Value} {σ : aSt} {H : Heap} {locs : List Loc} {ls : Array Slot} (hcd : ckD bytes (pc, .lor, a, b, w, v, ts) = true) (hca : ckA mt own ret code k (pc, .lor, a, b, w, v, ts) = true) (hs0 : aStep C Rr K (pc, .lor, a, b, w, v, ts) k L S σ) (hW : aWd ad D cA σ0 A σ H) (hS : va_S A s.heap H locs) (hL : L.length = nL) (hl : lv_has ls nL (lcn ad 0 L)) : W p l e R s m args below meth c H locs cells slots Q (F0 m pc ls (S.map (cv ad))) := by
  have X' := X
  obtain ⟨hx, hb, hml, hown, hts, hKK, hO, hSt, -⟩ := X
  have hd : decode bytes pc = .ok (.lor, 1) := ckD_ok hcd rfl
  obtain ⟨x, y, S1, rfl, hs⟩ := pLL_of hs0
  exact lv_lor hx hb hd (a_nx hK hca hs hW hS hL hl)
set_option maxHeartbeats 1000000 in
theorem st_lshl (X : aCtx p l R s m args c cells slots ad adV fm D cA σ0 A own bytes nL mt C rm) (hK : ∀ k L S σ, K k L S σ → aWc p l e R s m args below meth c cells slots Q ad D cA σ0 A nL code k L S σ) (hR : ∀ (r : Option Value) (σ : aSt) (H : Heap) (locs : List Loc) (ls : Array Slot) (pc : Nat), Rr r σ → aRet bytes ret pc r → aWd ad D cA σ0 A σ H → va_S A s.heap H locs → W p l e R s m args below meth c H locs cells slots Q (F0 m pc ls ((r.map (cv ad)).toList))) {pc a b w : Nat} {v : Value} {ts : List Nat} {k : Nat} {L : aLo} {S : List Value} {σ : aSt} {H : Heap} {locs : List Loc} {ls : Array Slot} (hcd : ckD bytes (pc, .lshl, a, b, w, v, ts) = true) (hca : ckA mt own ret code k (pc, .lshl, a, b, w, v, ts) = true) (hs0 : aStep C Rr K (pc, .lshl, a, b, w, v, ts) k L S σ) (hW : aWd ad D cA σ0 A σ H) (hS : va_S A s.heap H locs) (hL : L.length = nL) (hl : lv_has ls nL (lcn ad 0 L)) : W p l e R s m args below meth c H locs cells slots Q (F0 m pc ls (S.map (cv ad))) := by
  have X' := X
  obtain ⟨hx, hb, hml, hown, hts, hKK, hO, hSt, -⟩ := X
  have hd : decode bytes pc = .ok (.lshl, 1) := ckD_ok hcd rfl
  obtain ⟨x, y, S1, rfl, hs⟩ := pLI_of hs0
  exact lv_lshl hx hb hd rfl (a_nx hK hca hs hW hS hL hl)
set_option maxHeartbeats 1000000 in
theorem st_lshr (X : aCtx p l R s m args c cells slots ad adV fm D cA σ0 A own bytes nL mt C rm) (hK : ∀ k L S σ, K k L S σ → aWc p l e R s m args below meth c cells slots Q ad D cA σ0 A nL code k L S σ) (hR : ∀ (r : Option Value) (σ : aSt) (H : Heap) (locs : List Loc) (ls : Array Slot) (pc : Nat), Rr r σ → aRet bytes ret pc r → aWd ad D cA σ0 A σ H → va_S A s.heap H locs → W p l e R s m args below meth c H locs cells slots Q (F0 m pc ls ((r.map (cv ad)).toList))) {pc a b w : Nat} {v : Value} {ts : List Nat} {k : Nat} {L : aLo} {S : List Value} {σ : aSt} {H : Heap} {locs : List Loc} {ls : Array Slot} (hcd : ckD bytes (pc, .lshr, a, b, w, v, ts) = true) (hca : ckA mt own ret code k (pc, .lshr, a, b, w, v, ts) = true) (hs0 : aStep C Rr K (pc, .lshr, a, b, w, v, ts) k L S σ) (hW : aWd ad D cA σ0 A σ H) (hS : va_S A s.heap H locs) (hL : L.length = nL) (hl : lv_has ls nL (lcn ad 0 L)) : W p l e R s m args below meth c H locs cells slots Q (F0 m pc ls (S.map (cv ad))) := by
  have X' := X
  obtain ⟨hx, hb, hml, hown, hts, hKK, hO, hSt, -⟩ := X
  have hd : decode bytes pc = .ok (.lshr, 1) := ckD_ok hcd rfl
  obtain ⟨x, y, S1, rfl, hs⟩ := pLI_of hs0
  exact lv_lshr hx hb hd rfl (a_nx hK hca hs hW hS hL hl)
set_option maxHeartbeats 1000000 in
theorem st_lushr (X : aCtx p l R s m args c cells slots ad adV fm D cA σ0 A own bytes nL mt C rm) (hK : ∀ k L S σ, K k L S σ → aWc p l e R s m args below meth c cells slots Q ad D cA σ0 A nL code k L S σ) (hR : ∀ (r : Option Value) (σ : aSt) (H : Heap) (locs : List Loc) (ls : Array Slot) (pc : Nat), Rr r σ → aRet bytes ret pc r → aWd ad D cA σ0 A σ H → va_S A s.heap H locs → W p l e R s m args below meth c H locs cells slots Q (F0 m pc ls ((r.map (cv ad)).toList))) {pc a b w : Nat} {v : Value} {ts : List Nat} {k : Nat} {L : aLo} {S : List Value} {σ : aSt} {H : Heap} {locs : List Loc} {ls : Array Slot} (hcd : ckD bytes (pc, .lushr, a, b, w, v, ts) = true) (hca : ckA mt own ret code k (pc, .lushr, a, b, w, v, ts) = true) (hs0 : aStep C Rr K (pc, .lushr, a, b, w, v, ts) k L S σ) (hW : aWd ad D cA σ0 A σ H) (hS : va_S A s.heap H locs) (hL : L.length = nL) (hl : lv_has ls nL (lcn ad 0 L)) : W p l e R s m args below meth c H locs cells slots Q (F0 m pc ls (S.map (cv ad))) := by
  have X' := X
  obtain ⟨hx, hb, hml, hown, hts, hKK, hO, hSt, -⟩ := X
  have hd : decode bytes pc = .ok (.lushr, 1) := ckD_ok hcd rfl
  obtain ⟨x, y, S1, rfl, hs⟩ := pLI_of hs0
  exact lv_lushr hx hb hd rfl (a_nx hK hca hs hW hS hL hl)
set_option maxHeartbeats 1000000 in
theorem st_idiv (X : aCtx p l R s m args c cells slots ad adV fm D cA σ0 A own bytes nL mt C rm) (hK : ∀ k L S σ, K k L S σ → aWc p l e R s m args below meth c cells slots Q ad D cA σ0 A nL code k L S σ) (hR : ∀ (r : Option Value) (σ : aSt) (H : Heap) (locs : List Loc) (ls : Array Slot) (pc : Nat), Rr r σ → aRet bytes ret pc r → aWd ad D cA σ0 A σ H → va_S A s.heap H locs → W p l e R s m args below meth c H locs cells slots Q (F0 m pc ls ((r.map (cv ad)).toList))) {pc a b w : Nat} {v : Value} {ts : List Nat} {k : Nat} {L : aLo} {S : List Value} {σ : aSt} {H : Heap} {locs : List Loc} {ls : Array Slot} (hcd : ckD bytes (pc, .idiv, a, b, w, v, ts) = true) (hca : ckA mt own ret code k (pc, .idiv, a, b, w, v, ts) = true) (hs0 : aStep C Rr K (pc, .idiv, a, b, w, v, ts) k L S σ) (hW : aWd ad D cA σ0 A σ H) (hS : va_S A s.heap H locs) (hL : L.length = nL) (hl : lv_has ls nL (lcn ad 0 L)) : W p l e R s m args below meth c H locs cells slots Q (F0 m pc ls (S.map (cv ad))) := by
  have X' := X
  obtain ⟨hx, hb, hml, hown, hts, hKK, hO, hSt, -⟩ := X
  have hd : decode bytes pc = .ok (.idiv, 1) := ckD_ok hcd rfl
  obtain ⟨x, y, S1, rfl, h0, hs⟩ := pII_of hs0
  exact lv_idiv hx hb hd h0 (a_nx hK hca hs hW hS hL hl)
set_option maxHeartbeats 1000000 in
theorem st_irem (X : aCtx p l R s m args c cells slots ad adV fm D cA σ0 A own bytes nL mt C rm) (hK : ∀ k L S σ, K k L S σ → aWc p l e R s m args below meth c cells slots Q ad D cA σ0 A nL code k L S σ) (hR : ∀ (r : Option Value) (σ : aSt) (H : Heap) (locs : List Loc) (ls : Array Slot) (pc : Nat), Rr r σ → aRet bytes ret pc r → aWd ad D cA σ0 A σ H → va_S A s.heap H locs → W p l e R s m args below meth c H locs cells slots Q (F0 m pc ls ((r.map (cv ad)).toList))) {pc a b w : Nat} {v : Value} {ts : List Nat} {k : Nat} {L : aLo} {S : List Value} {σ : aSt} {H : Heap} {locs : List Loc} {ls : Array Slot} (hcd : ckD bytes (pc, .irem, a, b, w, v, ts) = true) (hca : ckA mt own ret code k (pc, .irem, a, b, w, v, ts) = true) (hs0 : aStep C Rr K (pc, .irem, a, b, w, v, ts) k L S σ) (hW : aWd ad D cA σ0 A σ H) (hS : va_S A s.heap H locs) (hL : L.length = nL) (hl : lv_has ls nL (lcn ad 0 L)) : W p l e R s m args below meth c H locs cells slots Q (F0 m pc ls (S.map (cv ad))) := by
  have X' := X
  obtain ⟨hx, hb, hml, hown, hts, hKK, hO, hSt, -⟩ := X
  have hd : decode bytes pc = .ok (.irem, 1) := ckD_ok hcd rfl
  obtain ⟨x, y, S1, rfl, h0, hs⟩ := pII_of hs0
  exact lv_irem hx hb hd h0 (a_nx hK hca hs hW hS hL hl)
set_option maxHeartbeats 1000000 in
theorem st_ldiv (X : aCtx p l R s m args c cells slots ad adV fm D cA σ0 A own bytes nL mt C rm) (hK : ∀ k L S σ, K k L S σ → aWc p l e R s m args below meth c cells slots Q ad D cA σ0 A nL code k L S σ) (hR : ∀ (r : Option Value) (σ : aSt) (H : Heap) (locs : List Loc) (ls : Array Slot) (pc : Nat), Rr r σ → aRet bytes ret pc r → aWd ad D cA σ0 A σ H → va_S A s.heap H locs → W p l e R s m args below meth c H locs cells slots Q (F0 m pc ls ((r.map (cv ad)).toList))) {pc a b w : Nat} {v : Value} {ts : List Nat} {k : Nat} {L : aLo} {S : List Value} {σ : aSt} {H : Heap} {locs : List Loc} {ls : Array Slot} (hcd : ckD bytes (pc, .ldiv, a, b, w, v, ts) = true) (hca : ckA mt own ret code k (pc, .ldiv, a, b, w, v, ts) = true) (hs0 : aStep C Rr K (pc, .ldiv, a, b, w, v, ts) k L S σ) (hW : aWd ad D cA σ0 A σ H) (hS : va_S A s.heap H locs) (hL : L.length = nL) (hl : lv_has ls nL (lcn ad 0 L)) : W p l e R s m args below meth c H locs cells slots Q (F0 m pc ls (S.map (cv ad))) := by
  have X' := X
  obtain ⟨hx, hb, hml, hown, hts, hKK, hO, hSt, -⟩ := X
  have hd : decode bytes pc = .ok (.ldiv, 1) := ckD_ok hcd rfl
  obtain ⟨x, y, S1, rfl, h0, hs⟩ := pLL_of hs0
  exact lv_ldiv hx hb hd h0 (a_nx hK hca hs hW hS hL hl)
set_option maxHeartbeats 1000000 in
theorem st_lrem (X : aCtx p l R s m args c cells slots ad adV fm D cA σ0 A own bytes nL mt C rm) (hK : ∀ k L S σ, K k L S σ → aWc p l e R s m args below meth c cells slots Q ad D cA σ0 A nL code k L S σ) (hR : ∀ (r : Option Value) (σ : aSt) (H : Heap) (locs : List Loc) (ls : Array Slot) (pc : Nat), Rr r σ → aRet bytes ret pc r → aWd ad D cA σ0 A σ H → va_S A s.heap H locs → W p l e R s m args below meth c H locs cells slots Q (F0 m pc ls ((r.map (cv ad)).toList))) {pc a b w : Nat} {v : Value} {ts : List Nat} {k : Nat} {L : aLo} {S : List Value} {σ : aSt} {H : Heap} {locs : List Loc} {ls : Array Slot} (hcd : ckD bytes (pc, .lrem, a, b, w, v, ts) = true) (hca : ckA mt own ret code k (pc, .lrem, a, b, w, v, ts) = true) (hs0 : aStep C Rr K (pc, .lrem, a, b, w, v, ts) k L S σ) (hW : aWd ad D cA σ0 A σ H) (hS : va_S A s.heap H locs) (hL : L.length = nL) (hl : lv_has ls nL (lcn ad 0 L)) : W p l e R s m args below meth c H locs cells slots Q (F0 m pc ls (S.map (cv ad))) := by
  have X' := X
  obtain ⟨hx, hb, hml, hown, hts, hKK, hO, hSt, -⟩ := X
  have hd : decode bytes pc = .ok (.lrem, 1) := ckD_ok hcd rfl
  obtain ⟨x, y, S1, rfl, h0, hs⟩ := pLL_of hs0
  exact lv_lrem hx hb hd h0 (a_nx hK hca hs hW hS hL hl)
set_option maxHeartbeats 1000000 in
theorem st_ineg (X : aCtx p l R s m args c cells slots ad adV fm D cA σ0 A own bytes nL mt C rm) (hK : ∀ k L S σ, K k L S σ → aWc p l e R s m args below meth c cells slots Q ad D cA σ0 A nL code k L S σ) (hR : ∀ (r : Option Value) (σ : aSt) (H : Heap) (locs : List Loc) (ls : Array Slot) (pc : Nat), Rr r σ → aRet bytes ret pc r → aWd ad D cA σ0 A σ H → va_S A s.heap H locs → W p l e R s m args below meth c H locs cells slots Q (F0 m pc ls ((r.map (cv ad)).toList))) {pc a b w : Nat} {v : Value} {ts : List Nat} {k : Nat} {L : aLo} {S : List Value} {σ : aSt} {H : Heap} {locs : List Loc} {ls : Array Slot} (hcd : ckD bytes (pc, .ineg, a, b, w, v, ts) = true) (hca : ckA mt own ret code k (pc, .ineg, a, b, w, v, ts) = true) (hs0 : aStep C Rr K (pc, .ineg, a, b, w, v, ts) k L S σ) (hW : aWd ad D cA σ0 A σ H) (hS : va_S A s.heap H locs) (hL : L.length = nL) (hl : lv_has ls nL (lcn ad 0 L)) : W p l e R s m args below meth c H locs cells slots Q (F0 m pc ls (S.map (cv ad))) := by
  have X' := X
  obtain ⟨hx, hb, hml, hown, hts, hKK, hO, hSt, -⟩ := X
  have hd : decode bytes pc = .ok (.ineg, 1) := ckD_ok hcd rfl
  obtain ⟨x, S1, rfl, hs⟩ := pI_of hs0
  exact lv_ineg hx hb hd (a_nx hK hca hs hW hS hL hl)
set_option maxHeartbeats 1000000 in
theorem st_lneg (X : aCtx p l R s m args c cells slots ad adV fm D cA σ0 A own bytes nL mt C rm) (hK : ∀ k L S σ, K k L S σ → aWc p l e R s m args below meth c cells slots Q ad D cA σ0 A nL code k L S σ) (hR : ∀ (r : Option Value) (σ : aSt) (H : Heap) (locs : List Loc) (ls : Array Slot) (pc : Nat), Rr r σ → aRet bytes ret pc r → aWd ad D cA σ0 A σ H → va_S A s.heap H locs → W p l e R s m args below meth c H locs cells slots Q (F0 m pc ls ((r.map (cv ad)).toList))) {pc a b w : Nat} {v : Value} {ts : List Nat} {k : Nat} {L : aLo} {S : List Value} {σ : aSt} {H : Heap} {locs : List Loc} {ls : Array Slot} (hcd : ckD bytes (pc, .lneg, a, b, w, v, ts) = true) (hca : ckA mt own ret code k (pc, .lneg, a, b, w, v, ts) = true) (hs0 : aStep C Rr K (pc, .lneg, a, b, w, v, ts) k L S σ) (hW : aWd ad D cA σ0 A σ H) (hS : va_S A s.heap H locs) (hL : L.length = nL) (hl : lv_has ls nL (lcn ad 0 L)) : W p l e R s m args below meth c H locs cells slots Q (F0 m pc ls (S.map (cv ad))) := by
  have X' := X
  obtain ⟨hx, hb, hml, hown, hts, hKK, hO, hSt, -⟩ := X
  have hd : decode bytes pc = .ok (.lneg, 1) := ckD_ok hcd rfl
  obtain ⟨x, S1, rfl, hs⟩ := pL_of hs0
  exact lv_lneg hx hb hd (a_nx hK hca hs hW hS hL hl)
set_option maxHeartbeats 1000000 in
theorem st_i2l (X : aCtx p l R s m args c cells slots ad adV fm D cA σ0 A own bytes nL mt C rm) (hK : ∀ k L S σ, K k L S σ → aWc p l e R s m args below meth c cells slots Q ad D cA σ0 A nL code k L S σ) (hR : ∀ (r : Option Value) (σ : aSt) (H : Heap) (locs : List Loc) (ls : Array Slot) (pc : Nat), Rr r σ → aRet bytes ret pc r → aWd ad D cA σ0 A σ H → va_S A s.heap H locs → W p l e R s m args below meth c H locs cells slots Q (F0 m pc ls ((r.map (cv ad)).toList))) {pc a b w : Nat} {v : Value} {ts : List Nat} {k : Nat} {L : aLo} {S : List Value} {σ : aSt} {H : Heap} {locs : List Loc} {ls : Array Slot} (hcd : ckD bytes (pc, .i2l, a, b, w, v, ts) = true) (hca : ckA mt own ret code k (pc, .i2l, a, b, w, v, ts) = true) (hs0 : aStep C Rr K (pc, .i2l, a, b, w, v, ts) k L S σ) (hW : aWd ad D cA σ0 A σ H) (hS : va_S A s.heap H locs) (hL : L.length = nL) (hl : lv_has ls nL (lcn ad 0 L)) : W p l e R s m args below meth c H locs cells slots Q (F0 m pc ls (S.map (cv ad))) := by
  have X' := X
  obtain ⟨hx, hb, hml, hown, hts, hKK, hO, hSt, -⟩ := X
  have hd : decode bytes pc = .ok (.i2l, 1) := ckD_ok hcd rfl
  obtain ⟨x, S1, rfl, hs⟩ := pI_of hs0
  exact lv_i2l hx hb hd rfl (a_nx hK hca hs hW hS hL hl)
set_option maxHeartbeats 1000000 in
theorem st_l2i (X : aCtx p l R s m args c cells slots ad adV fm D cA σ0 A own bytes nL mt C rm) (hK : ∀ k L S σ, K k L S σ → aWc p l e R s m args below meth c cells slots Q ad D cA σ0 A nL code k L S σ) (hR : ∀ (r : Option Value) (σ : aSt) (H : Heap) (locs : List Loc) (ls : Array Slot) (pc : Nat), Rr r σ → aRet bytes ret pc r → aWd ad D cA σ0 A σ H → va_S A s.heap H locs → W p l e R s m args below meth c H locs cells slots Q (F0 m pc ls ((r.map (cv ad)).toList))) {pc a b w : Nat} {v : Value} {ts : List Nat} {k : Nat} {L : aLo} {S : List Value} {σ : aSt} {H : Heap} {locs : List Loc} {ls : Array Slot} (hcd : ckD bytes (pc, .l2i, a, b, w, v, ts) = true) (hca : ckA mt own ret code k (pc, .l2i, a, b, w, v, ts) = true) (hs0 : aStep C Rr K (pc, .l2i, a, b, w, v, ts) k L S σ) (hW : aWd ad D cA σ0 A σ H) (hS : va_S A s.heap H locs) (hL : L.length = nL) (hl : lv_has ls nL (lcn ad 0 L)) : W p l e R s m args below meth c H locs cells slots Q (F0 m pc ls (S.map (cv ad))) := by
  have X' := X
  obtain ⟨hx, hb, hml, hown, hts, hKK, hO, hSt, -⟩ := X
  have hd : decode bytes pc = .ok (.l2i, 1) := ckD_ok hcd rfl
  obtain ⟨x, S1, rfl, hs⟩ := pL_of hs0
  exact lv_l2i hx hb hd rfl (a_nx hK hca hs hW hS hL hl)
set_option maxHeartbeats 1000000 in
theorem st_i2b (X : aCtx p l R s m args c cells slots ad adV fm D cA σ0 A own bytes nL mt C rm) (hK : ∀ k L S σ, K k L S σ → aWc p l e R s m args below meth c cells slots Q ad D cA σ0 A nL code k L S σ) (hR : ∀ (r : Option Value) (σ : aSt) (H : Heap) (locs : List Loc) (ls : Array Slot) (pc : Nat), Rr r σ → aRet bytes ret pc r → aWd ad D cA σ0 A σ H → va_S A s.heap H locs → W p l e R s m args below meth c H locs cells slots Q (F0 m pc ls ((r.map (cv ad)).toList))) {pc a b w : Nat} {v : Value} {ts : List Nat} {k : Nat} {L : aLo} {S : List Value} {σ : aSt} {H : Heap} {locs : List Loc} {ls : Array Slot} (hcd : ckD bytes (pc, .i2b, a, b, w, v, ts) = true) (hca : ckA mt own ret code k (pc, .i2b, a, b, w, v, ts) = true) (hs0 : aStep C Rr K (pc, .i2b, a, b, w, v, ts) k L S σ) (hW : aWd ad D cA σ0 A σ H) (hS : va_S A s.heap H locs) (hL : L.length = nL) (hl : lv_has ls nL (lcn ad 0 L)) : W p l e R s m args below meth c H locs cells slots Q (F0 m pc ls (S.map (cv ad))) := by
  have X' := X
  obtain ⟨hx, hb, hml, hown, hts, hKK, hO, hSt, -⟩ := X
  have hd : decode bytes pc = .ok (.i2b, 1) := ckD_ok hcd rfl
  obtain ⟨x, S1, rfl, hs⟩ := pI_of hs0
  exact lv_i2b hx hb hd rfl (a_nx hK hca hs hW hS hL hl)
set_option maxHeartbeats 1000000 in
theorem st_lcmp (X : aCtx p l R s m args c cells slots ad adV fm D cA σ0 A own bytes nL mt C rm) (hK : ∀ k L S σ, K k L S σ → aWc p l e R s m args below meth c cells slots Q ad D cA σ0 A nL code k L S σ) (hR : ∀ (r : Option Value) (σ : aSt) (H : Heap) (locs : List Loc) (ls : Array Slot) (pc : Nat), Rr r σ → aRet bytes ret pc r → aWd ad D cA σ0 A σ H → va_S A s.heap H locs → W p l e R s m args below meth c H locs cells slots Q (F0 m pc ls ((r.map (cv ad)).toList))) {pc a b w : Nat} {v : Value} {ts : List Nat} {k : Nat} {L : aLo} {S : List Value} {σ : aSt} {H : Heap} {locs : List Loc} {ls : Array Slot} (hcd : ckD bytes (pc, .lcmp, a, b, w, v, ts) = true) (hca : ckA mt own ret code k (pc, .lcmp, a, b, w, v, ts) = true) (hs0 : aStep C Rr K (pc, .lcmp, a, b, w, v, ts) k L S σ) (hW : aWd ad D cA σ0 A σ H) (hS : va_S A s.heap H locs) (hL : L.length = nL) (hl : lv_has ls nL (lcn ad 0 L)) : W p l e R s m args below meth c H locs cells slots Q (F0 m pc ls (S.map (cv ad))) := by
  have X' := X
  obtain ⟨hx, hb, hml, hown, hts, hKK, hO, hSt, -⟩ := X
  have hd : decode bytes pc = .ok (.lcmp, 1) := ckD_ok hcd rfl
  obtain ⟨x, y, S1, rfl, hs⟩ := pLL_of hs0
  exact W.lcmp hx hb hd (a_nx hK hca hs hW hS hL hl)
set_option maxHeartbeats 1000000 in
theorem st_dup (X : aCtx p l R s m args c cells slots ad adV fm D cA σ0 A own bytes nL mt C rm) (hK : ∀ k L S σ, K k L S σ → aWc p l e R s m args below meth c cells slots Q ad D cA σ0 A nL code k L S σ) (hR : ∀ (r : Option Value) (σ : aSt) (H : Heap) (locs : List Loc) (ls : Array Slot) (pc : Nat), Rr r σ → aRet bytes ret pc r → aWd ad D cA σ0 A σ H → va_S A s.heap H locs → W p l e R s m args below meth c H locs cells slots Q (F0 m pc ls ((r.map (cv ad)).toList))) {pc a b w : Nat} {v : Value} {ts : List Nat} {k : Nat} {L : aLo} {S : List Value} {σ : aSt} {H : Heap} {locs : List Loc} {ls : Array Slot} (hcd : ckD bytes (pc, .dup, a, b, w, v, ts) = true) (hca : ckA mt own ret code k (pc, .dup, a, b, w, v, ts) = true) (hs0 : aStep C Rr K (pc, .dup, a, b, w, v, ts) k L S σ) (hW : aWd ad D cA σ0 A σ H) (hS : va_S A s.heap H locs) (hL : L.length = nL) (hl : lv_has ls nL (lcn ad 0 L)) : W p l e R s m args below meth c H locs cells slots Q (F0 m pc ls (S.map (cv ad))) := by
  have X' := X
  obtain ⟨hx, hb, hml, hown, hts, hKK, hO, hSt, -⟩ := X
  have hd : decode bytes pc = .ok (.dup, 1) := ckD_ok hcd rfl
  dsimp only [aStep] at hs0; obtain ⟨x, S1, rfl, h1, hs⟩ := p1_of hs0
  exact lv_dup hx hb hd (by rw [cv_cat]; exact h1) (a_nx hK hca hs hW hS hL hl)
set_option maxHeartbeats 1000000 in
theorem st_pop (X : aCtx p l R s m args c cells slots ad adV fm D cA σ0 A own bytes nL mt C rm) (hK : ∀ k L S σ, K k L S σ → aWc p l e R s m args below meth c cells slots Q ad D cA σ0 A nL code k L S σ) (hR : ∀ (r : Option Value) (σ : aSt) (H : Heap) (locs : List Loc) (ls : Array Slot) (pc : Nat), Rr r σ → aRet bytes ret pc r → aWd ad D cA σ0 A σ H → va_S A s.heap H locs → W p l e R s m args below meth c H locs cells slots Q (F0 m pc ls ((r.map (cv ad)).toList))) {pc a b w : Nat} {v : Value} {ts : List Nat} {k : Nat} {L : aLo} {S : List Value} {σ : aSt} {H : Heap} {locs : List Loc} {ls : Array Slot} (hcd : ckD bytes (pc, .pop, a, b, w, v, ts) = true) (hca : ckA mt own ret code k (pc, .pop, a, b, w, v, ts) = true) (hs0 : aStep C Rr K (pc, .pop, a, b, w, v, ts) k L S σ) (hW : aWd ad D cA σ0 A σ H) (hS : va_S A s.heap H locs) (hL : L.length = nL) (hl : lv_has ls nL (lcn ad 0 L)) : W p l e R s m args below meth c H locs cells slots Q (F0 m pc ls (S.map (cv ad))) := by
  have X' := X
  obtain ⟨hx, hb, hml, hown, hts, hKK, hO, hSt, -⟩ := X
  have hd : decode bytes pc = .ok (.pop, 1) := ckD_ok hcd rfl
  dsimp only [aStep] at hs0; obtain ⟨x, S1, rfl, h1, hs⟩ := p1_of hs0
  exact lv_pop hx hb hd (by rw [cv_cat]; exact h1) (a_nx hK hca hs hW hS hL hl)
set_option maxHeartbeats 1000000 in
theorem st_ifCond (X : aCtx p l R s m args c cells slots ad adV fm D cA σ0 A own bytes nL mt C rm) (hK : ∀ k L S σ, K k L S σ → aWc p l e R s m args below meth c cells slots Q ad D cA σ0 A nL code k L S σ) (hR : ∀ (r : Option Value) (σ : aSt) (H : Heap) (locs : List Loc) (ls : Array Slot) (pc : Nat), Rr r σ → aRet bytes ret pc r → aWd ad D cA σ0 A σ H → va_S A s.heap H locs → W p l e R s m args below meth c H locs cells slots Q (F0 m pc ls ((r.map (cv ad)).toList))) {cd : ClassFile.Cond} {off : Int} {pc a b w : Nat} {v : Value} {ts : List Nat} {k : Nat} {L : aLo} {S : List Value} {σ : aSt} {H : Heap} {locs : List Loc} {ls : Array Slot} (hcd : ckD bytes (pc, .ifCond cd off, a, b, w, v, ts) = true) (hca : ckA mt own ret code k (pc, .ifCond cd off, a, b, w, v, ts) = true) (hs0 : aStep C Rr K (pc, .ifCond cd off, a, b, w, v, ts) k L S σ) (hW : aWd ad D cA σ0 A σ H) (hS : va_S A s.heap H locs) (hL : L.length = nL) (hl : lv_has ls nL (lcn ad 0 L)) : W p l e R s m args below meth c H locs cells slots Q (F0 m pc ls (S.map (cv ad))) := by
  have X' := X
  obtain ⟨hx, hb, hml, hown, hts, hKK, hO, hSt, -⟩ := X
  dsimp only [ckA] at hca; rw [Bool.and_eq_true] at hca
  obtain ⟨h1, h2⟩ := hca
  cases cd with
  | eq =>
    have hd : decode bytes pc = .ok (.ifCond .eq off, 3) := ckD_ok hcd rfl
    obtain ⟨x, S1, rfl, hs⟩ := pI_of hs0
    try dsimp only at hs
    obtain ⟨t, ht, hj⟩ := a_jp hK (S := S1) h1 hW hS hL hl
    refine lv_if_eq hx hb hd ht (fun hc => hj ?_) (fun hc => a_nx hK h2 ?_ hW hS hL hl)
    · rw [if_pos hc] at hs; exact hs
    · rw [if_neg (hc)] at hs; exact hs
  | ne =>
    have hd : decode bytes pc = .ok (.ifCond .ne off, 3) := ckD_ok hcd rfl
    obtain ⟨x, S1, rfl, hs⟩ := pI_of hs0
    try dsimp only at hs
    obtain ⟨t, ht, hj⟩ := a_jp hK (S := S1) h1 hW hS hL hl
    refine lv_if_ne hx hb hd ht (fun hc => hj ?_) (fun hc => a_nx hK h2 ?_ hW hS hL hl)
    · rw [if_pos hc] at hs; exact hs
    · rw [if_neg (fun h => h hc)] at hs; exact hs
  | lt =>
    have hd : decode bytes pc = .ok (.ifCond .lt off, 3) := ckD_ok hcd rfl
    obtain ⟨x, S1, rfl, hs⟩ := pI_of hs0
    try dsimp only at hs
    obtain ⟨t, ht, hj⟩ := a_jp hK (S := S1) h1 hW hS hL hl
    refine lv_if_lt hx hb hd ht (fun hc => hj ?_) (fun hc => a_nx hK h2 ?_ hW hS hL hl)
    · rw [if_pos hc] at hs; exact hs
    · rw [if_neg (hc)] at hs; exact hs
  | ge =>
    have hd : decode bytes pc = .ok (.ifCond .ge off, 3) := ckD_ok hcd rfl
    obtain ⟨x, S1, rfl, hs⟩ := pI_of hs0
    try dsimp only at hs
    obtain ⟨t, ht, hj⟩ := a_jp hK (S := S1) h1 hW hS hL hl
    refine lv_if_ge hx hb hd ht (fun hc => hj ?_) (fun hc => a_nx hK h2 ?_ hW hS hL hl)
    · rw [if_pos hc] at hs; exact hs
    · rw [if_neg (hc)] at hs; exact hs
  | gt =>
    have hd : decode bytes pc = .ok (.ifCond .gt off, 3) := ckD_ok hcd rfl
    obtain ⟨x, S1, rfl, hs⟩ := pI_of hs0
    try dsimp only at hs
    obtain ⟨t, ht, hj⟩ := a_jp hK (S := S1) h1 hW hS hL hl
    refine lv_if_gt hx hb hd ht (fun hc => hj ?_) (fun hc => a_nx hK h2 ?_ hW hS hL hl)
    · rw [if_pos hc] at hs; exact hs
    · rw [if_neg (hc)] at hs; exact hs
  | le =>
    have hd : decode bytes pc = .ok (.ifCond .le off, 3) := ckD_ok hcd rfl
    obtain ⟨x, S1, rfl, hs⟩ := pI_of hs0
    try dsimp only at hs
    obtain ⟨t, ht, hj⟩ := a_jp hK (S := S1) h1 hW hS hL hl
    refine lv_if_le hx hb hd ht (fun hc => hj ?_) (fun hc => a_nx hK h2 ?_ hW hS hL hl)
    · rw [if_pos hc] at hs; exact hs
    · rw [if_neg (hc)] at hs; exact hs
set_option maxHeartbeats 1000000 in
theorem st_if_icmp (X : aCtx p l R s m args c cells slots ad adV fm D cA σ0 A own bytes nL mt C rm) (hK : ∀ k L S σ, K k L S σ → aWc p l e R s m args below meth c cells slots Q ad D cA σ0 A nL code k L S σ) (hR : ∀ (r : Option Value) (σ : aSt) (H : Heap) (locs : List Loc) (ls : Array Slot) (pc : Nat), Rr r σ → aRet bytes ret pc r → aWd ad D cA σ0 A σ H → va_S A s.heap H locs → W p l e R s m args below meth c H locs cells slots Q (F0 m pc ls ((r.map (cv ad)).toList))) {cd : ClassFile.Cond} {off : Int} {pc a b w : Nat} {v : Value} {ts : List Nat} {k : Nat} {L : aLo} {S : List Value} {σ : aSt} {H : Heap} {locs : List Loc} {ls : Array Slot} (hcd : ckD bytes (pc, .if_icmp cd off, a, b, w, v, ts) = true) (hca : ckA mt own ret code k (pc, .if_icmp cd off, a, b, w, v, ts) = true) (hs0 : aStep C Rr K (pc, .if_icmp cd off, a, b, w, v, ts) k L S σ) (hW : aWd ad D cA σ0 A σ H) (hS : va_S A s.heap H locs) (hL : L.length = nL) (hl : lv_has ls nL (lcn ad 0 L)) : W p l e R s m args below meth c H locs cells slots Q (F0 m pc ls (S.map (cv ad))) := by
  have X' := X
  obtain ⟨hx, hb, hml, hown, hts, hKK, hO, hSt, -⟩ := X
  dsimp only [ckA] at hca; rw [Bool.and_eq_true] at hca
  obtain ⟨h1, h2⟩ := hca
  cases cd with
  | eq =>
    have hd : decode bytes pc = .ok (.if_icmp .eq off, 3) := ckD_ok hcd rfl
    obtain ⟨x, y, S1, rfl, hs⟩ := pII_of hs0
    try dsimp only at hs
    obtain ⟨t, ht, hj⟩ := a_jp hK (S := S1) h1 hW hS hL hl
    refine lv_icmp_eq hx hb hd ht (fun hc => hj ?_) (fun hc => a_nx hK h2 ?_ hW hS hL hl)
    · rw [if_pos hc] at hs; exact hs
    · rw [if_neg (hc)] at hs; exact hs
  | ne =>
    have hd : decode bytes pc = .ok (.if_icmp .ne off, 3) := ckD_ok hcd rfl
    obtain ⟨x, y, S1, rfl, hs⟩ := pII_of hs0
    try dsimp only at hs
    obtain ⟨t, ht, hj⟩ := a_jp hK (S := S1) h1 hW hS hL hl
    refine lv_icmp_ne hx hb hd ht (fun hc => hj ?_) (fun hc => a_nx hK h2 ?_ hW hS hL hl)
    · rw [if_pos hc] at hs; exact hs
    · rw [if_neg (fun h => h hc)] at hs; exact hs
  | lt =>
    have hd : decode bytes pc = .ok (.if_icmp .lt off, 3) := ckD_ok hcd rfl
    obtain ⟨x, y, S1, rfl, hs⟩ := pII_of hs0
    try dsimp only at hs
    obtain ⟨t, ht, hj⟩ := a_jp hK (S := S1) h1 hW hS hL hl
    refine lv_icmp_lt hx hb hd ht (fun hc => hj ?_) (fun hc => a_nx hK h2 ?_ hW hS hL hl)
    · rw [if_pos hc] at hs; exact hs
    · rw [if_neg (hc)] at hs; exact hs
  | ge =>
    have hd : decode bytes pc = .ok (.if_icmp .ge off, 3) := ckD_ok hcd rfl
    obtain ⟨x, y, S1, rfl, hs⟩ := pII_of hs0
    try dsimp only at hs
    obtain ⟨t, ht, hj⟩ := a_jp hK (S := S1) h1 hW hS hL hl
    refine lv_icmp_ge hx hb hd ht (fun hc => hj ?_) (fun hc => a_nx hK h2 ?_ hW hS hL hl)
    · rw [if_pos hc] at hs; exact hs
    · rw [if_neg (hc)] at hs; exact hs
  | gt =>
    have hd : decode bytes pc = .ok (.if_icmp .gt off, 3) := ckD_ok hcd rfl
    obtain ⟨x, y, S1, rfl, hs⟩ := pII_of hs0
    try dsimp only at hs
    obtain ⟨t, ht, hj⟩ := a_jp hK (S := S1) h1 hW hS hL hl
    refine lv_icmp_gt hx hb hd ht (fun hc => hj ?_) (fun hc => a_nx hK h2 ?_ hW hS hL hl)
    · rw [if_pos hc] at hs; exact hs
    · rw [if_neg (hc)] at hs; exact hs
  | le =>
    have hd : decode bytes pc = .ok (.if_icmp .le off, 3) := ckD_ok hcd rfl
    obtain ⟨x, y, S1, rfl, hs⟩ := pII_of hs0
    try dsimp only at hs
    obtain ⟨t, ht, hj⟩ := a_jp hK (S := S1) h1 hW hS hL hl
    refine lv_icmp_le hx hb hd ht (fun hc => hj ?_) (fun hc => a_nx hK h2 ?_ hW hS hL hl)
    · rw [if_pos hc] at hs; exact hs
    · rw [if_neg (hc)] at hs; exact hs
set_option maxHeartbeats 1000000 in
theorem st_goto (X : aCtx p l R s m args c cells slots ad adV fm D cA σ0 A own bytes nL mt C rm) (hK : ∀ k L S σ, K k L S σ → aWc p l e R s m args below meth c cells slots Q ad D cA σ0 A nL code k L S σ) (hR : ∀ (r : Option Value) (σ : aSt) (H : Heap) (locs : List Loc) (ls : Array Slot) (pc : Nat), Rr r σ → aRet bytes ret pc r → aWd ad D cA σ0 A σ H → va_S A s.heap H locs → W p l e R s m args below meth c H locs cells slots Q (F0 m pc ls ((r.map (cv ad)).toList))) {off : Int} {pc a b w : Nat} {v : Value} {ts : List Nat} {k : Nat} {L : aLo} {S : List Value} {σ : aSt} {H : Heap} {locs : List Loc} {ls : Array Slot} (hcd : ckD bytes (pc, .goto off, a, b, w, v, ts) = true) (hca : ckA mt own ret code k (pc, .goto off, a, b, w, v, ts) = true) (hs0 : aStep C Rr K (pc, .goto off, a, b, w, v, ts) k L S σ) (hW : aWd ad D cA σ0 A σ H) (hS : va_S A s.heap H locs) (hL : L.length = nL) (hl : lv_has ls nL (lcn ad 0 L)) : W p l e R s m args below meth c H locs cells slots Q (F0 m pc ls (S.map (cv ad))) := by
  have X' := X
  obtain ⟨hx, hb, hml, hown, hts, hKK, hO, hSt, -⟩ := X
  have hd : decode bytes pc = .ok (.goto off, 3) := ckD_ok hcd rfl
  obtain ⟨t, ht, hj⟩ := a_jp hK (S := S) hca hW hS hL hl
  exact lv_goto hx hb hd ht (hj hs0)
set_option maxHeartbeats 1000000 in
theorem st_tableswitch (X : aCtx p l R s m args c cells slots ad adV fm D cA σ0 A own bytes nL mt C rm) (hK : ∀ k L S σ, K k L S σ → aWc p l e R s m args below meth c cells slots Q ad D cA σ0 A nL code k L S σ) (hR : ∀ (r : Option Value) (σ : aSt) (H : Heap) (locs : List Loc) (ls : Array Slot) (pc : Nat), Rr r σ → aRet bytes ret pc r → aWd ad D cA σ0 A σ H → va_S A s.heap H locs → W p l e R s m args below meth c H locs cells slots Q (F0 m pc ls ((r.map (cv ad)).toList))) {d lo hi : Int} {os : Array Int} {pc a b w : Nat} {v : Value} {ts : List Nat} {k : Nat} {L : aLo} {S : List Value} {σ : aSt} {H : Heap} {locs : List Loc} {ls : Array Slot} (hcd : ckD bytes (pc, .tableswitch d lo hi os, a, b, w, v, ts) = true) (hca : ckA mt own ret code k (pc, .tableswitch d lo hi os, a, b, w, v, ts) = true) (hs0 : aStep C Rr K (pc, .tableswitch d lo hi os, a, b, w, v, ts) k L S σ) (hW : aWd ad D cA σ0 A σ H) (hS : va_S A s.heap H locs) (hL : L.length = nL) (hl : lv_has ls nL (lcn ad 0 L)) : W p l e R s m args below meth c H locs cells slots Q (F0 m pc ls (S.map (cv ad))) := by
  have X' := X
  obtain ⟨hx, hb, hml, hown, hts, hKK, hO, hSt, -⟩ := X
  obtain ⟨n9, hd⟩ := ckD_sw hcd rfl
  obtain ⟨x, S1, rfl, hs⟩ := pI_of hs0
  obtain ⟨c9, S9, h9, hs⟩ := pI_of hs
  try dsimp only at hs h9
  dsimp only [ckA] at hca
  simp only [Bool.and_eq_true, decide_eq_true_eq] at hca
  obtain ⟨⟨⟨⟨⟨g1, g2⟩, g3⟩, g4⟩, g5⟩, g6⟩ := hca
  cases h9
  have g1 := of_decide_eq_true g1
  obtain ⟨e1, e2⟩ := ckT_of _ _ g6
  have e1 : os.size = ts.length := by simpa using e1
  rcases aTsw_of ts c9 (by rw [g1]; exact g4) (by rw [g1, ← e1]; exact g3) hs with ⟨j, t, f1, f2, f3⟩ | ⟨f1, f2⟩
  · obtain ⟨o, e3, e4⟩ := e2 j t f1
    have hj := (List.getElem?_eq_some_iff.mp f1).1
    obtain ⟨tt, ht, hjp⟩ := a_jp hK (S := S1) e4 hW hS hL hl
    refine lv_tableIn hx hb hd (off := o) (by rw [f2, g1]; omega) (by rw [f2, g1, g2]; omega) ?_ ht (hjp f3)
    rw [f2, g1, show lo + (j : Int) - lo = (j : Int) by omega, Int.toNat_natCast, ← Array.getElem?_toList]
    exact e3
  · obtain ⟨tt, ht, hjp⟩ := a_jp hK (S := S1) g5 hW hS hL hl
    refine lv_tableOut hx hb hd ?_ ht (hjp f2)
    rw [g1] at f1
    omega
set_option maxHeartbeats 1000000 in
theorem st_getfield (X : aCtx p l R s m args c cells slots ad adV fm D cA σ0 A own bytes nL mt C rm) (hK : ∀ k L S σ, K k L S σ → aWc p l e R s m args below meth c cells slots Q ad D cA σ0 A nL code k L S σ) (hR : ∀ (r : Option Value) (σ : aSt) (H : Heap) (locs : List Loc) (ls : Array Slot) (pc : Nat), Rr r σ → aRet bytes ret pc r → aWd ad D cA σ0 A σ H → va_S A s.heap H locs → W p l e R s m args below meth c H locs cells slots Q (F0 m pc ls ((r.map (cv ad)).toList))) {i : Nat} {pc a b w : Nat} {v : Value} {ts : List Nat} {k : Nat} {L : aLo} {S : List Value} {σ : aSt} {H : Heap} {locs : List Loc} {ls : Array Slot} (hcd : ckD bytes (pc, .getfield i, a, b, w, v, ts) = true) (hca : ckA mt own ret code k (pc, .getfield i, a, b, w, v, ts) = true) (hs0 : aStep C Rr K (pc, .getfield i, a, b, w, v, ts) k L S σ) (hW : aWd ad D cA σ0 A σ H) (hS : va_S A s.heap H locs) (hL : L.length = nL) (hl : lv_has ls nL (lcn ad 0 L)) : W p l e R s m args below meth c H locs cells slots Q (F0 m pc ls (S.map (cv ad))) := by
  have X' := X
  obtain ⟨hx, hb, hml, hown, hts, hKK, hO, hSt, -⟩ := X
  have hd : decode bytes pc = .ok (.getfield i, 3) := ckD_ok hcd rfl
  obtain ⟨o, S1, rfl, hs⟩ := pR_of hs0
  have hs := cond_and hs
  exact a_get X' (q := (pc, .getfield i, a, b, w, v, ts)) hK hd hca hs hW hS hL hl
set_option maxHeartbeats 1000000 in
theorem st_putfield (X : aCtx p l R s m args c cells slots ad adV fm D cA σ0 A own bytes nL mt C rm) (hK : ∀ k L S σ, K k L S σ → aWc p l e R s m args below meth c cells slots Q ad D cA σ0 A nL code k L S σ) (hR : ∀ (r : Option Value) (σ : aSt) (H : Heap) (locs : List Loc) (ls : Array Slot) (pc : Nat), Rr r σ → aRet bytes ret pc r → aWd ad D cA σ0 A σ H → va_S A s.heap H locs → W p l e R s m args below meth c H locs cells slots Q (F0 m pc ls ((r.map (cv ad)).toList))) {i : Nat} {pc a b w : Nat} {v : Value} {ts : List Nat} {k : Nat} {L : aLo} {S : List Value} {σ : aSt} {H : Heap} {locs : List Loc} {ls : Array Slot} (hcd : ckD bytes (pc, .putfield i, a, b, w, v, ts) = true) (hca : ckA mt own ret code k (pc, .putfield i, a, b, w, v, ts) = true) (hs0 : aStep C Rr K (pc, .putfield i, a, b, w, v, ts) k L S σ) (hW : aWd ad D cA σ0 A σ H) (hS : va_S A s.heap H locs) (hL : L.length = nL) (hl : lv_has ls nL (lcn ad 0 L)) : W p l e R s m args below meth c H locs cells slots Q (F0 m pc ls (S.map (cv ad))) := by
  have X' := X
  obtain ⟨hx, hb, hml, hown, hts, hKK, hO, hSt, -⟩ := X
  have hd : decode bytes pc = .ok (.putfield i, 3) := ckD_ok hcd rfl
  dsimp only [aStep] at hs0
  split at hs0
  · rename_i h9
    obtain ⟨o, x, S1, rfl, hs⟩ := pRi_of hs0
    obtain ⟨hoc, hs⟩ := cond_and hs
    have hoc := Nat.eq_of_beq_eq_true hoc
    refine a_put X' (q := (pc, .putfield i, a, b, w, v, ts)) (σ := σ) (σ' := s_i σ o a x) (x := .int x) hK hd hca hoc h9 (by decide) (Or.inl ⟨rfl, rfl⟩) rfl rfl rfl hs (fun j hj => (s_i_ne hj).symm) (fun _ _ => rfl) (fun _ _ => rfl) (fun j hj => ⟨?_, rfl, rfl⟩) ?_ (fun ho hF => aFix_i hF ho) hW hS hL hl
    · rw [s_i_at]; exact (if_neg hj).symm
    · simp only [aFv, h9, s_i_at, upd, if_true]
  · rename_i h9
    obtain ⟨o, x, S1, rfl, hs⟩ := pRl_of hs0
    obtain ⟨hoc, hs⟩ := cond_and hs
    have hoc := Nat.eq_of_beq_eq_true hoc
    refine a_put X' (q := (pc, .putfield i, a, b, w, v, ts)) (σ := σ) (σ' := s_l σ o a x) (x := .long x) hK hd hca hoc h9 (by decide) (Or.inr (Or.inl ⟨rfl, rfl⟩)) rfl rfl rfl hs (fun _ _ => rfl) (fun j hj => (s_l_ne hj).symm) (fun _ _ => rfl) (fun j hj => ⟨rfl, ?_, rfl⟩) ?_ (fun ho hF => aFix_l hF ho) hW hS hL hl
    · rw [s_l_at]; exact (if_neg hj).symm
    · simp only [aFv, h9, s_l_at, vp_updL, if_true]
  · rename_i h9
    obtain ⟨o, x, S1, rfl, hs⟩ := pRi_of hs0
    obtain ⟨hoc, hx1, hs⟩ := cond_and hs
    have hoc := Nat.eq_of_beq_eq_true hoc
    refine a_put X' (q := (pc, .putfield i, a, b, w, v, ts)) (σ := σ) (σ' := s_b σ o a (x != 0)) (x := .int x) hK hd hca hoc h9 (by decide) (Or.inr (Or.inr ⟨rfl, rfl⟩)) (by rcases hx1 with rfl | rfl <;> rfl) (by rcases hx1 with rfl | rfl <;> rfl) rfl hs (fun _ _ => rfl) (fun _ _ => rfl) (fun j hj => (s_b_ne hj).symm) (fun j hj => ⟨rfl, rfl, ?_⟩) ?_ (fun ho hF => aFix_b hF) hW hS hL hl
    · rw [s_b_at]; exact (if_neg hj).symm
    · simp only [aFv, h9, s_b_at, if_true, b2i_ne hx1]
  · exact hs0.elim
set_option maxHeartbeats 1000000 in
theorem st_getstatic (X : aCtx p l R s m args c cells slots ad adV fm D cA σ0 A own bytes nL mt C rm) (hK : ∀ k L S σ, K k L S σ → aWc p l e R s m args below meth c cells slots Q ad D cA σ0 A nL code k L S σ) (hR : ∀ (r : Option Value) (σ : aSt) (H : Heap) (locs : List Loc) (ls : Array Slot) (pc : Nat), Rr r σ → aRet bytes ret pc r → aWd ad D cA σ0 A σ H → va_S A s.heap H locs → W p l e R s m args below meth c H locs cells slots Q (F0 m pc ls ((r.map (cv ad)).toList))) {i : Nat} {pc a b w : Nat} {v : Value} {ts : List Nat} {k : Nat} {L : aLo} {S : List Value} {σ : aSt} {H : Heap} {locs : List Loc} {ls : Array Slot} (hcd : ckD bytes (pc, .getstatic i, a, b, w, v, ts) = true) (hca : ckA mt own ret code k (pc, .getstatic i, a, b, w, v, ts) = true) (hs0 : aStep C Rr K (pc, .getstatic i, a, b, w, v, ts) k L S σ) (hW : aWd ad D cA σ0 A σ H) (hS : va_S A s.heap H locs) (hL : L.length = nL) (hl : lv_has ls nL (lcn ad 0 L)) : W p l e R s m args below meth c H locs cells slots Q (F0 m pc ls (S.map (cv ad))) := by
  have X' := X
  obtain ⟨hx, hb, hml, hown, hts, hKK, hO, hSt, -⟩ := X
  have hd : decode bytes pc = .ok (.getstatic i, 3) := ckD_ok hcd rfl
  dsimp only [ckA] at hca; rw [Bool.and_eq_true] at hca
  obtain ⟨h1, h2⟩ := hca
  cases hsc : aStc a with
  | none => rw [hsc] at h1; cases h1
  | some q9 =>
    rw [hsc] at h1
    have h3 : q9 ∈ STT := List.mem_of_find?_eq_some hsc
    have h4 : q9.2.2.2 = a := Nat.eq_of_beq_eq_true (List.find?_some (p := fun s : String × String × String × Nat => Nat.beq s.2.2.2 a) hsc)
    have h5 := hO.2.2.1 q9 h3
    rw [h4] at h5
    exact va_gets hx hb h5 hS hown (hts _ (wd_good h1)) (fun _ h => h) hd (a_nx hK h2 hs0 hW hS hL hl)
set_option maxHeartbeats 1000000 in
theorem st_arraylength (X : aCtx p l R s m args c cells slots ad adV fm D cA σ0 A own bytes nL mt C rm) (hK : ∀ k L S σ, K k L S σ → aWc p l e R s m args below meth c cells slots Q ad D cA σ0 A nL code k L S σ) (hR : ∀ (r : Option Value) (σ : aSt) (H : Heap) (locs : List Loc) (ls : Array Slot) (pc : Nat), Rr r σ → aRet bytes ret pc r → aWd ad D cA σ0 A σ H → va_S A s.heap H locs → W p l e R s m args below meth c H locs cells slots Q (F0 m pc ls ((r.map (cv ad)).toList))) {pc a b w : Nat} {v : Value} {ts : List Nat} {k : Nat} {L : aLo} {S : List Value} {σ : aSt} {H : Heap} {locs : List Loc} {ls : Array Slot} (hcd : ckD bytes (pc, .arraylength, a, b, w, v, ts) = true) (hca : ckA mt own ret code k (pc, .arraylength, a, b, w, v, ts) = true) (hs0 : aStep C Rr K (pc, .arraylength, a, b, w, v, ts) k L S σ) (hW : aWd ad D cA σ0 A σ H) (hS : va_S A s.heap H locs) (hL : L.length = nL) (hl : lv_has ls nL (lcn ad 0 L)) : W p l e R s m args below meth c H locs cells slots Q (F0 m pc ls (S.map (cv ad))) := by
  have X' := X
  obtain ⟨hx, hb, hml, hown, hts, hKK, hO, hSt, -⟩ := X
  have hd : decode bytes pc = .ok (.arraylength, 1) := ckD_ok hcd rfl
  obtain ⟨o, S1, rfl, hs⟩ := pR_of hs0
  obtain ⟨h9, hs⟩ := cond_not hs
  have h9 : oty o ≠ 9 := fun q => by rw [q] at h9; cases h9
  have hOT := oty_arr rfl h9
  by_cases ho : o < nW
  · have h3 : oty o < 4 := by
      have := List.all_eq_true.mp okOD_all o (List.mem_range.mpr ho)
      unfold okOD at this
      rw [hOT] at this
      have := Nat.le_of_ble_eq_true this
      dsimp only at this
      omega
    refine va_alen hx hb hKK hW.1 o (oty o) (aWs_at ho hOT) (aTy_at cA _ h3) ?_ hd (a_nx hK hca hs hW hS hL hl)
    rw [lenI_out hW.2.2 (fun q => by subst q; exact absurd ho (by decide))]
    unfold aArr
    split <;> rfl
  · by_cases hsc : o = SCR
    · subst hsc
      obtain ⟨-, ⟨n, hn1, hn2, hT⟩, -⟩ := hO
      refine va_tlen hx hb hT hS ?_ hd (a_nx hK hca hs hW hS hL hl)
      rw [lenI_scr hW.2.2, ← hn2]; rfl
    · have hT := hO.1 o _ (Nat.le_of_not_lt ho) hsc hOT
      refine va_tlen hx hb hT hS ?_ hd (a_nx hK hca hs hW hS hL hl)
      rw [lenI_out hW.2.2 hsc]; rfl
set_option maxHeartbeats 1000000 in
theorem st_iaload (X : aCtx p l R s m args c cells slots ad adV fm D cA σ0 A own bytes nL mt C rm) (hK : ∀ k L S σ, K k L S σ → aWc p l e R s m args below meth c cells slots Q ad D cA σ0 A nL code k L S σ) (hR : ∀ (r : Option Value) (σ : aSt) (H : Heap) (locs : List Loc) (ls : Array Slot) (pc : Nat), Rr r σ → aRet bytes ret pc r → aWd ad D cA σ0 A σ H → va_S A s.heap H locs → W p l e R s m args below meth c H locs cells slots Q (F0 m pc ls ((r.map (cv ad)).toList))) {pc a b w : Nat} {v : Value} {ts : List Nat} {k : Nat} {L : aLo} {S : List Value} {σ : aSt} {H : Heap} {locs : List Loc} {ls : Array Slot} (hcd : ckD bytes (pc, .iaload, a, b, w, v, ts) = true) (hca : ckA mt own ret code k (pc, .iaload, a, b, w, v, ts) = true) (hs0 : aStep C Rr K (pc, .iaload, a, b, w, v, ts) k L S σ) (hW : aWd ad D cA σ0 A σ H) (hS : va_S A s.heap H locs) (hL : L.length = nL) (hl : lv_has ls nL (lcn ad 0 L)) : W p l e R s m args below meth c H locs cells slots Q (F0 m pc ls (S.map (cv ad))) := by
  have X' := X
  obtain ⟨hx, hb, hml, hown, hts, hKK, hO, hSt, -⟩ := X
  have hd : decode bytes pc = .ok (.iaload, 1) := ckD_ok hcd rfl
  obtain ⟨o, i, S1, rfl, hin, hs⟩ := pRi_of hs0
  exact a_iaload X' hK hd hca hin hs hW hS hL hl
set_option maxHeartbeats 1000000 in
theorem st_laload (X : aCtx p l R s m args c cells slots ad adV fm D cA σ0 A own bytes nL mt C rm) (hK : ∀ k L S σ, K k L S σ → aWc p l e R s m args below meth c cells slots Q ad D cA σ0 A nL code k L S σ) (hR : ∀ (r : Option Value) (σ : aSt) (H : Heap) (locs : List Loc) (ls : Array Slot) (pc : Nat), Rr r σ → aRet bytes ret pc r → aWd ad D cA σ0 A σ H → va_S A s.heap H locs → W p l e R s m args below meth c H locs cells slots Q (F0 m pc ls ((r.map (cv ad)).toList))) {pc a b w : Nat} {v : Value} {ts : List Nat} {k : Nat} {L : aLo} {S : List Value} {σ : aSt} {H : Heap} {locs : List Loc} {ls : Array Slot} (hcd : ckD bytes (pc, .laload, a, b, w, v, ts) = true) (hca : ckA mt own ret code k (pc, .laload, a, b, w, v, ts) = true) (hs0 : aStep C Rr K (pc, .laload, a, b, w, v, ts) k L S σ) (hW : aWd ad D cA σ0 A σ H) (hS : va_S A s.heap H locs) (hL : L.length = nL) (hl : lv_has ls nL (lcn ad 0 L)) : W p l e R s m args below meth c H locs cells slots Q (F0 m pc ls (S.map (cv ad))) := by
  have X' := X
  obtain ⟨hx, hb, hml, hown, hts, hKK, hO, hSt, -⟩ := X
  have hd : decode bytes pc = .ok (.laload, 1) := ckD_ok hcd rfl
  obtain ⟨o, i, S1, rfl, hin, hs⟩ := pRi_of hs0
  exact a_laload X' hK hd hca hin hs hW hS hL hl
set_option maxHeartbeats 1000000 in
theorem st_baload (X : aCtx p l R s m args c cells slots ad adV fm D cA σ0 A own bytes nL mt C rm) (hK : ∀ k L S σ, K k L S σ → aWc p l e R s m args below meth c cells slots Q ad D cA σ0 A nL code k L S σ) (hR : ∀ (r : Option Value) (σ : aSt) (H : Heap) (locs : List Loc) (ls : Array Slot) (pc : Nat), Rr r σ → aRet bytes ret pc r → aWd ad D cA σ0 A σ H → va_S A s.heap H locs → W p l e R s m args below meth c H locs cells slots Q (F0 m pc ls ((r.map (cv ad)).toList))) {pc a b w : Nat} {v : Value} {ts : List Nat} {k : Nat} {L : aLo} {S : List Value} {σ : aSt} {H : Heap} {locs : List Loc} {ls : Array Slot} (hcd : ckD bytes (pc, .baload, a, b, w, v, ts) = true) (hca : ckA mt own ret code k (pc, .baload, a, b, w, v, ts) = true) (hs0 : aStep C Rr K (pc, .baload, a, b, w, v, ts) k L S σ) (hW : aWd ad D cA σ0 A σ H) (hS : va_S A s.heap H locs) (hL : L.length = nL) (hl : lv_has ls nL (lcn ad 0 L)) : W p l e R s m args below meth c H locs cells slots Q (F0 m pc ls (S.map (cv ad))) := by
  have X' := X
  obtain ⟨hx, hb, hml, hown, hts, hKK, hO, hSt, -⟩ := X
  have hd : decode bytes pc = .ok (.baload, 1) := ckD_ok hcd rfl
  dsimp only [aStep] at hs0
  split at hs0
  · obtain ⟨o, i, S1, rfl, hin, hs⟩ := pRi_of hs0
    exact a_baload2 X' hK hd hca hin hs hW hS hL hl
  · obtain ⟨o, i, S1, rfl, hin, hs⟩ := pRi_of hs0
    exact a_baload3 X' hK hd hca hin hs hW hS hL hl
  · exact hs0.elim
set_option maxHeartbeats 1000000 in
theorem st_iastore (X : aCtx p l R s m args c cells slots ad adV fm D cA σ0 A own bytes nL mt C rm) (hK : ∀ k L S σ, K k L S σ → aWc p l e R s m args below meth c cells slots Q ad D cA σ0 A nL code k L S σ) (hR : ∀ (r : Option Value) (σ : aSt) (H : Heap) (locs : List Loc) (ls : Array Slot) (pc : Nat), Rr r σ → aRet bytes ret pc r → aWd ad D cA σ0 A σ H → va_S A s.heap H locs → W p l e R s m args below meth c H locs cells slots Q (F0 m pc ls ((r.map (cv ad)).toList))) {pc a b w : Nat} {v : Value} {ts : List Nat} {k : Nat} {L : aLo} {S : List Value} {σ : aSt} {H : Heap} {locs : List Loc} {ls : Array Slot} (hcd : ckD bytes (pc, .iastore, a, b, w, v, ts) = true) (hca : ckA mt own ret code k (pc, .iastore, a, b, w, v, ts) = true) (hs0 : aStep C Rr K (pc, .iastore, a, b, w, v, ts) k L S σ) (hW : aWd ad D cA σ0 A σ H) (hS : va_S A s.heap H locs) (hL : L.length = nL) (hl : lv_has ls nL (lcn ad 0 L)) : W p l e R s m args below meth c H locs cells slots Q (F0 m pc ls (S.map (cv ad))) := by
  have X' := X
  obtain ⟨hx, hb, hml, hown, hts, hKK, hO, hSt, -⟩ := X
  have hd : decode bytes pc = .ok (.iastore, 1) := ckD_ok hcd rfl
  obtain ⟨o, i, x, S1, rfl, hin, hs⟩ := pRii_of hs0
  obtain ⟨ho, hs⟩ := cond_and hs
  have ho : o < nW := by simpa [Nat.blt_eq] using ho
  exact a_iastore X' hK hd hca hin ho hs hW hS hL hl
set_option maxHeartbeats 1000000 in
theorem st_lastore (X : aCtx p l R s m args c cells slots ad adV fm D cA σ0 A own bytes nL mt C rm) (hK : ∀ k L S σ, K k L S σ → aWc p l e R s m args below meth c cells slots Q ad D cA σ0 A nL code k L S σ) (hR : ∀ (r : Option Value) (σ : aSt) (H : Heap) (locs : List Loc) (ls : Array Slot) (pc : Nat), Rr r σ → aRet bytes ret pc r → aWd ad D cA σ0 A σ H → va_S A s.heap H locs → W p l e R s m args below meth c H locs cells slots Q (F0 m pc ls ((r.map (cv ad)).toList))) {pc a b w : Nat} {v : Value} {ts : List Nat} {k : Nat} {L : aLo} {S : List Value} {σ : aSt} {H : Heap} {locs : List Loc} {ls : Array Slot} (hcd : ckD bytes (pc, .lastore, a, b, w, v, ts) = true) (hca : ckA mt own ret code k (pc, .lastore, a, b, w, v, ts) = true) (hs0 : aStep C Rr K (pc, .lastore, a, b, w, v, ts) k L S σ) (hW : aWd ad D cA σ0 A σ H) (hS : va_S A s.heap H locs) (hL : L.length = nL) (hl : lv_has ls nL (lcn ad 0 L)) : W p l e R s m args below meth c H locs cells slots Q (F0 m pc ls (S.map (cv ad))) := by
  have X' := X
  obtain ⟨hx, hb, hml, hown, hts, hKK, hO, hSt, -⟩ := X
  have hd : decode bytes pc = .ok (.lastore, 1) := ckD_ok hcd rfl
  obtain ⟨o, i, x, S1, rfl, hin, hs⟩ := pRil_of hs0
  obtain ⟨ho, hs⟩ := cond_and hs
  have ho : o < nW := by simpa [Nat.blt_eq] using ho
  exact a_lastore X' hK hd hca hin ho hs hW hS hL hl
set_option maxHeartbeats 1000000 in
theorem st_bastore (X : aCtx p l R s m args c cells slots ad adV fm D cA σ0 A own bytes nL mt C rm) (hK : ∀ k L S σ, K k L S σ → aWc p l e R s m args below meth c cells slots Q ad D cA σ0 A nL code k L S σ) (hR : ∀ (r : Option Value) (σ : aSt) (H : Heap) (locs : List Loc) (ls : Array Slot) (pc : Nat), Rr r σ → aRet bytes ret pc r → aWd ad D cA σ0 A σ H → va_S A s.heap H locs → W p l e R s m args below meth c H locs cells slots Q (F0 m pc ls ((r.map (cv ad)).toList))) {pc a b w : Nat} {v : Value} {ts : List Nat} {k : Nat} {L : aLo} {S : List Value} {σ : aSt} {H : Heap} {locs : List Loc} {ls : Array Slot} (hcd : ckD bytes (pc, .bastore, a, b, w, v, ts) = true) (hca : ckA mt own ret code k (pc, .bastore, a, b, w, v, ts) = true) (hs0 : aStep C Rr K (pc, .bastore, a, b, w, v, ts) k L S σ) (hW : aWd ad D cA σ0 A σ H) (hS : va_S A s.heap H locs) (hL : L.length = nL) (hl : lv_has ls nL (lcn ad 0 L)) : W p l e R s m args below meth c H locs cells slots Q (F0 m pc ls (S.map (cv ad))) := by
  have X' := X
  obtain ⟨hx, hb, hml, hown, hts, hKK, hO, hSt, -⟩ := X
  have hd : decode bytes pc = .ok (.bastore, 1) := ckD_ok hcd rfl
  dsimp only [aStep] at hs0
  split at hs0
  · obtain ⟨o, i, x, S1, rfl, hin, hs⟩ := pRii_of hs0
    obtain ⟨ho, hs⟩ := cond_and hs
    have ho : o < nW := by simpa [Nat.blt_eq] using ho
    exact a_bastore2 X' hK hd hca hin ho hs hW hS hL hl
  · obtain ⟨o, i, x, S1, rfl, hin, hs⟩ := pRii_of hs0
    obtain ⟨ho, hx1, hs⟩ := cond_and hs
    have ho : o < nW := by simpa [Nat.blt_eq] using ho
    exact a_bastore3 X' hK hd hca hin ho hx1 hs hW hS hL hl
  · exact hs0.elim
set_option maxHeartbeats 1000000 in
theorem st_invokestatic (X : aCtx p l R s m args c cells slots ad adV fm D cA σ0 A own bytes nL mt C rm) (hK : ∀ k L S σ, K k L S σ → aWc p l e R s m args below meth c cells slots Q ad D cA σ0 A nL code k L S σ) (hR : ∀ (r : Option Value) (σ : aSt) (H : Heap) (locs : List Loc) (ls : Array Slot) (pc : Nat), Rr r σ → aRet bytes ret pc r → aWd ad D cA σ0 A σ H → va_S A s.heap H locs → W p l e R s m args below meth c H locs cells slots Q (F0 m pc ls ((r.map (cv ad)).toList))) {i : Nat} {pc a b w : Nat} {v : Value} {ts : List Nat} {k : Nat} {L : aLo} {S : List Value} {σ : aSt} {H : Heap} {locs : List Loc} {ls : Array Slot} (hcd : ckD bytes (pc, .invokestatic i, a, b, w, v, ts) = true) (hca : ckA mt own ret code k (pc, .invokestatic i, a, b, w, v, ts) = true) (hs0 : aStep C Rr K (pc, .invokestatic i, a, b, w, v, ts) k L S σ) (hW : aWd ad D cA σ0 A σ H) (hS : va_S A s.heap H locs) (hL : L.length = nL) (hl : lv_has ls nL (lcn ad 0 L)) : W p l e R s m args below meth c H locs cells slots Q (F0 m pc ls (S.map (cv ad))) := by
  have X' := X
  obtain ⟨hx, hb, hml, hown, hts, hKK, hO, hSt, -⟩ := X
  have hd : decode bytes pc = .ok (.invokestatic i, 3) := ckD_ok hcd rfl
  dsimp only [ckA] at hca; rw [Bool.and_eq_true] at hca
  obtain ⟨h1, h2⟩ := hca
  dsimp only [aStep] at hs0
  obtain ⟨-, -, -, -, -, -, -, -, -, -, -, -, -, -, hcc, hcs, h7, h400, -⟩ := id X'
  split at hs0
  · dsimp only at h1
    split at hs0
    · obtain ⟨x, y, S1, rfl, hs⟩ := pII_of hs0
      obtain ⟨g1, hs⟩ := cond_and hs
      have g1 := Nat.le_of_ble_eq_true g1
      try dsimp only at h1
      exact va_mmax hx hb (hml.trans hl.1.symm) hown (hts _ (wd_good h1)) (hts _ w_max_s) (hts _ w_math) (hts _ w_max_c) (by omega) (by rw [wsm_cat]; omega) hcc hcs hd (a_nx hK h2 hs hW hS hL hl)
    · obtain ⟨x, y, S1, rfl, hs⟩ := pII_of hs0
      obtain ⟨g1, hs⟩ := cond_and hs
      have g1 := Nat.le_of_ble_eq_true g1
      try dsimp only at h1
      exact va_mmin hx hb (hml.trans hl.1.symm) hown (hts _ (wd_good h1)) (hts _ w_min_s) (hts _ w_math) (hts _ w_min_c) (by omega) (by rw [wsm_cat]; omega) hcc hcs hd (a_nx hK h2 hs hW hS hL hl)
  · dsimp only at h1
    split at hs0
    · obtain ⟨x, S1, rfl, hs⟩ := pI_of hs0
      obtain ⟨g1, hs⟩ := cond_and hs
      have g1 := Nat.le_of_ble_eq_true g1
      try dsimp only at h1
      exact va_mabs hx hb (hml.trans hl.1.symm) hown (hts _ (wd_good h1)) (hts _ w_abs_s) (hts _ w_math) (hts _ w_abs_c) (by omega) (by rw [wsm_cat]; omega) hcc hcs hd (a_nx hK h2 hs hW hS hL hl)
    · obtain ⟨x, S1, rfl, hs⟩ := pL_of hs0
      obtain ⟨g1, hs⟩ := cond_and hs
      have g1 := Nat.le_of_ble_eq_true g1
      try dsimp only at h1
      exact va_mabs_long hx hb (hml.trans hl.1.symm) hown (hts _ (wd_good h1)) (hts _ w_abs_long_s) (hts _ w_math) (hts _ w_abs_long_c) (by omega) (by rw [wsm_cat]; omega) hcc hcs hd (a_nx hK h2 hs hW hS hL hl)
  · obtain ⟨x, y, S1, rfl, hs⟩ := pLL_of hs0
    obtain ⟨g1, hs⟩ := cond_and hs
    have g1 := Nat.le_of_ble_eq_true g1
    exact va_mmax_long hx hb (hml.trans hl.1.symm) hown (hts _ (wd_good h1)) (hts _ w_max_long_s) (hts _ w_math) (hts _ w_max_long_c) (by omega) (by rw [wsm_cat]; omega) hcc hcs hd (a_nx hK h2 hs hW hS hL hl)
  · obtain ⟨o, sp, dp, n, S1, rfl, hs⟩ := pCp_of hs0
    exact a_copy X' hK hd h2 h1 hs hW hS hL hl
  · rename_i n9
    obtain ⟨g1, hs⟩ := cond_and hs0
    rw [Bool.and_eq_true] at g1
    obtain ⟨g1, g2⟩ := g1
    have g1 := Nat.le_of_ble_eq_true g1
    have g2 := Nat.le_of_ble_eq_true g2
    cases hme : mt[a]? with
    | none => dsimp only at h1; rw [hme] at h1; cases h1
    | some me =>
      dsimp only at h1
      rw [hme] at h1
      simp only [Bool.and_eq_true] at h1
      exact a_call X' (S := S) (n := n9) (w := w) hK true h1.1.1 hme (Nat.eq_of_beq_eq_true h1.1.2) hd h2 h1.2 (fun h => by cases h) g1 g2 hs hW hS hL hl
set_option maxHeartbeats 1000000 in
theorem st_invokevirtual (X : aCtx p l R s m args c cells slots ad adV fm D cA σ0 A own bytes nL mt C rm) (hK : ∀ k L S σ, K k L S σ → aWc p l e R s m args below meth c cells slots Q ad D cA σ0 A nL code k L S σ) (hR : ∀ (r : Option Value) (σ : aSt) (H : Heap) (locs : List Loc) (ls : Array Slot) (pc : Nat), Rr r σ → aRet bytes ret pc r → aWd ad D cA σ0 A σ H → va_S A s.heap H locs → W p l e R s m args below meth c H locs cells slots Q (F0 m pc ls ((r.map (cv ad)).toList))) {i : Nat} {pc a b w : Nat} {v : Value} {ts : List Nat} {k : Nat} {L : aLo} {S : List Value} {σ : aSt} {H : Heap} {locs : List Loc} {ls : Array Slot} (hcd : ckD bytes (pc, .invokevirtual i, a, b, w, v, ts) = true) (hca : ckA mt own ret code k (pc, .invokevirtual i, a, b, w, v, ts) = true) (hs0 : aStep C Rr K (pc, .invokevirtual i, a, b, w, v, ts) k L S σ) (hW : aWd ad D cA σ0 A σ H) (hS : va_S A s.heap H locs) (hL : L.length = nL) (hl : lv_has ls nL (lcn ad 0 L)) : W p l e R s m args below meth c H locs cells slots Q (F0 m pc ls (S.map (cv ad))) := by
  have X' := X
  obtain ⟨hx, hb, hml, hown, hts, hKK, hO, hSt, -⟩ := X
  have hd : decode bytes pc = .ok (.invokevirtual i, 3) := ckD_ok hcd rfl
  dsimp only [ckA] at hca; rw [Bool.and_eq_true] at hca
  obtain ⟨h1, h2⟩ := hca
  dsimp only [aStep] at hs0
  split at hs0
  · obtain ⟨o, S1, rfl, hs⟩ := pR_of hs0
    obtain ⟨g1, hs⟩ := cond_and hs
    rw [Bool.and_eq_true] at g1
    obtain ⟨g1, g2⟩ := g1
    have g2 := Nat.le_of_ble_eq_true g2
    exact a_slen X' hK hd h2 h1 g1 g2 hs hW hS hL hl
  · obtain ⟨o, j, S1, rfl, ⟨g2, g3⟩, hs⟩ := pRi_of hs0
    obtain ⟨g1, hs⟩ := cond_and hs
    rw [Bool.and_eq_true] at g1
    obtain ⟨g1, g4⟩ := g1
    have g4 := Nat.le_of_ble_eq_true g4
    exact a_sch X' hK hd h2 h1 g1 g2 g3 g4 hs hW hS hL hl
  · rename_i n9
    obtain ⟨g1, hs⟩ := cond_and hs0
    rw [Bool.and_eq_true, Bool.and_eq_true] at g1
    obtain ⟨⟨g1, g2⟩, g3⟩ := g1
    have g1 := Nat.le_of_ble_eq_true g1
    have g2 := Nat.le_of_ble_eq_true g2
    cases hme : mt[a]? with
    | none => dsimp only at h1; rw [hme] at h1; cases h1
    | some me =>
      dsimp only at h1
      rw [hme] at h1
      simp only [Bool.and_eq_true, decide_eq_true_eq, Bool.not_eq_true'] at h1
      obtain ⟨⟨⟨k1, k2⟩, k3⟩, k4⟩ := h1
      refine a_call X' (S := S) (n := n9) (w := w) hK false k1 hme (Nat.eq_of_beq_eq_true k2) hd h2 k4 (fun _ => ?_) g1 g2 hs hW hS hL hl
      unfold rcv at g3
      split at g3
      · rename_i o9 As9 ci9 rs9 e1
        refine ⟨o9, As9, by simpa using e1, ?_⟩
        cases k3
        exact Nat.eq_of_beq_eq_true g3
      · cases g3
  · exact hs0.elim
set_option maxHeartbeats 1000000 in
theorem st_ireturn (X : aCtx p l R s m args c cells slots ad adV fm D cA σ0 A own bytes nL mt C rm) (hK : ∀ k L S σ, K k L S σ → aWc p l e R s m args below meth c cells slots Q ad D cA σ0 A nL code k L S σ) (hR : ∀ (r : Option Value) (σ : aSt) (H : Heap) (locs : List Loc) (ls : Array Slot) (pc : Nat), Rr r σ → aRet bytes ret pc r → aWd ad D cA σ0 A σ H → va_S A s.heap H locs → W p l e R s m args below meth c H locs cells slots Q (F0 m pc ls ((r.map (cv ad)).toList))) {pc a b w : Nat} {v : Value} {ts : List Nat} {k : Nat} {L : aLo} {S : List Value} {σ : aSt} {H : Heap} {locs : List Loc} {ls : Array Slot} (hcd : ckD bytes (pc, .ireturn, a, b, w, v, ts) = true) (hca : ckA mt own ret code k (pc, .ireturn, a, b, w, v, ts) = true) (hs0 : aStep C Rr K (pc, .ireturn, a, b, w, v, ts) k L S σ) (hW : aWd ad D cA σ0 A σ H) (hS : va_S A s.heap H locs) (hL : L.length = nL) (hl : lv_has ls nL (lcn ad 0 L)) : W p l e R s m args below meth c H locs cells slots Q (F0 m pc ls (S.map (cv ad))) := by
  have X' := X
  obtain ⟨hx, hb, hml, hown, hts, hKK, hO, hSt, -⟩ := X
  have hd : decode bytes pc = .ok (.ireturn, 1) := ckD_ok hcd rfl
  dsimp only [aStep] at hs0
  dsimp only [ckA] at hca
  split at hs0
  · rename_i x
    split at hs0
    · exact hR (some (.int x)) σ H locs ls pc hs0 ⟨Or.inl (of_decide_eq_true hca), hd⟩ hW hS
    · rename_i hb9
      split at hca
      · exact absurd rfl hb9
      · exact hR (some (.int x)) σ H locs ls pc hs0.2 ⟨Or.inr ⟨of_decide_eq_true hca, hs0.1⟩, hd⟩ hW hS
  · exact hs0.elim
set_option maxHeartbeats 1000000 in
theorem st_lreturn (X : aCtx p l R s m args c cells slots ad adV fm D cA σ0 A own bytes nL mt C rm) (hK : ∀ k L S σ, K k L S σ → aWc p l e R s m args below meth c cells slots Q ad D cA σ0 A nL code k L S σ) (hR : ∀ (r : Option Value) (σ : aSt) (H : Heap) (locs : List Loc) (ls : Array Slot) (pc : Nat), Rr r σ → aRet bytes ret pc r → aWd ad D cA σ0 A σ H → va_S A s.heap H locs → W p l e R s m args below meth c H locs cells slots Q (F0 m pc ls ((r.map (cv ad)).toList))) {pc a b w : Nat} {v : Value} {ts : List Nat} {k : Nat} {L : aLo} {S : List Value} {σ : aSt} {H : Heap} {locs : List Loc} {ls : Array Slot} (hcd : ckD bytes (pc, .lreturn, a, b, w, v, ts) = true) (hca : ckA mt own ret code k (pc, .lreturn, a, b, w, v, ts) = true) (hs0 : aStep C Rr K (pc, .lreturn, a, b, w, v, ts) k L S σ) (hW : aWd ad D cA σ0 A σ H) (hS : va_S A s.heap H locs) (hL : L.length = nL) (hl : lv_has ls nL (lcn ad 0 L)) : W p l e R s m args below meth c H locs cells slots Q (F0 m pc ls (S.map (cv ad))) := by
  have X' := X
  obtain ⟨hx, hb, hml, hown, hts, hKK, hO, hSt, -⟩ := X
  have hd : decode bytes pc = .ok (.lreturn, 1) := ckD_ok hcd rfl
  dsimp only [aStep] at hs0
  split at hs0
  · rename_i x
    exact hR (some (.long x)) σ H locs ls pc hs0 ⟨of_decide_eq_true hca, hd⟩ hW hS
  · exact hs0.elim
set_option maxHeartbeats 1000000 in
theorem st_areturn (X : aCtx p l R s m args c cells slots ad adV fm D cA σ0 A own bytes nL mt C rm) (hK : ∀ k L S σ, K k L S σ → aWc p l e R s m args below meth c cells slots Q ad D cA σ0 A nL code k L S σ) (hR : ∀ (r : Option Value) (σ : aSt) (H : Heap) (locs : List Loc) (ls : Array Slot) (pc : Nat), Rr r σ → aRet bytes ret pc r → aWd ad D cA σ0 A σ H → va_S A s.heap H locs → W p l e R s m args below meth c H locs cells slots Q (F0 m pc ls ((r.map (cv ad)).toList))) {pc a b w : Nat} {v : Value} {ts : List Nat} {k : Nat} {L : aLo} {S : List Value} {σ : aSt} {H : Heap} {locs : List Loc} {ls : Array Slot} (hcd : ckD bytes (pc, .areturn, a, b, w, v, ts) = true) (hca : ckA mt own ret code k (pc, .areturn, a, b, w, v, ts) = true) (hs0 : aStep C Rr K (pc, .areturn, a, b, w, v, ts) k L S σ) (hW : aWd ad D cA σ0 A σ H) (hS : va_S A s.heap H locs) (hL : L.length = nL) (hl : lv_has ls nL (lcn ad 0 L)) : W p l e R s m args below meth c H locs cells slots Q (F0 m pc ls (S.map (cv ad))) := by
  have X' := X
  obtain ⟨hx, hb, hml, hown, hts, hKK, hO, hSt, -⟩ := X
  have hd : decode bytes pc = .ok (.areturn, 1) := ckD_ok hcd rfl
  dsimp only [aStep] at hs0
  dsimp only [ckA] at hca
  split at hs0
  · rename_i x
    split at hca
    · exact hR (some (.ref x)) σ H locs ls pc hs0 ⟨⟨_, rfl⟩, hd⟩ hW hS
    · cases hca
  · exact hs0.elim
set_option maxHeartbeats 1000000 in
theorem st_return_ (X : aCtx p l R s m args c cells slots ad adV fm D cA σ0 A own bytes nL mt C rm) (hK : ∀ k L S σ, K k L S σ → aWc p l e R s m args below meth c cells slots Q ad D cA σ0 A nL code k L S σ) (hR : ∀ (r : Option Value) (σ : aSt) (H : Heap) (locs : List Loc) (ls : Array Slot) (pc : Nat), Rr r σ → aRet bytes ret pc r → aWd ad D cA σ0 A σ H → va_S A s.heap H locs → W p l e R s m args below meth c H locs cells slots Q (F0 m pc ls ((r.map (cv ad)).toList))) {pc a b w : Nat} {v : Value} {ts : List Nat} {k : Nat} {L : aLo} {S : List Value} {σ : aSt} {H : Heap} {locs : List Loc} {ls : Array Slot} (hcd : ckD bytes (pc, .return_, a, b, w, v, ts) = true) (hca : ckA mt own ret code k (pc, .return_, a, b, w, v, ts) = true) (hs0 : aStep C Rr K (pc, .return_, a, b, w, v, ts) k L S σ) (hW : aWd ad D cA σ0 A σ H) (hS : va_S A s.heap H locs) (hL : L.length = nL) (hl : lv_has ls nL (lcn ad 0 L)) : W p l e R s m args below meth c H locs cells slots Q (F0 m pc ls (S.map (cv ad))) := by
  have X' := X
  obtain ⟨hx, hb, hml, hown, hts, hKK, hO, hSt, -⟩ := X
  have hd : decode bytes pc = .ok (.return_, 1) := ckD_ok hcd rfl
  dsimp only [aStep] at hs0
  split at hs0
  · exact hR none σ H locs ls pc hs0 ⟨of_decide_eq_true hca, hd⟩ hW hS
  · exact hs0.elim
set_option maxHeartbeats 4000000 in
theorem a_step (X : aCtx p l R s m args c cells slots ad adV fm D cA σ0 A own bytes nL mt C rm) (hK : ∀ k L S σ, K k L S σ → aWc p l e R s m args below meth c cells slots Q ad D cA σ0 A nL code k L S σ) (hR : ∀ (r : Option Value) (σ : aSt) (H : Heap) (locs : List Loc) (ls : Array Slot) (pc : Nat), Rr r σ → aRet bytes ret pc r → aWd ad D cA σ0 A σ H → va_S A s.heap H locs → W p l e R s m args below meth c H locs cells slots Q (F0 m pc ls ((r.map (cv ad)).toList))) {q : aMI} {k : Nat} {L : aLo} {S : List Value} {σ : aSt} (hq : code[k]? = some q) (hcd : ckD bytes q = true) (hca : ckA mt own ret code k q = true) (hs : aStep C Rr K q k L S σ) : aWc p l e R s m args below meth c cells slots Q ad D cA σ0 A nL code k L S σ := by
  intro H locs ls q' hq' hW hS hL hl
  obtain rfl : q = q' := Option.some.inj (hq.symm.trans hq')
  obtain ⟨pc, act, a, b, w, v, ts⟩ := q
  cases act with
  | iconst n => exact st_iconst X hK hR hcd hca hs hW hS hL hl
  | bipush n => exact st_bipush X hK hR hcd hca hs hW hS hL hl
  | sipush n => exact st_sipush X hK hR hcd hca hs hW hS hL hl
  | lconst n => exact st_lconst X hK hR hcd hca hs hW hS hL hl
  | ldc i => exact st_ldc X hK hR hcd hca hs hW hS hL hl
  | ldc_w i => exact st_ldc_w X hK hR hcd hca hs hW hS hL hl
  | ldc2_w i => exact st_ldc2_w X hK hR hcd hca hs hW hS hL hl
  | iload i => exact st_iload X hK hR hcd hca hs hW hS hL hl
  | iload_n i => exact st_iload_n X hK hR hcd hca hs hW hS hL hl
  | lload i => exact st_lload X hK hR hcd hca hs hW hS hL hl
  | lload_n i => exact st_lload_n X hK hR hcd hca hs hW hS hL hl
  | aload i => exact st_aload X hK hR hcd hca hs hW hS hL hl
  | aload_n i => exact st_aload_n X hK hR hcd hca hs hW hS hL hl
  | istore i => exact st_istore X hK hR hcd hca hs hW hS hL hl
  | istore_n i => exact st_istore_n X hK hR hcd hca hs hW hS hL hl
  | lstore i => exact st_lstore X hK hR hcd hca hs hW hS hL hl
  | lstore_n i => exact st_lstore_n X hK hR hcd hca hs hW hS hL hl
  | astore i => exact st_astore X hK hR hcd hca hs hW hS hL hl
  | astore_n i => exact st_astore_n X hK hR hcd hca hs hW hS hL hl
  | iinc i n => exact st_iinc X hK hR hcd hca hs hW hS hL hl
  | iadd => exact st_iadd X hK hR hcd hca hs hW hS hL hl
  | isub => exact st_isub X hK hR hcd hca hs hW hS hL hl
  | imul => exact st_imul X hK hR hcd hca hs hW hS hL hl
  | iand => exact st_iand X hK hR hcd hca hs hW hS hL hl
  | ior => exact st_ior X hK hR hcd hca hs hW hS hL hl
  | ixor => exact st_ixor X hK hR hcd hca hs hW hS hL hl
  | ishl => exact st_ishl X hK hR hcd hca hs hW hS hL hl
  | ishr => exact st_ishr X hK hR hcd hca hs hW hS hL hl
  | iushr => exact st_iushr X hK hR hcd hca hs hW hS hL hl
  | ladd => exact st_ladd X hK hR hcd hca hs hW hS hL hl
  | lsub => exact st_lsub X hK hR hcd hca hs hW hS hL hl
  | lmul => exact st_lmul X hK hR hcd hca hs hW hS hL hl
  | land => exact st_land X hK hR hcd hca hs hW hS hL hl
  | lor => exact st_lor X hK hR hcd hca hs hW hS hL hl
  | lshl => exact st_lshl X hK hR hcd hca hs hW hS hL hl
  | lshr => exact st_lshr X hK hR hcd hca hs hW hS hL hl
  | lushr => exact st_lushr X hK hR hcd hca hs hW hS hL hl
  | idiv => exact st_idiv X hK hR hcd hca hs hW hS hL hl
  | irem => exact st_irem X hK hR hcd hca hs hW hS hL hl
  | ldiv => exact st_ldiv X hK hR hcd hca hs hW hS hL hl
  | lrem => exact st_lrem X hK hR hcd hca hs hW hS hL hl
  | ineg => exact st_ineg X hK hR hcd hca hs hW hS hL hl
  | lneg => exact st_lneg X hK hR hcd hca hs hW hS hL hl
  | i2l => exact st_i2l X hK hR hcd hca hs hW hS hL hl
  | l2i => exact st_l2i X hK hR hcd hca hs hW hS hL hl
  | i2b => exact st_i2b X hK hR hcd hca hs hW hS hL hl
  | lcmp => exact st_lcmp X hK hR hcd hca hs hW hS hL hl
  | dup => exact st_dup X hK hR hcd hca hs hW hS hL hl
  | pop => exact st_pop X hK hR hcd hca hs hW hS hL hl
  | ifCond cd off => exact st_ifCond X hK hR hcd hca hs hW hS hL hl
  | if_icmp cd off => exact st_if_icmp X hK hR hcd hca hs hW hS hL hl
  | goto off => exact st_goto X hK hR hcd hca hs hW hS hL hl
  | tableswitch d lo hi os => exact st_tableswitch X hK hR hcd hca hs hW hS hL hl
  | getfield i => exact st_getfield X hK hR hcd hca hs hW hS hL hl
  | putfield i => exact st_putfield X hK hR hcd hca hs hW hS hL hl
  | getstatic i => exact st_getstatic X hK hR hcd hca hs hW hS hL hl
  | arraylength => exact st_arraylength X hK hR hcd hca hs hW hS hL hl
  | iaload => exact st_iaload X hK hR hcd hca hs hW hS hL hl
  | laload => exact st_laload X hK hR hcd hca hs hW hS hL hl
  | baload => exact st_baload X hK hR hcd hca hs hW hS hL hl
  | iastore => exact st_iastore X hK hR hcd hca hs hW hS hL hl
  | lastore => exact st_lastore X hK hR hcd hca hs hW hS hL hl
  | bastore => exact st_bastore X hK hR hcd hca hs hW hS hL hl
  | invokestatic i => exact st_invokestatic X hK hR hcd hca hs hW hS hL hl
  | invokevirtual i => exact st_invokevirtual X hK hR hcd hca hs hW hS hL hl
  | ireturn => exact st_ireturn X hK hR hcd hca hs hW hS hL hl
  | lreturn => exact st_lreturn X hK hR hcd hca hs hW hS hL hl
  | areturn => exact st_areturn X hK hR hcd hca hs hW hS hL hl
  | return_ => exact st_return_ X hK hR hcd hca hs hW hS hL hl
  | _ => exact False.elim hs
theorem a_run (X : aCtx p l R s m args c cells slots ad adV fm D cA σ0 A own bytes nL mt C rm) (hR : ∀ (r : Option Value) (σ : aSt) (H : Heap) (locs : List Loc) (ls : Array Slot) (pc : Nat), Rr r σ → aRet bytes ret pc r → aWd ad D cA σ0 A σ H → va_S A s.heap H locs → W p l e R s m args below meth c H locs cells slots Q (F0 m pc ls ((r.map (cv ad)).toList))) (hck : ∀ (k : Nat) (q : aMI), code[k]? = some q → ckD bytes q = true ∧ ckA mt own ret code k q = true) : ∀ (n k : Nat) (L : aLo) (S : List Value) (σ : aSt), aRun C Rr code n k L S σ → aWc p l e R s m args below meth c cells slots Q ad D cA σ0 A nL code k L S σ
  | 0, _, _, _, _, h => h.elim
  | n + 1, k, L, S, σ, h => by
    unfold aRun at h
    cases hq : code[k]? with
    | none => rw [hq] at h; exact h.elim
    | some q =>
      rw [hq] at h
      obtain ⟨h1, h2⟩ := hck k q hq
      exact a_step X (a_run X hR hck n) hR hq h1 h2 h
end AS
