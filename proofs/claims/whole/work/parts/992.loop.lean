/-! THE LAW'S LOOP -/
set_option maxRecDepth 100000 in
theorem law_loop {xs : Nat → Int32} {Ls : Nat} (hl : Ls ≤ 3072) : ∀ (j i : Nat) (σ : aSt), i ≤ Ls + 6 → Ls + 6 ≤ i + 6 * j → IV xs Ls σ → aGo (aCall MT 140) (fun r _ => r = some (.int 1)) mc_law 2 (LO i) [] σ := by
  intro j
  induction j with
  | zero =>
    intro i σ h1 h2 h
    have e : i = Ls + 6 := by omega
    have hs := IV_SC h
    refine go_if (c := lenI σ 91 - (6 : Int32) < iZ (i : Int)) (k1 := 1384) (L1 := LO i) (S1 := []) (σ1 := σ) (k2 := 8) (L2 := LO i) (S2 := []) (σ2 := σ) 6 (fun K h => h) (fun _ => go_ret 2 (fun _ => ⟨Or.inr rfl, rfl⟩)) (fun q => ?_)
    exfalso
    apply q
    have hlen : lenI σ 91 = iZ (Ls : Int) := hs.2
    rw [hlen, show (6 : Int32) = iZ 6 from rfl, iZ_sub, iZ_lt ⟨by omega, by omega⟩ ⟨by omega, by omega⟩]
    omega
  | succ j ih =>
    intro i σ h1 h2 h
    have hs := IV_SC h
    have hlen : lenI σ 91 = iZ (Ls : Int) := hs.2
    refine go_if (c := lenI σ 91 - (6 : Int32) < iZ (i : Int)) (k1 := 1384) (L1 := LO i) (S1 := []) (σ1 := σ) (k2 := 8) (L2 := LO i) (S2 := []) (σ2 := σ) 6 (fun K h => h) (fun _ => go_ret 2 (fun _ => ⟨Or.inr rfl, rfl⟩)) (fun q => ?_)
    rw [hlen, show (6 : Int32) = iZ 6 from rfl, iZ_sub, iZ_lt ⟨by omega, by omega⟩ ⟨by omega, by omega⟩] at q
    have hi : i + 6 ≤ Ls := by omega
    have g : ∀ σ2, IV xs Ls σ2 → aGo (aCall MT 140) (fun r _ => r = some (.int 1)) mc_law 1382 (LO i) [] σ2 := fun σ2 h2' => by
      refine go_st (k' := 2) (L' := LO (i + 6)) (S' := []) (σ' := σ2) 2 (fun K h => ?_) (ih (i + 6) σ2 (by omega) (by omega) h2')
      have e : iZ (i : Int) + (6 : Int32) = iZ ((i + 6 : Nat) : Int) := by rw [show (6 : Int32) = iZ 6 from rfl, iZ_add]; congr 1
      show K 2 [some (.ref 91), some (.ref 0), some (.ref 66), some (.int (iZ (i : Int) + (6 : Int32)))] [] σ2
      rw [e]
      exact h
    have hrd := rdS hs (i := i) (j := 0) (by omega) hl (c := 0) rfl
    have e0 : iZ (i : Int) + (0 : Int32) = iZ (i : Int) := by rw [show (0 : Int32) = iZ 0 from rfl, iZ_add]; congr 1
    rw [e0] at hrd
    refine go_q (Q := inb 0 σ 91 (iZ (i : Int))) (k' := 11) (L' := LO i) (S' := [.int (σ.1 91 (iZ (i : Int)).toNatClampNeg)]) (σ' := σ) 3 hrd.1 (fun K h => h) ?_
    refine go_sw (L' := LO i) (S' := []) (σ' := σ) 3 (fun K h => h) ?_
    refine tsw_cons (fun _ => lw_feed hl hi h g) (fun _ => ?_)
    refine tsw_cons (fun _ => lw_end hl hi h g) (fun _ => ?_)
    refine tsw_cons (fun _ => lw_curve hl hi h g) (fun _ => ?_)
    refine tsw_cons (fun _ => lw_fault hl hi h g) (fun _ => ?_)
    refine tsw_cons (fun _ => lw_count hl hi h g) (fun _ => ?_)
    refine tsw_cons (fun _ => lw_point hl hi h g) (fun _ => ?_)
    refine tsw_cons (fun _ => lw_at hl hi h g) (fun _ => ?_)
    refine tsw_cons (fun _ => lw_turned hl hi h g) (fun _ => ?_)
    refine tsw_cons (fun _ => lw_sum hl hi h g) (fun _ => ?_)
    refine tsw_cons (fun _ => lw_of hl hi h g) (fun _ => ?_)
    refine tsw_cons (fun _ => lw_times hl hi h g) (fun _ => ?_)
    refine tsw_cons (fun _ => lw_order hl hi h g) (fun _ => ?_)
    refine tsw_cons (fun _ => lw_round hl hi h g) (fun _ => ?_)
    refine tsw_cons (fun _ => lw_formula hl hi h g) (fun _ => ?_)
    refine tsw_cons (fun _ => lw_many hl hi h g) (fun _ => ?_)
    refine tsw_cons (fun _ => lw_orderBy hl hi h g) (fun _ => ?_)
    refine tsw_cons (fun _ => lw_bound hl hi h g) (fun _ => ?_)
    refine tsw_cons (fun _ => lw_trace hl hi h g) (fun _ => ?_)
    refine tsw_cons (fun _ => lw_classes hl hi h g) (fun _ => ?_)
    refine tsw_cons (fun _ => lw_classOf hl hi h g) (fun _ => ?_)
    refine tsw_cons (fun _ => lw_rank hl hi h g) (fun _ => ?_)
    refine tsw_cons (fun _ => lw_classAt hl hi h g) (fun _ => ?_)
    refine tsw_cons (fun _ => lw_bits hl hi h g) (fun _ => ?_)
    refine tsw_cons (fun _ => lw_parallel hl hi h g) (fun _ => ?_)
    refine tsw_cons (fun _ => lw_made hl hi h g) (fun _ => ?_)
    refine tsw_cons (fun _ => lw_makers hl hi h g) (fun _ => ?_)
    refine tsw_cons (fun _ => lw_related hl hi h g) (fun _ => ?_)
    refine tsw_cons (fun _ => lw_above hl hi h g) (fun _ => ?_)
    refine tsw_cons (fun _ => lw_upTo hl hi h g) (fun _ => ?_)
    refine tsw_cons (fun _ => lw_beside hl hi h g) (fun _ => ?_)
    refine tsw_cons (fun _ => lw_same hl hi h g) (fun _ => ?_)
    refine tsw_cons (fun _ => lw_goesBeside hl hi h g) (fun _ => ?_)
    refine tsw_cons (fun _ => lw_twists hl hi h g) (fun _ => ?_)
    refine tsw_cons (fun _ => lw_within hl hi h g) (fun _ => ?_)
    refine tsw_cons (fun _ => lw_tell hl hi h g) (fun _ => ?_)
    refine tsw_cons (fun _ => lw_octet hl hi h g) (fun _ => ?_)
    refine tsw_cons (fun _ => lw_half hl hi h g) (fun _ => ?_)
    refine tsw_cons (fun _ => lw_straight hl hi h g) (fun _ => ?_)
    refine tsw_cons (fun _ => lw_lines hl hi h g) (fun _ => ?_)
    refine tsw_cons (fun _ => lw_part hl hi h g) (fun _ => ?_)
    refine tsw_cons (fun _ => lw_shows hl hi h g) (fun _ => ?_)
    refine tsw_cons (fun _ => lw_groupBy hl hi h g) (fun _ => ?_)
    refine tsw_cons (fun _ => lw_logBy hl hi h g) (fun _ => ?_)
    refine tsw_cons (fun _ => lw_bestBy hl hi h g) (fun _ => ?_)
    refine tsw_cons (fun _ => lw_walk hl hi h g) (fun _ => ?_)
    refine tsw_cons (fun _ => lw_between hl hi h g) (fun _ => ?_)
    refine tsw_cons (fun _ => lw_nearest hl hi h g) (fun _ => ?_)
    refine tsw_cons (fun _ => lw_undo hl hi h g) (fun _ => ?_)
    refine tsw_cons (fun _ => lw_overMany hl hi h g) (fun _ => ?_)
    refine tsw_cons (fun _ => lw_overPoint hl hi h g) (fun _ => ?_)
    refine tsw_cons (fun _ => lw_over hl hi h g) (fun _ => ?_)
    refine tsw_cons (fun _ => lw_back hl hi h g) (fun _ => ?_)
    refine tsw_cons (fun _ => lw_bad hl hi h g) (fun _ => ?_)
    refine tsw_cons (fun _ => lw_solves hl hi h g) (fun _ => ?_)
    refine tsw_cons (fun _ => lw_deep hl hi h g) (fun _ => ?_)
    refine tsw_cons (fun _ => lw_tellCurve hl hi h g) (fun _ => ?_)
    refine tsw_cons (fun _ => lw_seenBy hl hi h g) (fun _ => ?_)
    refine tsw_cons (fun _ => lw_firstAlike hl hi h g) (fun _ => ?_)
    refine tsw_cons (fun _ => lw_turnsRank hl hi h g) (fun _ => ?_)
    refine tsw_cons (fun _ => lw_breaks hl hi h g) (fun _ => ?_)
    refine tsw_cons (fun _ => lw_traces hl hi h g) (fun _ => ?_)
    refine tsw_cons (fun _ => lw_sorts hl hi h g) (fun _ => ?_)
    exact tsw_nil (g σ h)
