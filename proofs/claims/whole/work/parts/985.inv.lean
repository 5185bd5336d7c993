/-! THE INVARIANT of both programs in one state (printed by g985.py) -/
def TD1 (len : Nat) (σ : aSt) : Prop := ToD len σ σ
def Fl (σ : aSt) : Prop := σ.1 1 7 = σ.1 66 18 ∧ σ.1 1 8 = σ.1 66 19
/-- the script -/
def SC (xs : Nat → Int32) (Ls : Nat) (σ : aSt) : Prop := (∀ j, j < Ls → σ.1 91 j = xs j) ∧ σ.1 92 0 = iZ (Ls : Int)
/-- what holds with or without a CURVE -/
def BI (T : Nat → Int) (n len : Nat) (xs : Nat → Int32) (Ls : Nat) (σ : aSt) : Prop := XT T n σ ∧ MT' T n σ ∧ Z9 σ ∧ KT_41 σ ∧ KT_49 σ ∧ KT_57 σ ∧ CP σ ∧ CM σ ∧ TD1 len σ ∧ Fl σ ∧ SC xs Ls σ
def RR (a b : Int) (M E : Nat) (H : Nat → Int) (d : Nat) (σ : aSt) : Prop := RX a b M E σ ∧ OR a b M E σ ∧ LN a b M E σ ∧ MKc a b M E σ ∧ BS a b M E σ ∧ GI a b σ ∧ TR a b σ ∧ XH H d σ ∧ RM a b M E σ ∧ MH H d σ
def RD (a b : Int) (M E : Nat) (H : Nat → Int) (d : Nat) (T : Nat → Int) (n len : Nat) (xs : Nat → Int32) (Ls : Nat) (σ : aSt) : Prop := (CVc a b M E ∧ HV H d ∧ okT T n) ∧ RR a b M E H d σ ∧ BI T n len xs Ls σ
def NRD (T : Nat → Int) (n len : Nat) (xs : Nat → Int32) (Ls : Nat) (σ : aSt) : Prop := okT T n ∧ (σ.2.2 0 13 = false ∧ σ.2.2 66 1 = false ∧ σ.1 11 5 = 0 ∧ σ.1 66 9 = 0) ∧ BI T n len xs Ls σ
def IV (xs : Nat → Int32) (Ls : Nat) (σ : aSt) : Prop := (∃ T n len, NRD T n len xs Ls σ) ∨ (∃ a b M E H d T n len, RD a b M E H d T n len xs Ls σ)
theorem RX_k {a b : Int} {M E : Nat} {S : Nat → Nat → Bool} {σ σ' : aSt} (hf : fr S σ σ') (c : ∀ k : Nat, S 0 13 = false ∧ S 11 k = false ∧ S 12 k = false ∧ S 13 k = false ∧ S 14 k = false ∧ S 15 k = false) (h : RX a b M E σ) : RX a b M E σ' := ⟨by rw [(hf 0 13 (c 0).1).2.2]; exact h.1, XC_fr hf (fun k => (c k).2) h.2⟩
theorem OR_k {a b : Int} {M E : Nat} {S : Nat → Nat → Bool} {σ σ' : aSt} (hf : fr S σ σ') (c : ∀ k : Nat, S 23 k = false) (h : OR a b M E σ) : OR a b M E σ' := fun i hi => by rw [(hf 23 i (c i)).1]; exact h i hi
theorem LN_k {a b : Int} {M E : Nat} {S : Nat → Nat → Bool} {σ σ' : aSt} (hf : fr S σ σ') (c : ∀ k : Nat, S 21 5 = false) (h : LN a b M E σ) : LN a b M E σ' := by
  unfold LN at h ⊢
  rw [(hf 21 5 (c 0)).1]; exact h
theorem MKc_k {a b : Int} {M E : Nat} {S : Nat → Nat → Bool} {σ σ' : aSt} (hf : fr S σ σ') (c : ∀ k : Nat, S 26 4 = false ∧ S 26 5 = false ∧ S 26 6 = false ∧ S 27 k = false ∧ S 28 k = false ∧ S 29 k = false) (h : MKc a b M E σ) : MKc a b M E σ' := by
  obtain ⟨c1, c2, c3, _⟩ := c 0
  have c4 : ∀ k, S 27 k = false := fun k => (c k).2.2.2.1
  have c5 : ∀ k, S 28 k = false := fun k => (c k).2.2.2.2.1
  have c6 : ∀ k, S 29 k = false := fun k => (c k).2.2.2.2.2
  unfold MKc CL26 at h ⊢
  have e4 := (hf 26 4 c1).1
  have e5 := (hf 26 5 c2).1
  have e6 := (hf 26 6 c3).2.2
  have e7 : ∀ k, σ'.1 27 k = σ.1 27 k := fun k => (hf 27 k (c4 k)).1
  have e8 : ∀ k, σ'.1 28 k = σ.1 28 k := fun k => (hf 28 k (c5 k)).1
  have e9 : ∀ k, σ'.1 29 k = σ.1 29 k := fun k => (hf 29 k (c6 k)).1
  simp only [e4, e5, e6, e7, e8, e9]
  exact h
theorem BS_k {a b : Int} {M E : Nat} {S : Nat → Nat → Bool} {σ σ' : aSt} (hf : fr S σ σ') (c : ∀ k : Nat, S 0 14 = false ∧ S 16 k = false ∧ S 17 k = false ∧ S 18 k = false ∧ S 19 k = false ∧ S 20 k = false) (h : BS a b M E σ) : BS a b M E σ' := fun q => by
  rw [(hf 0 14 (c 0).1).2.2] at q
  obtain ⟨⟨h1, h2, h3⟩, h4, h5, h6, h7⟩ := h q
  have c16 : ∀ k, S 16 k = false := fun k => (c k).2.1
  refine ⟨⟨by rw [(hf 16 5 (c16 5)).1]; exact h1, h2, fun i p hi => ?_⟩, by rw [(hf 16 6 (c16 6)).1]; exact h4, by rw [(hf 16 7 (c16 7)).1]; exact h5, by rw [(hf 16 8 (c16 8)).1]; exact h6, by rw [(hf 16 9 (c16 9)).1]; exact h7⟩
  obtain ⟨q1, q2, q3, q4⟩ := h3 i p hi
  exact ⟨by rw [(hf 17 i (c i).2.2.1).1]; exact q1, by rw [(hf 18 i (c i).2.2.2.1).1]; exact q2, by rw [(hf 19 i (c i).2.2.2.2.1).1]; exact q3, by rw [(hf 20 i (c i).2.2.2.2.2).2.1]; exact q4⟩
theorem GI_k {a b : Int} {S : Nat → Nat → Bool} {σ σ' : aSt} (hf : fr S σ σ') (c : ∀ k : Nat, S 34 k = false ∧ S 35 k = false ∧ S 36 k = false ∧ S 40 k = false) (h : GI a b σ) : GI a b σ' := GI_fr hf (fun k => (c k).1) (fun k => (c k).2.1) (fun k => (c k).2.2.1) (fun k => (c k).2.2.2) h
theorem TR_k {a b : Int} {S : Nat → Nat → Bool} {σ σ' : aSt} (hf : fr S σ σ') (c : ∀ k : Nat, S 0 15 = false ∧ S 65 k = false) (h : TR a b σ) : TR a b σ' := fun q k hk => by
  rw [(hf 65 k (c k).2).1]
  exact h (by rw [(hf 0 15 (c 0).1).2.2] at q; exact q) k hk
theorem XH_k {H : Nat → Int} {d : Nat} {S : Nat → Nat → Bool} {σ σ' : aSt} (hf : fr S σ σ') (c : ∀ k : Nat, S 6 1 = false ∧ S 7 k = false) (h : XH H d σ) : XH H d σ' := ⟨by rw [(hf 6 1 (c 0).1).1]; exact h.1, h.2.1, fun i hi => by rw [(hf 7 i (c i).2).1]; exact h.2.2 i hi⟩
theorem RM_k {a b : Int} {M E : Nat} {S : Nat → Nat → Bool} {σ σ' : aSt} (hf : fr S σ σ') (c : ∀ k : Nat, S 66 1 = false ∧ S 66 2 = false ∧ S 66 3 = false ∧ S 66 4 = false ∧ S 66 5 = false ∧ S 66 9 = false ∧ S 67 k = false ∧ S 68 k = false ∧ S 69 k = false) (h : RM a b M E σ) : RM a b M E σ' := ⟨by rw [(hf 66 1 (c 0).1).2.2]; exact h.1, MC_fr hf ⟨(c 0).2.2.2.2.2.1, (c 0).2.1, (c 0).2.2.1, (c 0).2.2.2.1, (c 0).2.2.2.2.1, fun k => (c k).2.2.2.2.2.2⟩ h.2⟩
theorem MH_k {H : Nat → Int} {d : Nat} {S : Nat → Nat → Bool} {σ σ' : aSt} (hf : fr S σ σ') (c : ∀ k : Nat, S 66 22 = false ∧ S 72 k = false) (h : MH H d σ) : MH H d σ' := ⟨by rw [(hf 66 22 (c 0).1).1]; exact h.1, h.2.1, fun i hi => by rw [(hf 72 i (c i).2).1]; exact h.2.2 i hi⟩
theorem XT_k {T : Nat → Int} {n : Nat} {S : Nat → Nat → Bool} {σ σ' : aSt} (hf : fr S σ σ') (c : ∀ k : Nat, S 1 2 = false ∧ S 2 k = false) (h : XT T n σ) : XT T n σ' := XT_fr hf (c 0).1 (fun k => (c k).2) h
theorem MTq_k {T : Nat → Int} {n : Nat} {S : Nat → Nat → Bool} {σ σ' : aSt} (hf : fr S σ σ') (c : ∀ k : Nat, S 66 11 = false ∧ S 70 k = false) (h : MT' T n σ) : MT' T n σ' := ⟨by rw [(hf 66 11 (c 0).1).1]; exact h.1, fun i hi => by rw [(hf 70 i (c i).2).1]; exact h.2 i hi⟩
theorem Z9_k  {S : Nat → Nat → Bool} {σ σ' : aSt} (hf : fr S σ σ') (c : ∀ k : Nat, S 9 k = false) (h : Z9  σ) : Z9  σ' := fun k hk => by rw [(hf 9 k (c k)).1]; exact h k hk
theorem KT_41_k  {S : Nat → Nat → Bool} {σ σ' : aSt} (hf : fr S σ σ') (c : ∀ k : Nat, S 41 7 = false ∧ S 41 8 = false ∧ S 41 9 = false ∧ S 42 k = false ∧ S 43 k = false ∧ S 44 k = false ∧ S 45 k = false ∧ S 46 k = false ∧ S 47 k = false ∧ S 48 k = false) (h : KT_41  σ) : KT_41  σ' := KT_41_fr hf (c 0).1 (c 0).2.1 (c 0).2.2.1 (fun k => (c k).2.2.2.1) (fun k => (c k).2.2.2.2.1) (fun k => (c k).2.2.2.2.2.1) (fun k => (c k).2.2.2.2.2.2.1) (fun k => (c k).2.2.2.2.2.2.2.1) (fun k => (c k).2.2.2.2.2.2.2.2.1) (fun k => (c k).2.2.2.2.2.2.2.2.2) h
theorem KT_49_k  {S : Nat → Nat → Bool} {σ σ' : aSt} (hf : fr S σ σ') (c : ∀ k : Nat, S 49 7 = false ∧ S 49 8 = false ∧ S 49 9 = false ∧ S 50 k = false ∧ S 51 k = false ∧ S 52 k = false ∧ S 53 k = false ∧ S 54 k = false ∧ S 55 k = false ∧ S 56 k = false) (h : KT_49  σ) : KT_49  σ' := KT_49_fr hf (c 0).1 (c 0).2.1 (c 0).2.2.1 (fun k => (c k).2.2.2.1) (fun k => (c k).2.2.2.2.1) (fun k => (c k).2.2.2.2.2.1) (fun k => (c k).2.2.2.2.2.2.1) (fun k => (c k).2.2.2.2.2.2.2.1) (fun k => (c k).2.2.2.2.2.2.2.2.1) (fun k => (c k).2.2.2.2.2.2.2.2.2) h
theorem KT_57_k  {S : Nat → Nat → Bool} {σ σ' : aSt} (hf : fr S σ σ') (c : ∀ k : Nat, S 57 7 = false ∧ S 57 8 = false ∧ S 57 9 = false ∧ S 58 k = false ∧ S 59 k = false ∧ S 60 k = false ∧ S 61 k = false ∧ S 62 k = false ∧ S 63 k = false ∧ S 64 k = false) (h : KT_57  σ) : KT_57  σ' := KT_57_fr hf (c 0).1 (c 0).2.1 (c 0).2.2.1 (fun k => (c k).2.2.2.1) (fun k => (c k).2.2.2.2.1) (fun k => (c k).2.2.2.2.2.1) (fun k => (c k).2.2.2.2.2.2.1) (fun k => (c k).2.2.2.2.2.2.2.1) (fun k => (c k).2.2.2.2.2.2.2.2.1) (fun k => (c k).2.2.2.2.2.2.2.2.2) h
theorem CP_k  {S : Nat → Nat → Bool} {σ σ' : aSt} (hf : fr S σ σ') (c : ∀ k : Nat, S 87 k = false) (h : CP  σ) : CP  σ' := fun k hk => by rw [(hf 87 k (c k)).1]; exact h k hk
theorem CM_k  {S : Nat → Nat → Bool} {σ σ' : aSt} (hf : fr S σ σ') (c : ∀ k : Nat, S 88 k = false ∧ S 89 k = false ∧ S 90 k = false) (h : CM  σ) : CM  σ' := CM_fr hf (fun k => (c k).1) (fun k => (c k).2.1) (fun k => (c k).2.2) h
theorem TD1_k {len : Nat} {S : Nat → Nat → Bool} {σ σ' : aSt} (hf : fr S σ σ') (c : ∀ k : Nat, S 4 1 = false ∧ S 5 k = false ∧ S 66 57 = false ∧ S 86 k = false) (h : TD1 len σ) : TD1 len σ' := ⟨by rw [(hf 4 1 (c 0).1).1]; exact h.1, by rw [(hf 66 57 (c 0).2.2.1).1]; exact h.2.1, h.2.2.1, fun i hi => by rw [(hf 5 i (c i).2.1).1, (hf 86 i (c i).2.2.2).1]; exact h.2.2.2 i hi⟩
theorem Fl_k  {S : Nat → Nat → Bool} {σ σ' : aSt} (hf : fr S σ σ') (c : ∀ k : Nat, S 1 7 = false ∧ S 1 8 = false ∧ S 66 18 = false ∧ S 66 19 = false) (h : Fl  σ) : Fl  σ' := ⟨by rw [(hf 1 7 (c 0).1).1, (hf 66 18 (c 0).2.2.1).1]; exact h.1, by rw [(hf 1 8 (c 0).2.1).1, (hf 66 19 (c 0).2.2.2).1]; exact h.2⟩
theorem SC_k {xs : Nat → Int32} {Ls : Nat} {S : Nat → Nat → Bool} {σ σ' : aSt} (hf : fr S σ σ') (c : ∀ k : Nat, S 91 k = false ∧ S 92 0 = false) (h : SC xs Ls σ) : SC xs Ls σ' := ⟨fun j hj => by rw [(hf 91 j (c j).1).1]; exact h.1 j hj, by rw [(hf 92 0 (c 0).2).1]; exact h.2⟩
