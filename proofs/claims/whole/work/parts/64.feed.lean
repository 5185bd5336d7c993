/-! THE TAPE: feed, end -/
theorem sh32k : ∀ s, s < 32 → (((iZ ((s : Nat) : Int)) &&& 31).toBitVec.smod 32).toNat = s := by decide +kernel
theorem shr32 (v : Int32) {s : Nat} (hs : s < 32) : (v >>> ((iZ s) &&& 31)).toInt = v.toInt / 2 ^ s := by
  show (v.toBitVec.sshiftRight' (((iZ (s : Int)) &&& 31).toBitVec.smod 32)).toInt = _
  rw [BitVec.toInt_sshiftRight', sh32k s hs]
  show v.toInt >>> s = _
  rw [Int.shiftRight_eq_div_pow]
  norm_cast
def uN (v : Int32) : Nat := v.toUInt32.toNat
theorem uN_int (v : Int32) : (uN v < 4294967296) ∧ ((uN v < 2147483648 ∧ v.toInt = uN v) ∨ (2147483648 ≤ uN v ∧ v.toInt = uN v - 4294967296)) := by
  have e : uN v = v.toBitVec.toNat := rfl
  have h1 := v.toBitVec.isLt
  have h2 : v.toInt = v.toBitVec.toInt := rfl
  rw [BitVec.toInt_eq_toNat_cond] at h2
  rw [e]
  refine ⟨by omega, ?_⟩
  split at h2 <;> omega
theorem u_inj : ∀ {a b : Int32}, a.toUInt32 = b.toUInt32 → a = b
  | ⟨_⟩, ⟨_⟩, h => by cases h; rfl
/-- a byte as the class takes it -/
theorem byteX (v : Int32) {s : Nat} (hs : s < 32) : (iushr v (iZ s) &&& (255 : Int32)) = iZ ((uN v / 2 ^ s % 256 : Nat) : Int) := by
  apply u_inj
  have e1 : (iZ ((uN v / 2 ^ s % 256 : Nat) : Int)).toUInt32 = UInt32.ofNat (uN v / 2 ^ s % 256) := by
    show (Int32.ofInt ((uN v / 2 ^ s % 256 : Nat) : Int)).toUInt32 = _
    rw [Int32.ofInt_eq_ofNat]; rfl
  rw [e1]
  unfold iushr
  have e2 : (iZ (s : Int)).toUInt32 = UInt32.ofNat s := by
    show (Int32.ofInt (s : Int)).toUInt32 = _
    rw [Int32.ofInt_eq_ofNat]; rfl
  have e3 : Int32.toUInt32 31 = UInt32.ofNat 31 := rfl
  have e4 : UInt32.ofNat s &&& UInt32.ofNat 31 = UInt32.ofNat s := by
    apply UInt32.toNat_inj.mp
    rw [UInt32.toNat_and, UInt32.toNat_ofNat', UInt32.toNat_ofNat']
    show s % 2 ^ 32 &&& 31 % 2 ^ 32 = s % 2 ^ 32
    rw [Nat.mod_eq_of_lt (by omega : s < 2 ^ 32), show 31 % 2 ^ 32 = 2 ^ 5 - 1 from rfl, Nat.and_two_pow_sub_one_eq_mod]
    exact Nat.mod_eq_of_lt (by omega)
  rw [e2, e3, e4]
  show (v.toUInt32 >>> UInt32.ofNat s) &&& UInt32.ofNat 255 = _
  apply UInt32.toNat_inj.mp
  rw [UInt32.toNat_and, UInt32.toNat_shiftRight, UInt32.toNat_ofNat', UInt32.toNat_ofNat', UInt32.toNat_ofNat', Nat.mod_eq_of_lt (by omega : s < 2 ^ 32), Nat.mod_eq_of_lt hs, Nat.shiftRight_eq_div_pow, show 255 % 2 ^ 32 = 2 ^ 8 - 1 from rfl, Nat.and_two_pow_sub_one_eq_mod]
  show uN v / 2 ^ s % 256 = uN v / 2 ^ s % 256 % 4294967296
  have : uN v / 2 ^ s % 256 < 256 := Nat.mod_lt _ (by omega)
  omega
/-- a byte with its sign -/
def sb8 (t : Int) : Int := if t < 128 then t else t - 256
theorem bmod8 {z t : Int} (h : z % 256 = t) : z.bmod (2 ^ 8) = sb8 t := by
  subst h
  unfold sb8
  show z.bmod 256 = _
  rw [Int.bmod_def]
  rfl
theorem i8_self {z : Int} (h : -128 ≤ z ∧ z < 128) : (iZ z).toInt8.toInt32 = iZ z := by
  apply Int32.toInt_inj.mp
  rw [Int8.toInt_toInt32, Int32.toInt_toInt8, iZ_int ⟨by omega, by omega⟩]
  exact Int.bmod_eq_of_le (by omega) (by omega)
/-- .. as the reference takes it -/
theorem byteM (v : Int32) {s : Nat} (hs : s = 24 ∨ s = 16 ∨ s = 8 ∨ s = 0) : (v >>> ((iZ s) &&& 31)).toInt8.toInt32.toInt8.toInt32 = iZ (sb8 ((uN v / 2 ^ s % 256 : Nat) : Int)) := by
  have hu := uN_int v
  have hb : (v.toInt / 2 ^ s) % 256 = ((uN v / 2 ^ s % 256 : Nat) : Int) := by
    rcases hs with rfl | rfl | rfl | rfl <;> omega
  have ht : 0 ≤ ((uN v / 2 ^ s % 256 : Nat) : Int) ∧ ((uN v / 2 ^ s % 256 : Nat) : Int) < 256 := by omega
  have e1 : (v >>> ((iZ (s : Int)) &&& 31)).toInt8.toInt32 = iZ (sb8 ((uN v / 2 ^ s % 256 : Nat) : Int)) := by
    apply Int32.toInt_inj.mp
    rw [Int8.toInt_toInt32, Int32.toInt_toInt8, shr32 v (by omega), bmod8 hb, iZ_int]
    unfold sb8
    split
    · exact ⟨by omega, by omega⟩
    · exact ⟨by omega, by omega⟩
  rw [e1]
  refine i8_self ?_
  unfold sb8
  split <;> omega
/-- the TAPE in both programs -/
def XT (T : Nat → Int) (len : Nat) (σ : aSt) : Prop := σ.1 1 2 = iZ len ∧ len ≤ 200 ∧ ∀ i, i < len → σ.1 2 i = iZ (T i)
def MT' (T : Nat → Int) (len : Nat) (τ : aSt) : Prop := τ.1 66 11 = iZ len ∧ ∀ i, i < len → τ.1 70 i = iZ (sb8 (T i))
def okT (T : Nat → Int) (len : Nat) : Prop := ∀ i, i < len → 0 ≤ T i ∧ T i < 256
theorem end_eq {T : Nat → Int} {len : Nat} {σ τ : aSt} (hx : XT T len σ) (hm : MT' T len τ) (p : Int32) : ∃ (r : Int32) (σ' τ' : aSt) (len' : Nat), f_X_end p σ = (r, σ') ∧ f_M_end p τ = (r, τ') ∧ len' ≤ len ∧ XT T len' σ' ∧ MT' T len' τ' ∧ fr (fun o k => Nat.beq o 1 && Nat.beq k 2) σ σ' ∧ fr (fun o k => Nat.beq o 66 && Nat.beq k 11) τ τ' := by
  obtain ⟨h1, h2, h3⟩ := hx
  obtain ⟨m1, m2⟩ := hm
  unfold f_X_end f_M_end f_Reader_length f_Reader_cut
  rw [h1, m1, i2j ⟨by omega, by omega⟩, jZ_lit, in_p (bd_lit _ rfl) ⟨by omega, by omega⟩, ite_dec]
  have q1 : (p < (0 : Int32)) = (p.toInt < 0) := pl_lt (bd_lit 0 rfl)
  have q2 : (p ≤ iZ (len : Int)) = (p.toInt ≤ len) := pl_le ⟨by omega, by omega⟩
  simp only [q1, q2, lt_eq]
  by_cases c : 0 ≤ p.toInt ∧ p.toInt ≤ (len : Int)
  · rw [if_pos c, if_neg (show ¬ p.toInt < 0 by omega), if_pos c.2]
    obtain ⟨n, hn⟩ : ∃ n : Nat, p.toInt = n := ⟨p.toInt.toNat, by omega⟩
    have ep := lit32 hn
    refine ⟨_, _, _, n, rfl, rfl, by omega, ⟨by rw [si_eq]; exact ep, by omega, fun i hi => ?_⟩, ⟨by rw [si_eq]; exact ep, fun i hi => ?_⟩, fr_si rfl, fr_si rfl⟩
    · rw [si_ne (Or.inl (by decide))]; exact h3 i (by omega)
    · rw [si_ne (Or.inl (by decide))]; exact m2 i (by omega)
  · rw [if_neg c]
    by_cases c2 : p.toInt < 0
    · rw [if_pos c2]
      exact ⟨_, _, _, len, rfl, rfl, Nat.le_refl _, ⟨h1, h2, h3⟩, ⟨m1, m2⟩, fr_refl _ _, fr_refl _ _⟩
    · rw [if_neg c2, if_neg (show ¬ p.toInt ≤ (len : Int) by omega)]
      exact ⟨_, _, _, len, rfl, rfl, Nat.le_refl _, ⟨h1, h2, h3⟩, ⟨m1, m2⟩, fr_refl _ _, fr_refl _ _⟩
