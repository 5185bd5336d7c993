/-! FINDING a POINT in a list -/
def fndA (t : Pt) : List Pt → Nat → Int
  | [], _ => -6
  | p :: l, i => if p = t then (i : Int) else fndA t l (i + 1)
/-- its number, -6: it isn't there -/
def fnd (L : List Pt) (t : Pt) : Int := fndA t L 0
theorem fndA_in {t : Pt} : ∀ (L : List Pt) (i k : Nat), L[i]? = some t → (∀ j, j < i → L[j]? ≠ some t) → fndA t L k = ((k + i : Nat) : Int)
  | [], i, k, h, _ => by cases h
  | p :: l, 0, k, h, _ => by
    have : p = t := Option.some.inj h
    rw [fndA, if_pos this]; rfl
  | p :: l, i + 1, k, h, hj => by
    have : p ≠ t := fun e => hj 0 (by omega) (by rw [e]; rfl)
    rw [fndA, if_neg this, fndA_in l i (k + 1) h (fun j q => hj (j + 1) (by omega))]
    congr 1; omega
theorem fndA_out {t : Pt} : ∀ (L : List Pt) (k : Nat), t ∉ L → fndA t L k = -6
  | [], k, _ => rfl
  | p :: l, k, h => by
    rw [fndA, if_neg (fun e => h (by rw [e]; exact List.mem_cons_self)), fndA_out l (k + 1) (fun q => h (List.mem_cons_of_mem _ q))]
theorem fnd_out {L : List Pt} {t : Pt} (h : t ∉ L) : fnd L t = -6 := fndA_out L 0 h
/-- sorted by key -/
def KS (L : List Pt) : Prop := L.Pairwise (fun p q => key p < key q)
theorem KS_lt {L : List Pt} (h : KS L) {i j : Nat} {p q : Pt} (hi : L[i]? = some p) (hj : L[j]? = some q) (hij : i < j) : key p < key q := by
  have hi2 := get_lt hi
  have hj2 := get_lt hj
  have := (List.pairwise_iff_getElem.mp h) i j hi2 hj2 hij
  rw [List.getElem?_eq_getElem hi2] at hi
  rw [List.getElem?_eq_getElem hj2] at hj
  rw [Option.some.inj hi, Option.some.inj hj] at this
  exact this
theorem KS_inj {L : List Pt} (h : KS L) {i j : Nat} {p : Pt} (hi : L[i]? = some p) (hj : L[j]? = some p) : i = j := by
  rcases Nat.lt_trichotomy i j with q | q | q
  · exact absurd (KS_lt h hi hj q) (by omega)
  · exact q
  · exact absurd (KS_lt h hj hi q) (by omega)
theorem fnd_in {L : List Pt} (hs : KS L) {t : Pt} {i : Nat} (h : L[i]? = some t) : fnd L t = i := by
  have := fndA_in L i 0 h (fun j q e => by have := KS_inj hs h e; omega)
  rw [Nat.zero_add] at this
  exact this
theorem fnd_cases {L : List Pt} (hs : KS L) (t : Pt) : (∃ i : Nat, L[i]? = some t ∧ fnd L t = (i : Int)) ∨ (t ∉ L ∧ fnd L t = -6) := by
  by_cases c : t ∈ L
  · obtain ⟨i, hi⟩ := List.getElem?_of_mem c
    exact Or.inl ⟨i, hi, fnd_in hs hi⟩
  · exact Or.inr ⟨c, fnd_out c⟩
/-- bounds of a key's parts -/
def kb (p : Pt) : Prop := bd 1048576 p.1 ∧ bd 1048576 p.2.1 ∧ 1 ≤ p.2.2 ∧ p.2.2 ≤ 1000
theorem key_inj {p q : Pt} (hp : kb p) (hq : kb q) (h : key p = key q) : p = q := by
  obtain ⟨m, n, e⟩ := p
  obtain ⟨m', n', e'⟩ := q
  obtain ⟨⟨a1, a2⟩, ⟨a3, a4⟩, a5, a6⟩ := hp
  obtain ⟨⟨b1, b2⟩, ⟨b3, b4⟩, b5, b6⟩ := hq
  unfold key at h
  simp only at h a1 a2 a3 a4 b1 b2 b3 b4
  have h1 : e * 2097153 + m = e' * 2097153 + m' := by omega
  have h2 : n = n' := by omega
  have h3 : e = e' := by omega
  have h4 : m = m' := by omega
  rw [h2, h3, h4]
theorem key_lt {p q : Pt} (hp : kb p) (hq : kb q) (h : p.2.2 < q.2.2 ∨ (p.2.2 = q.2.2 ∧ (p.1 < q.1 ∨ (p.1 = q.1 ∧ p.2.1 < q.2.1)))) : key p < key q := by
  obtain ⟨m, n, e⟩ := p
  obtain ⟨m', n', e'⟩ := q
  obtain ⟨⟨a1, a2⟩, ⟨a3, a4⟩, a5, a6⟩ := hp
  obtain ⟨⟨b1, b2⟩, ⟨b3, b4⟩, b5, b6⟩ := hq
  unfold key
  simp only at h a1 a2 a3 a4 b1 b2 b3 b4 ⊢
  omega
theorem key_bd {p : Pt} (hp : kb p) : bd 9223372036854775807 (key p) := by
  obtain ⟨⟨a1, a2⟩, ⟨a3, a4⟩, a5, a6⟩ := hp
  unfold key
  exact ⟨by omega, by omega⟩
theorem sq_bd {n z : Int} {A : Nat} (h : n * n = z) (hz : z ≤ (A : Int)) {R : Nat} (hR : A < (R + 1) * (R + 1)) : bd R n := by
  rw [bd_nat]
  have e : ((n.natAbs * n.natAbs : Nat) : Int) = z := by rw [Int.natCast_mul, Int.natAbs_mul_self', h]
  have : n.natAbs < R + 1 := sq_lt (by omega)
  omega
theorem isPt_n {a b : Int} {M E : Nat} (hab : inB a b) (hM : M ≤ 1000) (hE : E ≤ 6) {p : Pt} (h : isPt a b M E p) : bd 141421 p.2.1 := by
  obtain ⟨h1, h2, h3, h4, h5⟩ := h
  have := (pv_bd hab (bd_mono h1 (by omega)) (e := p.2.2) ⟨by omega, by omega⟩).2
  exact sq_bd (A := 20000000000) h5 this (by decide)
theorem isPt_kb {a b : Int} {M E : Nat} (hab : inB a b) (hM : M ≤ 1000) (hE : E ≤ 6) {p : Pt} (h : isPt a b M E p) : kb p := by
  have hn := isPt_n hab hM hE h
  obtain ⟨h1, h2, h3, h4, h5⟩ := h
  exact ⟨bd_mono h1 (by omega), bd_mono hn (by decide), h2, by omega⟩
theorem ptsAt_KS {a b e m : Int} (hk : ∀ p ∈ ptsAt a b e m, kb p) : KS (ptsAt a b e m) := by
  unfold KS
  by_cases c : Int.gcd m e = 1 ∧ isq (pv a b m e) = true
  · by_cases c2 : rtN (pv a b m e).toNat = 0
    · rw [ptsAt_0 c c2]; exact List.pairwise_singleton _ _
    · rw [ptsAt_2 c c2] at hk ⊢
      refine List.pairwise_pair.mpr (key_lt (hk _ List.mem_cons_self) (hk _ (List.mem_cons_of_mem _ List.mem_cons_self)) (Or.inr ⟨rfl, Or.inr ⟨rfl, ?_⟩⟩))
      show -((rtN (pv a b m e).toNat : Nat) : Int) < ((rtN (pv a b m e).toNat : Nat) : Int)
      omega
  · rw [ptsAt_no c]; exact List.Pairwise.nil
theorem allB_pt {a b : Int} {M E : Nat} {x : List Pt} (hx : x ∈ allB a b M E) {p : Pt} (hp : p ∈ x) : isPt a b M E p := by
  obtain ⟨e, k, h1, h2, h3, rfl⟩ := allB_mem hx
  obtain ⟨a1, a2, a3, a4⟩ := ptsAt_mem hp
  unfold isPt
  rw [a1, a2]
  exact ⟨⟨by omega, by omega⟩, by omega, by omega, a3, a4⟩
theorem pw_mem {α : Type} {R : α → α → Prop} {l : List α} (h : l.Pairwise (fun x y => x ∈ l → y ∈ l → R x y)) : l.Pairwise R := by
  have := List.pairwise_iff_getElem.mp h
  exact List.pairwise_iff_getElem.mpr (fun i j hi hj hij => this i j hi hj hij (List.getElem_mem hi) (List.getElem_mem hj))
theorem flat_KS {a b : Int} {M E : Nat} (hab : inB a b) (hM : M ≤ 1000) (hE : E ≤ 6) : KS (allB a b M E).flatten := by
  unfold KS
  have hk : ∀ x ∈ allB a b M E, ∀ p ∈ x, kb p := fun x hx p hp => isPt_kb hab hM hE (allB_pt hx hp)
  rw [List.pairwise_flatten]
  refine ⟨fun x hx => ?_, pw_mem ?_⟩
  · obtain ⟨e, k, h1, h2, h3, rfl⟩ := allB_mem hx
    exact ptsAt_KS (hk _ hx)
  · have base : (allB a b M E).Pairwise (fun x y => ∀ p ∈ x, ∀ q ∈ y, p.2.2 < q.2.2 ∨ (p.2.2 = q.2.2 ∧ p.1 < q.1)) := by
      unfold allB
      rw [List.pairwise_flatMap]
      refine ⟨fun e he => ?_, ?_⟩
      · unfold rowB
        rw [List.pairwise_map]
        refine List.Pairwise.imp ?_ (List.pairwise_lt_range' (s := 0) (n := 2 * M + 1))
        intro i j hij p hp q hq
        obtain ⟨a1, a2, -, -⟩ := ptsAt_mem hp
        obtain ⟨b1, b2, -, -⟩ := ptsAt_mem hq
        rw [a1, a2, b1, b2]
        exact Or.inr ⟨rfl, by omega⟩
      · refine List.Pairwise.imp ?_ (List.pairwise_lt_range' (s := 1) (n := E))
        intro i j hij x hx y hy p hp q hq
        unfold rowB at hx hy
        obtain ⟨k, -, rfl⟩ := List.mem_map.mp hx
        obtain ⟨k', -, rfl⟩ := List.mem_map.mp hy
        obtain ⟨a1, a2, -, -⟩ := ptsAt_mem hp
        obtain ⟨b1, b2, -, -⟩ := ptsAt_mem hq
        rw [a2, b2]
        exact Or.inl (by omega)
    refine List.Pairwise.imp ?_ base
    intro x y h hx hy p hp q hq
    refine key_lt (hk x hx p hp) (hk y hy q hq) ?_
    rcases h p hp q hq with c | c
    · exact Or.inl c
    · exact Or.inr ⟨c.1, Or.inl c.2⟩
theorem pre_flat (bs : List (List Pt)) (j : Nat) : (bs.take j).flatten <+: bs.flatten := by
  refine ⟨(bs.drop j).flatten, ?_⟩
  rw [← List.flatten_append, List.take_append_drop]
theorem KS_pre {L L' : List Pt} (h : KS L) (hp : L' <+: L) : KS L' := List.Pairwise.sublist hp.sublist h
theorem hX_KS {a b : Int} {M E : Nat} (hab : inB a b) (hM : M ≤ 1000) (hE : E ≤ 6) : KS (hX a b M E) := by
  obtain ⟨j, hj⟩ := fold_pre (allB a b M E) []
  unfold hX
  rw [hj, List.nil_append]
  exact KS_pre (flat_KS hab hM hE) (pre_flat _ _)
theorem hL_KS {a b : Int} {M E : Nat} (hab : inB a b) (hM : M ≤ 1000) (hE : E ≤ 6) : KS (hL a b M E) := List.Pairwise.take (flat_KS hab hM hE)
/-- what is shown of what is held -/
theorem hL_get {a b : Int} {M E : Nat} {i : Nat} {p : Pt} (h : (hL a b M E)[i]? = some p) : (hX a b M E)[i]? = some p ∧ i < 120 := by
  rw [← hX_take] at h
  rw [List.getElem?_take] at h
  by_cases c : i < 120
  · rw [if_pos c] at h; exact ⟨h, c⟩
  · rw [if_neg c] at h; cases h
theorem hX_get {a b : Int} {M E : Nat} {i : Nat} {p : Pt} (h : (hX a b M E)[i]? = some p) (hi : i < 120) : (hL a b M E)[i]? = some p := by
  rw [← hX_take, List.getElem?_take, if_pos hi]; exact h
theorem hL_len (a b : Int) (M E : Nat) : (hL a b M E).length = min 120 (hX a b M E).length := by
  rw [← hX_take, List.length_take]
theorem hL_pt {a b : Int} {M E : Nat} {i : Nat} {p : Pt} (h : (hL a b M E)[i]? = some p) : isPt a b M E p := hX_pt (List.mem_of_getElem? (hL_get h).1)
/-- held and shown numbers -/
theorem fnd_shown {a b : Int} {M E : Nat} (hab : inB a b) (hM : M ≤ 1000) (hE : E ≤ 6) (t : Pt) : fnd (hL a b M E) t = if fnd (hX a b M E) t < 120 then fnd (hX a b M E) t else -6 := by
  rcases fnd_cases (hX_KS hab hM hE) t with ⟨i, h1, h2⟩ | ⟨h1, h2⟩
  · rw [h2]
    by_cases c : i < 120
    · rw [if_pos (by omega), fnd_in (hL_KS hab hM hE) (hX_get h1 c)]
    · rw [if_neg (by omega)]
      refine fnd_out (fun q => ?_)
      obtain ⟨j, hj⟩ := List.getElem?_of_mem q
      have := hL_get hj
      have := KS_inj (hX_KS hab hM hE) h1 this.1
      omega
  · rw [h2, if_pos (by omega)]
    refine fnd_out (fun q => ?_)
    obtain ⟨j, hj⟩ := List.getElem?_of_mem q
    exact h1 (List.mem_of_getElem? (hL_get hj).1)
theorem min_6 : (-6 : Int32) = iZ (-6) := by decide

theorem bin11 (N : Nat) {L : List Pt} {σ : aSt} (hx : XL 11 L σ) (hs : KS L) (hk : ∀ p ∈ L, kb p) {t : Pt} (ht : kb t) : ∀ (k n lo hi st : Nat), hi - lo < 2 ^ k → hi ≤ L.length → lo ≤ hi → st + k < 10 → k + 1 ≤ n → (∀ i, L[i]? = some t → lo ≤ i ∧ i < hi) → f_PointList_find_11_l52 N σ n (jZ (key t)) (iZ lo) (iZ ((hi : Int) - 1)) (iZ st) = some (iZ (fnd L t)) := by
  intro k
  have hl := hx.2.1
  have out : (∀ i, ¬ L[i]? = some t) → some (iZ (-6)) = some (iZ (fnd L t)) := fun h => by
    rw [fnd_out (fun q => by obtain ⟨i, hi⟩ := List.getElem?_of_mem q; exact h i hi)]
  induction k with
  | zero =>
    intro n lo hi st hw hh hlo hst hn hin
    obtain ⟨n, rfl, hn⟩ := fuel hn
    rw [f_PointList_find_11_l52, if_neg (by rw [iZ_lit, iZ_le (bd_lit _ rfl) ⟨by omega, by omega⟩]; omega), if_pos (by rw [iZ_lt ⟨by omega, by omega⟩ ⟨by omega, by omega⟩]; omega), min_6]
    exact out (fun i h => by have := hin i h; omega)
  | succ k ih =>
    intro n lo hi st hw hh hlo hst hn hin
    obtain ⟨n, rfl, hn⟩ := fuel hn
    have h2k : 2 ^ (k + 1) = 2 ^ k * 2 := Nat.pow_succ ..
    rw [f_PointList_find_11_l52, if_neg (by rw [iZ_lit, iZ_le (bd_lit _ rfl) ⟨by omega, by omega⟩]; omega)]
    by_cases c : lo = hi
    · rw [if_pos (by rw [iZ_lt ⟨by omega, by omega⟩ ⟨by omega, by omega⟩]; omega), min_6]
      exact out (fun i h => by have := hin i h; omega)
    · have em : (iZ (lo : Int) + iZ ((hi : Int) - 1)) / (2 : Int32) = iZ (((lo + hi - 1) / 2 : Nat) : Int) := by
        rw [iZ_lit, iZ_add, iZ_div ⟨by omega, by omega⟩ (bd_lit _ rfl), show (lo : Int) + ((hi : Int) - 1) = ((lo + hi - 1 : Nat) : Int) from by omega]
        exact congrArg iZ (nat_div (a := lo + hi - 1) (b := 2))
      rw [if_neg (by rw [iZ_lt ⟨by omega, by omega⟩ ⟨by omega, by omega⟩]; omega), em]
      obtain ⟨m, hm⟩ : ∃ m, m = (lo + hi - 1) / 2 := ⟨_, rfl⟩
      rw [← hm, if_neg (by rw [iZ_lit, iZ_lt ⟨by omega, by omega⟩ (bd_lit _ rfl)]; omega), if_pos (by rw [iZ_lit, iZ_lt ⟨by omega, by omega⟩ (bd_lit _ rfl)]; omega), iZ_idx (by omega) (by omega), show ((m : Nat) : Int).toNat = m from by omega]
      obtain ⟨p, hp⟩ := get_some (L := L) (i := m) (by omega)
      have hpk := hk p (List.mem_of_getElem? hp)
      rw [show σ.2.1 15 m = jZ (key p) from (hx.2.2 m p hp).2.2.2]
      by_cases ce : key p = key t
      · have e := key_inj hpk ht ce
        subst e
        rw [if_neg (fun h => h rfl), fnd_in hs hp]
      · rw [if_pos (by rw [ne_eq, jZ_eq (key_bd hpk) (key_bd ht)]; exact ce)]
        by_cases cl : key t ≤ key p
        · rw [if_pos (by rw [jZ_le (key_bd ht) (key_bd hpk)]; exact cl), i1, iZ_lit, iZ_sub]
          refine ih n lo m (st + 1) (by omega) (by omega) (by omega) (by omega) (by omega) (fun i h => ⟨(hin i h).1, ?_⟩)
          rcases Nat.lt_or_ge i m with q | q
          · exact q
          · rcases Nat.lt_or_ge m i with q2 | q2
            · have := KS_lt hs hp h q2; omega
            · have : i = m := by omega
              subst this
              rw [hp] at h
              exact absurd (by rw [Option.some.inj h]) ce
        · rw [if_neg (by rw [jZ_le (key_bd ht) (key_bd hpk)]; exact cl), i1, i1]
          refine ih n (m + 1) hi (st + 1) (by omega) (by omega) (by omega) (by omega) (by omega) (fun i h => ⟨?_, (hin i h).2⟩)
          rcases Nat.lt_or_ge m i with q | q
          · omega
          · rcases Nat.lt_or_ge i m with q2 | q2
            · have := KS_lt hs h hp q2; omega
            · have : i = m := by omega
              subst this
              rw [hp] at h
              exact absurd (by rw [Option.some.inj h]) ce
theorem find11 {N : Nat} (hN : 10000 ≤ N) {a b : Int} {M E : Nat} (hab : inB a b) (hM : M ≤ 1000) (hE : E ≤ 6) {σ : aSt} (hx : XL 11 (hX a b M E) σ) (h8 : σ.1 11 8 = iZ M) (h9 : σ.1 11 9 = iZ E) {m n e : Int} (hm : bd 9223372036854775807 m) (hn : bd 9223372036854775807 n) (he : bd 9223372036854775807 e) : f_PointList_find_11 N (jZ m) (jZ n) (jZ e) σ = some (iZ (fnd (hX a b M E) (m, n, e))) := by
  have hl := hx.2.1
  have hk : ∀ p ∈ hX a b M E, isPt a b M E p ∧ kb p := fun p hp => ⟨hX_pt hp, isPt_kb hab hM hE (hX_pt hp)⟩
  have hnn : ∀ p ∈ hX a b M E, bd 141421 p.2.1 := fun p hp => isPt_n hab hM hE (hX_pt hp)
  have out : (¬ (bd M m ∧ 1 ≤ e ∧ e ≤ E ∧ bd 1048576 n)) → some (-6 : Int32) = some (iZ (fnd (hX a b M E) (m, n, e))) := fun h => by
    rw [fnd_out (fun q => h ?_), min_6]
    obtain ⟨⟨q1, q2, q3, -, -⟩, -⟩ := hk _ q
    exact ⟨q1, q2, q3, bd_mono (hnn _ q) (by decide)⟩
  unfold f_PointList_find_11
  rw [h8, h9, iZ_neg, i2j ⟨by omega, by omega⟩, i2j ⟨by omega, by omega⟩, i2j ⟨by omega, by omega⟩]
  have lm : (-1048576 : Int64) = jZ (-1048576) := by decide +kernel
  rw [lm]
  by_cases c1 : m < -(M : Int)
  · rw [if_pos (by rw [jZ_lt hm ⟨by omega, by omega⟩]; exact c1)]
    exact out (fun h => by have := h.1.1; omega)
  · rw [if_neg (by rw [jZ_lt hm ⟨by omega, by omega⟩]; exact c1)]
    by_cases c2 : (M : Int) < m
    · rw [if_pos (by rw [jZ_lt ⟨by omega, by omega⟩ hm]; exact c2)]
      exact out (fun h => by have := h.1.2; omega)
    · rw [if_neg (by rw [jZ_lt ⟨by omega, by omega⟩ hm]; exact c2)]
      by_cases c3 : e < 1
      · rw [if_pos (by rw [jZ_lit, jZ_lt he (bd_lit _ rfl)]; exact c3)]
        exact out (fun h => by omega)
      · rw [if_neg (by rw [jZ_lit, jZ_lt he (bd_lit _ rfl)]; exact c3)]
        by_cases c4 : (E : Int) < e
        · rw [if_pos (by rw [jZ_lt ⟨by omega, by omega⟩ he]; exact c4)]
          exact out (fun h => by omega)
        · rw [if_neg (by rw [jZ_lt ⟨by omega, by omega⟩ he]; exact c4)]
          by_cases c5 : n < -1048576
          · rw [if_pos (by rw [jZ_lt hn (bd_lit _ rfl)]; exact c5)]
            exact out (fun h => by have := h.2.2.2.1; omega)
          · rw [if_neg (by rw [jZ_lt hn (bd_lit _ rfl)]; exact c5)]
            by_cases c6 : n ≤ 1048576
            · rw [if_pos (by rw [jZ_lit, jZ_le hn (bd_lit _ rfl)]; exact c6), jZ_lit, jZ_mul, jZ_add, jZ_mul, jZ_add, hx.1, iZ_lit 1, iZ_sub]
              exact bin11 N hx (hX_KS hab hM hE) (fun p hp => (hk p hp).2) (t := (m, n, e)) ⟨⟨by show (-1048576 : Int) ≤ m; omega, by show m ≤ 1048576; omega⟩, ⟨by show (-1048576 : Int) ≤ n; omega, by show n ≤ 1048576; omega⟩, by show 1 ≤ e; omega, by show e ≤ 1000; omega⟩ 7 N 0 (hX a b M E).length 0 (by omega) (Nat.le_refl _) (Nat.zero_le _) (by omega) (by omega) (fun i h => ⟨Nat.zero_le _, get_lt h⟩)
            · rw [if_neg (by rw [jZ_lit, jZ_le hn (bd_lit _ rfl)]; exact c6)]
              exact out (fun h => c6 h.2.2.2.2)

theorem bin16 (N : Nat) {L : List Pt} {σ : aSt} (hx : XL 16 L σ) (hs : KS L) (hk : ∀ p ∈ L, kb p) {t : Pt} (ht : kb t) : ∀ (k n lo hi st : Nat), hi - lo < 2 ^ k → hi ≤ L.length → lo ≤ hi → st + k < 10 → k + 1 ≤ n → (∀ i, L[i]? = some t → lo ≤ i ∧ i < hi) → f_PointList_find_16_l52 N σ n (jZ (key t)) (iZ lo) (iZ ((hi : Int) - 1)) (iZ st) = some (iZ (fnd L t)) := by
  intro k
  have hl := hx.2.1
  have out : (∀ i, ¬ L[i]? = some t) → some (iZ (-6)) = some (iZ (fnd L t)) := fun h => by
    rw [fnd_out (fun q => by obtain ⟨i, hi⟩ := List.getElem?_of_mem q; exact h i hi)]
  induction k with
  | zero =>
    intro n lo hi st hw hh hlo hst hn hin
    obtain ⟨n, rfl, hn⟩ := fuel hn
    rw [f_PointList_find_16_l52, if_neg (by rw [iZ_lit, iZ_le (bd_lit _ rfl) ⟨by omega, by omega⟩]; omega), if_pos (by rw [iZ_lt ⟨by omega, by omega⟩ ⟨by omega, by omega⟩]; omega), min_6]
    exact out (fun i h => by have := hin i h; omega)
  | succ k ih =>
    intro n lo hi st hw hh hlo hst hn hin
    obtain ⟨n, rfl, hn⟩ := fuel hn
    have h2k : 2 ^ (k + 1) = 2 ^ k * 2 := Nat.pow_succ ..
    rw [f_PointList_find_16_l52, if_neg (by rw [iZ_lit, iZ_le (bd_lit _ rfl) ⟨by omega, by omega⟩]; omega)]
    by_cases c : lo = hi
    · rw [if_pos (by rw [iZ_lt ⟨by omega, by omega⟩ ⟨by omega, by omega⟩]; omega), min_6]
      exact out (fun i h => by have := hin i h; omega)
    · have em : (iZ (lo : Int) + iZ ((hi : Int) - 1)) / (2 : Int32) = iZ (((lo + hi - 1) / 2 : Nat) : Int) := by
        rw [iZ_lit, iZ_add, iZ_div ⟨by omega, by omega⟩ (bd_lit _ rfl), show (lo : Int) + ((hi : Int) - 1) = ((lo + hi - 1 : Nat) : Int) from by omega]
        exact congrArg iZ (nat_div (a := lo + hi - 1) (b := 2))
      rw [if_neg (by rw [iZ_lt ⟨by omega, by omega⟩ ⟨by omega, by omega⟩]; omega), em]
      obtain ⟨m, hm⟩ : ∃ m, m = (lo + hi - 1) / 2 := ⟨_, rfl⟩
      rw [← hm, if_neg (by rw [iZ_lit, iZ_lt ⟨by omega, by omega⟩ (bd_lit _ rfl)]; omega), if_pos (by rw [iZ_lit, iZ_lt ⟨by omega, by omega⟩ (bd_lit _ rfl)]; omega), iZ_idx (by omega) (by omega), show ((m : Nat) : Int).toNat = m from by omega]
      obtain ⟨p, hp⟩ := get_some (L := L) (i := m) (by omega)
      have hpk := hk p (List.mem_of_getElem? hp)
      rw [show σ.2.1 20 m = jZ (key p) from (hx.2.2 m p hp).2.2.2]
      by_cases ce : key p = key t
      · have e := key_inj hpk ht ce
        subst e
        rw [if_neg (fun h => h rfl), fnd_in hs hp]
      · rw [if_pos (by rw [ne_eq, jZ_eq (key_bd hpk) (key_bd ht)]; exact ce)]
        by_cases cl : key t ≤ key p
        · rw [if_pos (by rw [jZ_le (key_bd ht) (key_bd hpk)]; exact cl), i1, iZ_lit, iZ_sub]
          refine ih n lo m (st + 1) (by omega) (by omega) (by omega) (by omega) (by omega) (fun i h => ⟨(hin i h).1, ?_⟩)
          rcases Nat.lt_or_ge i m with q | q
          · exact q
          · rcases Nat.lt_or_ge m i with q2 | q2
            · have := KS_lt hs hp h q2; omega
            · have : i = m := by omega
              subst this
              rw [hp] at h
              exact absurd (by rw [Option.some.inj h]) ce
        · rw [if_neg (by rw [jZ_le (key_bd ht) (key_bd hpk)]; exact cl), i1, i1]
          refine ih n (m + 1) hi (st + 1) (by omega) (by omega) (by omega) (by omega) (by omega) (fun i h => ⟨?_, (hin i h).2⟩)
          rcases Nat.lt_or_ge m i with q | q
          · omega
          · rcases Nat.lt_or_ge i m with q2 | q2
            · have := KS_lt hs h hp q2; omega
            · have : i = m := by omega
              subst this
              rw [hp] at h
              exact absurd (by rw [Option.some.inj h]) ce
theorem find16 {N : Nat} (hN : 10000 ≤ N) {a b : Int} {M E : Nat} (hab : inB a b) (hM : M ≤ 1000) (hE : E ≤ 6) {σ : aSt} (hx : XL 16 (hX a b M E) σ) (h8 : σ.1 16 8 = iZ M) (h9 : σ.1 16 9 = iZ E) {m n e : Int} (hm : bd 9223372036854775807 m) (hn : bd 9223372036854775807 n) (he : bd 9223372036854775807 e) : f_PointList_find_16 N (jZ m) (jZ n) (jZ e) σ = some (iZ (fnd (hX a b M E) (m, n, e))) := by
  have hl := hx.2.1
  have hk : ∀ p ∈ hX a b M E, isPt a b M E p ∧ kb p := fun p hp => ⟨hX_pt hp, isPt_kb hab hM hE (hX_pt hp)⟩
  have hnn : ∀ p ∈ hX a b M E, bd 141421 p.2.1 := fun p hp => isPt_n hab hM hE (hX_pt hp)
  have out : (¬ (bd M m ∧ 1 ≤ e ∧ e ≤ E ∧ bd 1048576 n)) → some (-6 : Int32) = some (iZ (fnd (hX a b M E) (m, n, e))) := fun h => by
    rw [fnd_out (fun q => h ?_), min_6]
    obtain ⟨⟨q1, q2, q3, -, -⟩, -⟩ := hk _ q
    exact ⟨q1, q2, q3, bd_mono (hnn _ q) (by decide)⟩
  unfold f_PointList_find_16
  rw [h8, h9, iZ_neg, i2j ⟨by omega, by omega⟩, i2j ⟨by omega, by omega⟩, i2j ⟨by omega, by omega⟩]
  have lm : (-1048576 : Int64) = jZ (-1048576) := by decide +kernel
  rw [lm]
  by_cases c1 : m < -(M : Int)
  · rw [if_pos (by rw [jZ_lt hm ⟨by omega, by omega⟩]; exact c1)]
    exact out (fun h => by have := h.1.1; omega)
  · rw [if_neg (by rw [jZ_lt hm ⟨by omega, by omega⟩]; exact c1)]
    by_cases c2 : (M : Int) < m
    · rw [if_pos (by rw [jZ_lt ⟨by omega, by omega⟩ hm]; exact c2)]
      exact out (fun h => by have := h.1.2; omega)
    · rw [if_neg (by rw [jZ_lt ⟨by omega, by omega⟩ hm]; exact c2)]
      by_cases c3 : e < 1
      · rw [if_pos (by rw [jZ_lit, jZ_lt he (bd_lit _ rfl)]; exact c3)]
        exact out (fun h => by omega)
      · rw [if_neg (by rw [jZ_lit, jZ_lt he (bd_lit _ rfl)]; exact c3)]
        by_cases c4 : (E : Int) < e
        · rw [if_pos (by rw [jZ_lt ⟨by omega, by omega⟩ he]; exact c4)]
          exact out (fun h => by omega)
        · rw [if_neg (by rw [jZ_lt ⟨by omega, by omega⟩ he]; exact c4)]
          by_cases c5 : n < -1048576
          · rw [if_pos (by rw [jZ_lt hn (bd_lit _ rfl)]; exact c5)]
            exact out (fun h => by have := h.2.2.2.1; omega)
          · rw [if_neg (by rw [jZ_lt hn (bd_lit _ rfl)]; exact c5)]
            by_cases c6 : n ≤ 1048576
            · rw [if_pos (by rw [jZ_lit, jZ_le hn (bd_lit _ rfl)]; exact c6), jZ_lit, jZ_mul, jZ_add, jZ_mul, jZ_add, hx.1, iZ_lit 1, iZ_sub]
              exact bin16 N hx (hX_KS hab hM hE) (fun p hp => (hk p hp).2) (t := (m, n, e)) ⟨⟨by show (-1048576 : Int) ≤ m; omega, by show m ≤ 1048576; omega⟩, ⟨by show (-1048576 : Int) ≤ n; omega, by show n ≤ 1048576; omega⟩, by show 1 ≤ e; omega, by show e ≤ 1000; omega⟩ 7 N 0 (hX a b M E).length 0 (by omega) (Nat.le_refl _) (Nat.zero_le _) (by omega) (by omega) (fun i h => ⟨Nat.zero_le _, get_lt h⟩)
            · rw [if_neg (by rw [jZ_lit, jZ_le hn (bd_lit _ rfl)]; exact c6)]
              exact out (fun h => c6 h.2.2.2.2)

theorem mfind_l (N : Nat) {L : List Pt} {σ : aSt} (hx : ML 9 67 L σ) (hk : ∀ p ∈ L, kb p) {m n e : Int} (hm : bd 9223372036854775807 m) (hn : bd 9223372036854775807 n) (he : bd 9223372036854775807 e) : ∀ (j k i : Nat), i + j = L.length → j + 1 ≤ k → f_M_find_l2 N σ k (jZ m) (jZ e) (jZ n) (iZ i) = some (iZ (fndA (m, n, e) (L.drop i) i)) := by
  intro j
  have hl := hx.2.1
  induction j with
  | zero =>
    intro k i hi hn'
    obtain ⟨k, rfl, hn'⟩ := fuel hn'
    rw [f_M_find_l2, hx.1, if_pos (by rw [iZ_le ⟨by omega, by omega⟩ ⟨by omega, by omega⟩]; omega), List.drop_of_length_le (by omega), min_6]
    rfl
  | succ j ih =>
    intro k i hi hn'
    obtain ⟨k, rfl, hn'⟩ := fuel hn'
    obtain ⟨p, hp⟩ := get_some (L := L) (i := i) (by omega)
    have hd : L.drop i = p :: L.drop (i + 1) := by
      rw [List.drop_eq_getElem_cons (by omega)]
      congr 1
      rw [List.getElem?_eq_getElem (by omega)] at hp
      exact Option.some.inj hp
    obtain ⟨x1, x2, x3⟩ := hx.2.2 i p hp
    obtain ⟨⟨k1, k2⟩, ⟨k3, k4⟩, k5, k6⟩ := hk p (List.mem_of_getElem? hp)
    obtain ⟨pm, pn, pe⟩ := p
    simp only at x1 x2 x3 k1 k2 k3 k4 k5 k6
    rw [f_M_find_l2, hx.1, if_neg (by rw [iZ_le ⟨by omega, by omega⟩ ⟨by omega, by omega⟩]; omega), if_pos (by rw [iZ_lit, iZ_lit, iZ_le (bd_lit _ rfl) ⟨by omega, by omega⟩, iZ_lt ⟨by omega, by omega⟩ (bd_lit _ rfl)]; omega), iZ_idx (by omega) (by omega), show ((i : Nat) : Int).toNat = i from by omega, x1, x2, x3, i2j ⟨by omega, by omega⟩, i2j ⟨by omega, by omega⟩, i1, ih k (i + 1) (by omega) (by omega), hd, fndA]
    by_cases c1 : pm = m
    · rw [if_neg (by rw [c1]; exact fun h => h rfl)]
      by_cases c2 : pe = e
      · rw [if_neg (by rw [c2]; exact fun h => h rfl)]
        by_cases c3 : pn = n
        · rw [if_neg (by rw [c3]; exact fun h => h rfl), if_pos (by rw [c1, c2, c3])]
        · rw [if_pos (by rw [ne_eq, jZ_eq ⟨by omega, by omega⟩ hn]; exact c3), if_neg (fun h => c3 (by cases h; rfl))]
      · rw [if_pos (by rw [ne_eq, jZ_eq ⟨by omega, by omega⟩ he]; exact c2), if_neg (fun h => c2 (by cases h; rfl))]
    · rw [if_pos (by rw [ne_eq, jZ_eq ⟨by omega, by omega⟩ hm]; exact c1), if_neg (fun h => c1 (by cases h; rfl))]
theorem mfind_ok {N : Nat} (hN : 10000 ≤ N) {L : List Pt} {σ : aSt} (hx : ML 9 67 L σ) (hk : ∀ p ∈ L, kb p) {m n e : Int} (hm : bd 9223372036854775807 m) (hn : bd 9223372036854775807 n) (he : bd 9223372036854775807 e) : f_M_find N (jZ m) (jZ e) (jZ n) σ = some (iZ (fnd L (m, n, e))) := by
  unfold f_M_find
  have hl := hx.2.1
  exact mfind_l N hx hk hm hn he L.length N 0 (by omega) (by omega)

theorem mfindO_l (N : Nat) {L : List Pt} {σ : aSt} (hx : ML 51 80 L σ) (hk : ∀ p ∈ L, kb p) {m n e : Int} (hm : bd 9223372036854775807 m) (hn : bd 9223372036854775807 n) (he : bd 9223372036854775807 e) : ∀ (j k i : Nat), i + j = L.length → j + 1 ≤ k → f_M_findOver_l2 N σ k (jZ m) (jZ e) (jZ n) (iZ i) = some (iZ (fndA (m, n, e) (L.drop i) i)) := by
  intro j
  have hl := hx.2.1
  induction j with
  | zero =>
    intro k i hi hn'
    obtain ⟨k, rfl, hn'⟩ := fuel hn'
    rw [f_M_findOver_l2, hx.1, if_pos (by rw [iZ_le ⟨by omega, by omega⟩ ⟨by omega, by omega⟩]; omega), List.drop_of_length_le (by omega), min_6]
    rfl
  | succ j ih =>
    intro k i hi hn'
    obtain ⟨k, rfl, hn'⟩ := fuel hn'
    obtain ⟨p, hp⟩ := get_some (L := L) (i := i) (by omega)
    have hd : L.drop i = p :: L.drop (i + 1) := by
      rw [List.drop_eq_getElem_cons (by omega)]
      congr 1
      rw [List.getElem?_eq_getElem (by omega)] at hp
      exact Option.some.inj hp
    obtain ⟨x1, x2, x3⟩ := hx.2.2 i p hp
    obtain ⟨⟨k1, k2⟩, ⟨k3, k4⟩, k5, k6⟩ := hk p (List.mem_of_getElem? hp)
    obtain ⟨pm, pn, pe⟩ := p
    simp only at x1 x2 x3 k1 k2 k3 k4 k5 k6
    rw [f_M_findOver_l2, hx.1, if_neg (by rw [iZ_le ⟨by omega, by omega⟩ ⟨by omega, by omega⟩]; omega), if_pos (by rw [iZ_lit, iZ_lit, iZ_le (bd_lit _ rfl) ⟨by omega, by omega⟩, iZ_lt ⟨by omega, by omega⟩ (bd_lit _ rfl)]; omega), iZ_idx (by omega) (by omega), show ((i : Nat) : Int).toNat = i from by omega, x1, x2, x3, i2j ⟨by omega, by omega⟩, i2j ⟨by omega, by omega⟩, i1, ih k (i + 1) (by omega) (by omega), hd, fndA]
    by_cases c1 : pm = m
    · rw [if_neg (by rw [c1]; exact fun h => h rfl)]
      by_cases c2 : pe = e
      · rw [if_neg (by rw [c2]; exact fun h => h rfl)]
        by_cases c3 : pn = n
        · rw [if_neg (by rw [c3]; exact fun h => h rfl), if_pos (by rw [c1, c2, c3])]
        · rw [if_pos (by rw [ne_eq, jZ_eq ⟨by omega, by omega⟩ hn]; exact c3), if_neg (fun h => c3 (by cases h; rfl))]
      · rw [if_pos (by rw [ne_eq, jZ_eq ⟨by omega, by omega⟩ he]; exact c2), if_neg (fun h => c2 (by cases h; rfl))]
    · rw [if_pos (by rw [ne_eq, jZ_eq ⟨by omega, by omega⟩ hm]; exact c1), if_neg (fun h => c1 (by cases h; rfl))]
theorem mfindO_ok {N : Nat} (hN : 10000 ≤ N) {L : List Pt} {σ : aSt} (hx : ML 51 80 L σ) (hk : ∀ p ∈ L, kb p) {m n e : Int} (hm : bd 9223372036854775807 m) (hn : bd 9223372036854775807 n) (he : bd 9223372036854775807 e) : f_M_findOver N (jZ m) (jZ e) (jZ n) σ = some (iZ (fnd L (m, n, e))) := by
  unfold f_M_findOver
  have hl := hx.2.1
  exact mfindO_l N hx hk hm hn he L.length N 0 (by omega) (by omega)
