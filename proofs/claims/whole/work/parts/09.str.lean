theorem w_len_c9 : Jvm.Cond.code aYlen prog_19_method_54_code 1 (some .int) ∈ lw_good := wd_good (w := 538) (by decide +kernel)
theorem w_ch_c9 : Jvm.Cond.code aYch prog_19_method_56_code 2 (some .char) ∈ lw_good := wd_good (w := 548) (by decide +kernel)
def aYcod : MethodName := ⟨"java/lang/String", "coder", "()B"⟩
theorem w_cod_c9 : Jvm.Cond.code aYcod prog_19_method_152_code 1 (some .byte) ∈ lw_good := wd_good (w := 542) (by decide +kernel)
def aYlat : MethodName := ⟨"java/lang/String", "isLatin1", "()Z"⟩
theorem w_lat_c9 : Jvm.Cond.code aYlat prog_19_method_154_code 1 (some .boolean) ∈ lw_good := wd_good (w := 552) (by decide +kernel)
def aYl1 : MethodName := ⟨"java/lang/StringLatin1", "charAt", "([BI)C"⟩
theorem w_l1_c9 : Jvm.Cond.code aYl1 prog_20_method_2_code 2 (some .char) ∈ lw_good := wd_good (w := 555) (by decide +kernel)
def aYck : MethodName := ⟨"java/lang/String", "checkIndex", "(II)V"⟩
theorem w_ck_c9 : Jvm.Cond.code aYck prog_19_method_155_code 2 (none) ∈ lw_good := wd_good (w := 558) (by decide +kernel)
def aYpk : MethodName := ⟨"jdk/internal/util/Preconditions", "checkIndex", "(IILjava/util/function/BiFunction;)I"⟩
theorem w_pk_c9 : Jvm.Cond.code aYpk prog_24_method_11_code 3 (some .int) ∈ lw_good := wd_good (w := 563) (by decide +kernel)
theorem w_cmp : Jvm.Cond.fieldLink "java/lang/String" 38 "java/lang/String" "COMPACT_STRINGS" "Z" ∈ lw_good := wd_good (w := 543) (by decide +kernel)
theorem w_sio : Jvm.Cond.fieldLink "java/lang/String" 1053 "jdk/internal/util/Preconditions" "SIOOBE_FORMATTER" "Ljava/util/function/BiFunction;" ∈ lw_good := wd_good (w := 559) (by decide +kernel)
theorem w_val : Jvm.Cond.fieldLink "java/lang/String" 9 "java/lang/String" "value" "[B" ∈ lw_good := wd_good (w := 2265) (by decide +kernel)
theorem w_cdr : Jvm.Cond.fieldLink "java/lang/String" 15 "java/lang/String" "coder" "B" ∈ lw_good := wd_good (w := 2266) (by decide +kernel)
theorem w_l_cod : Jvm.Cond.methodLink "java/lang/String" 335 aYcod ∈ lw_good := wd_good (w := 539) (by decide +kernel)
theorem w_l_lat : Jvm.Cond.methodLink "java/lang/String" 492 aYlat ∈ lw_good := wd_good (w := 549) (by decide +kernel)
theorem w_l_l1 : Jvm.Cond.methodLink "java/lang/String" 495 aYl1 ∈ lw_good := wd_good (w := 553) (by decide +kernel)
theorem w_l_ck : Jvm.Cond.methodLink "java/lang/StringLatin1" 9 aYck ∈ lw_good := wd_good (w := 556) (by decide +kernel)
theorem w_l_pk : Jvm.Cond.methodLink "java/lang/String" 1059 aYpk ∈ lw_good := wd_good (w := 561) (by decide +kernel)
theorem w_cod_i : Jvm.Cond.instanceMethod aYcod ∈ lw_good := wd_good (w := 540) (by decide +kernel)
theorem w_cod_s : Jvm.Cond.selects "java/lang/String" aYcod aYcod ∈ lw_good := wd_good (w := 541) (by decide +kernel)
theorem w_lat_i : Jvm.Cond.instanceMethod aYlat ∈ lw_good := wd_good (w := 550) (by decide +kernel)
theorem w_lat_s : Jvm.Cond.selects "java/lang/String" aYlat aYlat ∈ lw_good := wd_good (w := 551) (by decide +kernel)
theorem w_l1_t : Jvm.Cond.static aYl1 ∈ lw_good := wd_good (w := 554) (by decide +kernel)
theorem w_ck_t : Jvm.Cond.static aYck ∈ lw_good := wd_good (w := 557) (by decide +kernel)
theorem w_pk_t : Jvm.Cond.static aYpk ∈ lw_good := wd_good (w := 562) (by decide +kernel)
theorem w_L1 : Jvm.Cond.initialized "java/lang/StringLatin1" ∈ lw_good := wd_good (w := 120) (by decide +kernel)
theorem w_PR : Jvm.Cond.initialized "jdk/internal/util/Preconditions" ∈ lw_good := wd_good (w := 121) (by decide +kernel)
theorem dS_cod_0 : decode prog_19_method_152_code 0 = .ok (.getstatic 38, 3) := by decide +kernel
theorem dS_cod_3 : decode prog_19_method_152_code 3 = .ok (.ifCond .eq 10, 3) := by decide +kernel
theorem dS_cod_6 : decode prog_19_method_152_code 6 = .ok (.aload_n 0, 1) := by decide +kernel
theorem dS_cod_7 : decode prog_19_method_152_code 7 = .ok (.getfield 15, 3) := by decide +kernel
theorem dS_cod_10 : decode prog_19_method_152_code 10 = .ok (.goto 4, 3) := by decide +kernel
theorem dS_cod_14 : decode prog_19_method_152_code 14 = .ok (.ireturn, 1) := by decide +kernel
theorem dS_len_0 : decode prog_19_method_54_code 0 = .ok (.aload_n 0, 1) := by decide +kernel
theorem dS_len_1 : decode prog_19_method_54_code 1 = .ok (.getfield 9, 3) := by decide +kernel
theorem dS_len_4 : decode prog_19_method_54_code 4 = .ok (.arraylength, 1) := by decide +kernel
theorem dS_len_5 : decode prog_19_method_54_code 5 = .ok (.aload_n 0, 1) := by decide +kernel
theorem dS_len_6 : decode prog_19_method_54_code 6 = .ok (.invokevirtual 335, 3) := by decide +kernel
theorem dS_len_9 : decode prog_19_method_54_code 9 = .ok (.ishr, 1) := by decide +kernel
theorem dS_len_10 : decode prog_19_method_54_code 10 = .ok (.ireturn, 1) := by decide +kernel
theorem dS_lat_0 : decode prog_19_method_154_code 0 = .ok (.getstatic 38, 3) := by decide +kernel
theorem dS_lat_3 : decode prog_19_method_154_code 3 = .ok (.ifCond .eq 14, 3) := by decide +kernel
theorem dS_lat_6 : decode prog_19_method_154_code 6 = .ok (.aload_n 0, 1) := by decide +kernel
theorem dS_lat_7 : decode prog_19_method_154_code 7 = .ok (.getfield 15, 3) := by decide +kernel
theorem dS_lat_10 : decode prog_19_method_154_code 10 = .ok (.ifCond .ne 7, 3) := by decide +kernel
theorem dS_lat_13 : decode prog_19_method_154_code 13 = .ok (.iconst 1, 1) := by decide +kernel
theorem dS_lat_14 : decode prog_19_method_154_code 14 = .ok (.goto 4, 3) := by decide +kernel
theorem dS_lat_18 : decode prog_19_method_154_code 18 = .ok (.ireturn, 1) := by decide +kernel
theorem dS_ch_0 : decode prog_19_method_56_code 0 = .ok (.aload_n 0, 1) := by decide +kernel
theorem dS_ch_1 : decode prog_19_method_56_code 1 = .ok (.invokevirtual 492, 3) := by decide +kernel
theorem dS_ch_4 : decode prog_19_method_56_code 4 = .ok (.ifCond .eq 12, 3) := by decide +kernel
theorem dS_ch_7 : decode prog_19_method_56_code 7 = .ok (.aload_n 0, 1) := by decide +kernel
theorem dS_ch_8 : decode prog_19_method_56_code 8 = .ok (.getfield 9, 3) := by decide +kernel
theorem dS_ch_11 : decode prog_19_method_56_code 11 = .ok (.iload_n 1, 1) := by decide +kernel
theorem dS_ch_12 : decode prog_19_method_56_code 12 = .ok (.invokestatic 495, 3) := by decide +kernel
theorem dS_ch_15 : decode prog_19_method_56_code 15 = .ok (.ireturn, 1) := by decide +kernel
theorem dS_l1_0 : decode prog_20_method_2_code 0 = .ok (.iload_n 1, 1) := by decide +kernel
theorem dS_l1_1 : decode prog_20_method_2_code 1 = .ok (.aload_n 0, 1) := by decide +kernel
theorem dS_l1_2 : decode prog_20_method_2_code 2 = .ok (.arraylength, 1) := by decide +kernel
theorem dS_l1_3 : decode prog_20_method_2_code 3 = .ok (.invokestatic 9, 3) := by decide +kernel
theorem dS_l1_6 : decode prog_20_method_2_code 6 = .ok (.aload_n 0, 1) := by decide +kernel
theorem dS_l1_7 : decode prog_20_method_2_code 7 = .ok (.iload_n 1, 1) := by decide +kernel
theorem dS_l1_8 : decode prog_20_method_2_code 8 = .ok (.baload, 1) := by decide +kernel
theorem dS_l1_9 : decode prog_20_method_2_code 9 = .ok (.sipush 255, 3) := by decide +kernel
theorem dS_l1_12 : decode prog_20_method_2_code 12 = .ok (.iand, 1) := by decide +kernel
theorem dS_l1_13 : decode prog_20_method_2_code 13 = .ok (.i2c, 1) := by decide +kernel
theorem dS_l1_14 : decode prog_20_method_2_code 14 = .ok (.ireturn, 1) := by decide +kernel
theorem dS_ck_0 : decode prog_19_method_155_code 0 = .ok (.iload_n 0, 1) := by decide +kernel
theorem dS_ck_1 : decode prog_19_method_155_code 1 = .ok (.iload_n 1, 1) := by decide +kernel
theorem dS_ck_2 : decode prog_19_method_155_code 2 = .ok (.getstatic 1053, 3) := by decide +kernel
theorem dS_ck_5 : decode prog_19_method_155_code 5 = .ok (.invokestatic 1059, 3) := by decide +kernel
theorem dS_ck_8 : decode prog_19_method_155_code 8 = .ok (.pop, 1) := by decide +kernel
theorem dS_ck_9 : decode prog_19_method_155_code 9 = .ok (.return_, 1) := by decide +kernel
theorem dS_pk_0 : decode prog_24_method_11_code 0 = .ok (.iload_n 0, 1) := by decide +kernel
theorem dS_pk_1 : decode prog_24_method_11_code 1 = .ok (.ifCond .lt 8, 3) := by decide +kernel
theorem dS_pk_4 : decode prog_24_method_11_code 4 = .ok (.iload_n 0, 1) := by decide +kernel
theorem dS_pk_5 : decode prog_24_method_11_code 5 = .ok (.iload_n 1, 1) := by decide +kernel
theorem dS_pk_6 : decode prog_24_method_11_code 6 = .ok (.if_icmp .lt 10, 3) := by decide +kernel
theorem dS_pk_16 : decode prog_24_method_11_code 16 = .ok (.iload_n 0, 1) := by decide +kernel
theorem dS_pk_17 : decode prog_24_method_11_code 17 = .ok (.ireturn, 1) := by decide +kernel
theorem np_of {d : String} {n : Nat} (h9 : (parseMethodDescriptor d).map (fun d => d.parameters.length) = some n) : ∀ sig, parseMethodDescriptor d = some sig → n = sig.parameters.length := by
  intro sig h
  rw [h] at h9
  exact (Option.some.inj h9).symm
def aSV : Array Value → State → Outcome → State → Prop := fun _ st oc t => oc = .returned none ∧ t.heap = st.heap
abbrev aSW (y : MethodName) (cc : ByteArray) (n : Nat) (ret : Option FieldType) : List Jvm.Cond := .code y cc n ret :: lw_good
def rmS (n : Nat) : Room := { frames := n, cells := 0, slots := 0, locals := 50 * n }
theorem aSW_good {y : MethodName} {cc : ByteArray} {n : Nat} {ret : Option FieldType} (h : Jvm.Cond.code y cc n ret ∈ lw_good) : ∀ w ∈ aSW y cc n ret, w ∈ lw_good := by
  intro w hw
  rcases List.mem_cons.mp hw with rfl | hw
  · exact h
  · exact hw
/-- the texts' own bytes -/
theorem slx_small {i : Nat} {bs : List Int32} (h : slx i = some bs) : bs.length < 100 ∧ ∀ j : Nat, j < bs.length → (bs.getD j 0 &&& 255).toUInt32 % 65536 = (bs.getD j 0).toUInt32 ∧ bs.getD j 0 &&& 255 = bs.getD j 0 := by
  unfold slx at h
  cases hb : Nat.blt i 200 with
  | true => rw [hb] at h; cases h
  | false =>
    rw [hb, cond_false] at h
    have hm := List.mem_of_getElem? h
    have key : ∀ bs ∈ SLX, bs.length < 100 ∧ ∀ j : Nat, j < bs.length → (bs.getD j 0 &&& 255).toUInt32 % 65536 = (bs.getD j 0).toUInt32 ∧ bs.getD j 0 &&& 255 = bs.getD j 0 := by decide +kernel
    exact key bs hm
set_option maxHeartbeats 1000000 in
theorem sm_cod (l : Launch) (ad adV : Nat → Nat) (fm : Value) (σ0 : aSt) (A : Nat → Prop) {i : Nat} {bs : List Int32} (hbs : slx i = some bs) : Met l aYcod (aSW aYcod prog_19_method_152_code 1 (some .byte)) (rmS 1) (va_Pc [.ref (ad i)] (fun U => aOut ad adV fm σ0 A U U.heap)) (aSQ 0) 0 0 (fun _ => False) := by
  refine Met.ofW (cc := prog_19_method_152_code) (maxL := 1) (ret := some .byte) (by decide) rfl ?_
  intro p e s m args below meth c s₁ B hml hv
  obtain ⟨rfl, hO⟩ := hv
  have hx := B.exec
  have hb := B.bytes
  have hr := B.returns
  have hts0 := atoms_spec (ws := aSW aYcod prog_19_method_152_code 1 (some .byte)) B.pre
  have hts : ∀ w ∈ lw_good, w.before _ s = true := fun w hw => hts0 w (List.mem_cons_of_mem _ hw)
  have hown : s.vm.findClass "java/lang/String" = some m.cls := findClass_of_methodNamed B.named
  have hlocks := B.notSynchronized
  have hSF : va_S (fun _ => False) s.heap s.heap [] := va_S.rf
  have hS : va_S A s.heap s.heap [] := va_S.rf
  have hl := lv_entry ([.ref (ad i)]) (n := 1) (Nat.le_of_ble_eq_true rfl)
  rw [lg_entry_eq]
  generalize (lg_sl ([.ref (ad i)]) ++ List.replicate (1 - (lg_sl ([.ref (ad i)])).length) Slot.unset).toArray = ls at hl ⊢
  refine va_gets hx hb hO.2.2.2.2.1 hS hown (hts _ w_cmp) (fun _ h => h) dS_cod_0 ?_
  refine lv_if_eq (tgt := 13) hx hb dS_cod_3 (by decide) (fun hc => absurd hc (by decide)) (fun _ => ?_)
  refine lv_aload_n hx hb dS_cod_6 rfl (lv_at hl 0 rfl) ?_
  refine vk_getf hx hb (hO.2.2.2.1 i bs hbs).2.1 hS hown (hts _ w_cdr) (fun _ h => h) dS_cod_7 ?_
  refine lv_goto (tgt := 14) hx hb dS_cod_10 (by decide) ?_
  exact W.zret (ty := .byte) hx hb hr rfl (fun t ht hW => ⟨rfl, ht⟩) (fun q h => by cases h) dS_cod_14
set_option maxHeartbeats 1000000 in
theorem sm_len (l : Launch) (ad adV : Nat → Nat) (fm : Value) (σ0 : aSt) (A : Nat → Prop) {i : Nat} {bs : List Int32} (hbs : slx i = some bs) : Met l aYlen (aSW aYlen prog_19_method_54_code 1 (some .int)) (aSrm) (va_Pc [.ref (ad i)] (fun U => aOut ad adV fm σ0 A U U.heap)) (aSQ (slen i)) 0 0 (fun _ => False) := by
  refine Met.ofW (cc := prog_19_method_54_code) (maxL := 1) (ret := some .int) (by decide) rfl ?_
  intro p e s m args below meth c s₁ B hml hv
  obtain ⟨rfl, hO⟩ := hv
  have hx := B.exec
  have hb := B.bytes
  have hr := B.returns
  have hts0 := atoms_spec (ws := aSW aYlen prog_19_method_54_code 1 (some .int)) B.pre
  have hts : ∀ w ∈ lw_good, w.before _ s = true := fun w hw => hts0 w (List.mem_cons_of_mem _ hw)
  have hown : s.vm.findClass "java/lang/String" = some m.cls := findClass_of_methodNamed B.named
  have hlocks := B.notSynchronized
  have hSF : va_S (fun _ => False) s.heap s.heap [] := va_S.rf
  have hS : va_S A s.heap s.heap [] := va_S.rf
  have hl := lv_entry ([.ref (ad i)]) (n := 1) (Nat.le_of_ble_eq_true rfl)
  rw [lg_entry_eq]
  generalize (lg_sl ([.ref (ad i)]) ++ List.replicate (1 - (lg_sl ([.ref (ad i)])).length) Slot.unset).toArray = ls at hl ⊢
  refine lv_aload_n hx hb dS_len_0 rfl (lv_at hl 0 rfl) ?_
  refine vk_getf hx hb (hO.2.2.2.1 i bs hbs).2.2.1 hS hown (hts _ w_val) (fun _ h => h) dS_len_1 ?_
  refine va_tlen hx hb (hO.2.2.2.1 i bs hbs).2.2.2 hS rfl dS_len_4 ?_
  refine lv_aload_n hx hb dS_len_5 rfl (lv_at hl 0 rfl) ?_
  obtain ⟨cell, hc1, hc2, hc3, -⟩ := (hO.2.2.2.1 i bs hbs).1
  refine va_callA (A1 := fun _ => False) (va_runV (Ts := lw_good) (C := "java/lang/String") (b := ad i) (As := []) (rest := [.int (Int32.ofNat bs.length)]) ⟨hx, hb, hml, hown, hts⟩ (sm_cod l ad adV fm σ0 A hbs) ⟨⟨rfl, rfl, Nat.le_of_ble_eq_true rfl, Nat.le_of_ble_eq_true rfl, pay_in (big := lw_good) hts (fun w hw => ⟨aSW_good w_cod_c9 w hw, (good_in (aSW_good w_cod_c9 w hw)).2⟩), List.mem_cons_self, hts _ w_cod_c9, hts _ w_str, ⟨by decide, by decide⟩, np_of (d := aYcod.desc) (n := 0) (by decide +kernel), hts _ w_l_cod⟩, hts _ w_cod_i, hts _ w_cod_s⟩ ⟨(by intro a U g mk h; exact ⟨h.1, aOut.moved (u := U) (U := U.calling g mk a) (Vm.Alike.refl U.vm) h.2⟩), ⟨cell, hc1, hc2, hc3⟩, fun U hU hv => ⟨rfl, by show aOut ad adV fm σ0 A U U.heap; rw [hU]; exact hO.moved hv.alike⟩⟩ rfl rfl hl.1 rfl (lv_room (Nat.le_of_ble_eq_true rfl)) dS_len_6 ⟨Nat.zero_le _, Nat.zero_le _⟩) (fun st oc t h => ⟨by rw [h.2]; exact Nat.le_refl _, fun q _ _ => by rw [h.2]⟩) hSF (fun q _ h => h.elim) (fun q h => h.elim) ?_
  clear hSF
  intro v st t H1 locs1 ht hst hq hSF
  have hS1 : va_S A s.heap H1 locs1 := ⟨hSF.1, fun q h1 _ => hSF.2.1 q h1 (fun h => h), fun q hq => (hSF.2.2 q hq).elim⟩
  obtain ⟨h1, h2⟩ := hq
  obtain rfl := Outcome.returned.inj h1
  have hH : H1 = s.heap := by rw [← ht, h2, hst]
  subst hH
  refine lv_ishr hx hb dS_len_9 ?_
  refine W.iret (v := _) hx hb hr (fun t ht hW => ⟨?_, ht⟩) hSF.2.2 dS_len_10
  have h9 : slen i = nI bs.length := by unfold slen; rw [hbs]; rfl
  rw [h9]
  have := pk_shrN (n := bs.length) (by have := (slx_small hbs).1; omega) ((0 : Int32) &&& 31) 0 (by decide)
  rw [show (Int32.ofNat bs.length : Int32) = nI bs.length from rfl, this]
  simp
set_option maxHeartbeats 1000000 in
theorem sm_lat (l : Launch) (ad adV : Nat → Nat) (fm : Value) (σ0 : aSt) (A : Nat → Prop) {i : Nat} {bs : List Int32} (hbs : slx i = some bs) : Met l aYlat (aSW aYlat prog_19_method_154_code 1 (some .boolean)) (rmS 1) (va_Pc [.ref (ad i)] (fun U => aOut ad adV fm σ0 A U U.heap)) (aSQ 1) 0 0 (fun _ => False) := by
  refine Met.ofW (cc := prog_19_method_154_code) (maxL := 1) (ret := some .boolean) (by decide) rfl ?_
  intro p e s m args below meth c s₁ B hml hv
  obtain ⟨rfl, hO⟩ := hv
  have hx := B.exec
  have hb := B.bytes
  have hr := B.returns
  have hts0 := atoms_spec (ws := aSW aYlat prog_19_method_154_code 1 (some .boolean)) B.pre
  have hts : ∀ w ∈ lw_good, w.before _ s = true := fun w hw => hts0 w (List.mem_cons_of_mem _ hw)
  have hown : s.vm.findClass "java/lang/String" = some m.cls := findClass_of_methodNamed B.named
  have hlocks := B.notSynchronized
  have hSF : va_S (fun _ => False) s.heap s.heap [] := va_S.rf
  have hS : va_S A s.heap s.heap [] := va_S.rf
  have hl := lv_entry ([.ref (ad i)]) (n := 1) (Nat.le_of_ble_eq_true rfl)
  rw [lg_entry_eq]
  generalize (lg_sl ([.ref (ad i)]) ++ List.replicate (1 - (lg_sl ([.ref (ad i)])).length) Slot.unset).toArray = ls at hl ⊢
  refine va_gets hx hb hO.2.2.2.2.1 hS hown (hts _ w_cmp) (fun _ h => h) dS_lat_0 ?_
  refine lv_if_eq (tgt := 17) hx hb dS_lat_3 (by decide) (fun hc => absurd hc (by decide)) (fun _ => ?_)
  refine lv_aload_n hx hb dS_lat_6 rfl (lv_at hl 0 rfl) ?_
  refine vk_getf hx hb (hO.2.2.2.1 i bs hbs).2.1 hS hown (hts _ w_cdr) (fun _ h => h) dS_lat_7 ?_
  refine lv_if_ne (tgt := 17) hx hb dS_lat_10 (by decide) (fun hc => absurd rfl hc) (fun _ => ?_)
  refine lv_iconst (v := 1) hx hb dS_lat_13 (by decide) ?_
  refine lv_goto (tgt := 18) hx hb dS_lat_14 (by decide) ?_
  exact W.zret (ty := .boolean) hx hb hr rfl (fun t ht hW => ⟨rfl, ht⟩) (fun q h => by cases h) dS_lat_18
set_option maxHeartbeats 1000000 in
theorem sm_pk (l : Launch) (ad adV : Nat → Nat) (fm : Value) (σ0 : aSt) (A : Nat → Prop) (hfm : fm.category = 1) {j n : Int32} (h0 : 0 ≤ j) (h1 : j < n) : Met l aYpk (aSW aYpk prog_24_method_11_code 3 (some .int)) (rmS 1) (va_Pc [.int j, .int n, fm] (fun U => aOut ad adV fm σ0 A U U.heap)) (aSQ j) 0 0 (fun _ => False) := by
  refine Met.ofW (cc := prog_24_method_11_code) (maxL := 3) (ret := some .int) (by decide) rfl ?_
  intro p e s m args below meth c s₁ B hml hv
  obtain ⟨rfl, hO⟩ := hv
  have hx := B.exec
  have hb := B.bytes
  have hr := B.returns
  have hts0 := atoms_spec (ws := aSW aYpk prog_24_method_11_code 3 (some .int)) B.pre
  have hts : ∀ w ∈ lw_good, w.before _ s = true := fun w hw => hts0 w (List.mem_cons_of_mem _ hw)
  have hown : s.vm.findClass "jdk/internal/util/Preconditions" = some m.cls := findClass_of_methodNamed B.named
  have hlocks := B.notSynchronized
  have hSF : va_S (fun _ => False) s.heap s.heap [] := va_S.rf
  have hS : va_S A s.heap s.heap [] := va_S.rf
  have hl := lv_entry ([.int j, .int n, fm]) (n := 3) (by cases fm <;> first | exact Nat.le_of_ble_eq_true rfl | cases hfm)
  rw [lg_entry_eq]
  generalize (lg_sl ([.int j, .int n, fm]) ++ List.replicate (3 - (lg_sl ([.int j, .int n, fm])).length) Slot.unset).toArray = ls at hl ⊢
  refine lv_iload_n hx hb dS_pk_0 rfl (lv_at hl 0 rfl) ?_
  refine lv_if_lt (tgt := 9) hx hb dS_pk_1 (by decide) (fun hc => absurd hc (Int32.not_lt.mpr h0)) (fun _ => ?_)
  refine lv_iload_n hx hb dS_pk_4 rfl (lv_at hl 0 rfl) ?_
  refine lv_iload_n hx hb dS_pk_5 rfl (lv_at hl 1 rfl) ?_
  refine lv_icmp_lt (tgt := 16) hx hb dS_pk_6 (by decide) (fun _ => ?_) (fun hc => absurd h1 hc)
  refine lv_iload_n hx hb dS_pk_16 rfl (lv_at hl 0 rfl) ?_
  exact W.iret hx hb hr (fun t ht hW => ⟨rfl, ht⟩) (fun q h => by cases h) dS_pk_17
set_option maxHeartbeats 1000000 in
theorem sm_ck (l : Launch) (ad adV : Nat → Nat) (fm : Value) (σ0 : aSt) (A : Nat → Prop) (hfm : fm.category = 1) {j n : Int32} (h0 : 0 ≤ j) (hjn : j < n) : Met l aYck (aSW aYck prog_19_method_155_code 2 (none)) (rmS 2) (va_Pc [.int j, .int n] (fun U => aOut ad adV fm σ0 A U U.heap)) (aSV) 0 0 (fun _ => False) := by
  refine Met.ofW (cc := prog_19_method_155_code) (maxL := 2) (ret := none) (by decide) rfl ?_
  intro p e s m args below meth c s₁ B hml hv
  obtain ⟨rfl, hO⟩ := hv
  have hx := B.exec
  have hb := B.bytes
  have hr := B.returns
  have hts0 := atoms_spec (ws := aSW aYck prog_19_method_155_code 2 (none)) B.pre
  have hts : ∀ w ∈ lw_good, w.before _ s = true := fun w hw => hts0 w (List.mem_cons_of_mem _ hw)
  have hown : s.vm.findClass "java/lang/String" = some m.cls := findClass_of_methodNamed B.named
  have hlocks := B.notSynchronized
  have hSF : va_S (fun _ => False) s.heap s.heap [] := va_S.rf
  have hS : va_S A s.heap s.heap [] := va_S.rf
  have hl := lv_entry ([.int j, .int n]) (n := 2) (Nat.le_of_ble_eq_true rfl)
  rw [lg_entry_eq]
  generalize (lg_sl ([.int j, .int n]) ++ List.replicate (2 - (lg_sl ([.int j, .int n])).length) Slot.unset).toArray = ls at hl ⊢
  refine lv_iload_n hx hb dS_ck_0 rfl (lv_at hl 0 rfl) ?_
  refine lv_iload_n hx hb dS_ck_1 rfl (lv_at hl 1 rfl) ?_
  refine va_gets hx hb hO.2.2.2.2.2 hS hown (hts _ w_sio) (fun _ h => h) dS_ck_2 ?_
  refine va_callA (A1 := fun _ => False) (va_runS (Ts := lw_good) (As := [.int j, .int n, fm]) (rest := []) ⟨hx, hb, hml, hown, hts⟩ (sm_pk l ad adV fm σ0 A hfm h0 hjn) ⟨⟨rfl, rfl, Nat.le_of_ble_eq_true rfl, Nat.le_of_ble_eq_true rfl, pay_in (big := lw_good) hts (fun w hw => ⟨aSW_good w_pk_c9 w hw, (good_in (aSW_good w_pk_c9 w hw)).2⟩), List.mem_cons_self, hts _ w_pk_c9, hts _ w_PR, ⟨by decide, by decide⟩, np_of (d := aYpk.desc) (n := 3) (by decide +kernel), hts _ w_l_pk⟩, hts _ w_pk_t⟩ ⟨(by intro a U g mk h; exact ⟨h.1, aOut.moved (u := U) (U := U.calling g mk a) (Vm.Alike.refl U.vm) h.2⟩), fun U hU hv => ⟨rfl, by show aOut ad adV fm σ0 A U U.heap; rw [hU]; exact hO.moved hv.alike⟩⟩ rfl rfl hl.1 rfl (lv_room (Nat.le_of_ble_eq_true rfl)) dS_ck_5 ⟨Nat.zero_le _, Nat.zero_le _⟩) (fun st oc t h => ⟨by rw [h.2]; exact Nat.le_refl _, fun q _ _ => by rw [h.2]⟩) hSF (fun q _ h => h.elim) (fun q h => h.elim) ?_
  clear hSF
  intro v st t H1 locs1 ht hst hq hSF
  have hS1 : va_S A s.heap H1 locs1 := ⟨hSF.1, fun q h1 _ => hSF.2.1 q h1 (fun h => h), fun q hq => (hSF.2.2 q hq).elim⟩
  obtain ⟨h1, h2⟩ := hq
  obtain rfl := Outcome.returned.inj h1
  have hH : H1 = s.heap := by rw [← ht, h2, hst]
  subst hH
  refine lv_pop hx hb dS_ck_8 rfl ?_
  exact W.vret hx hb hr (fun t ht hW => ⟨rfl, ht⟩) hSF.2.2 dS_ck_9
set_option maxHeartbeats 1000000 in
theorem sm_l1 (l : Launch) (ad adV : Nat → Nat) (fm : Value) (σ0 : aSt) (A : Nat → Prop) (hfm : fm.category = 1) {i : Nat} {bs : List Int32} (hbs : slx i = some bs) {j : Int32} (h0 : 0 ≤ j) (hjn : j < slen i) : Met l aYl1 (aSW aYl1 prog_20_method_2_code 2 (some .char)) (rmS 3) (va_Pc [.ref (adV i), .int j] (fun U => aOut ad adV fm σ0 A U U.heap)) (aSQ (sch i j)) 0 0 (fun _ => False) := by
  refine Met.ofW (cc := prog_20_method_2_code) (maxL := 2) (ret := some .char) (by decide) rfl ?_
  intro p e s m args below meth c s₁ B hml hv
  obtain ⟨rfl, hO⟩ := hv
  have hx := B.exec
  have hb := B.bytes
  have hr := B.returns
  have hts0 := atoms_spec (ws := aSW aYl1 prog_20_method_2_code 2 (some .char)) B.pre
  have hts : ∀ w ∈ lw_good, w.before _ s = true := fun w hw => hts0 w (List.mem_cons_of_mem _ hw)
  have hown : s.vm.findClass "java/lang/StringLatin1" = some m.cls := findClass_of_methodNamed B.named
  have hlocks := B.notSynchronized
  have hSF : va_S (fun _ => False) s.heap s.heap [] := va_S.rf
  have hS : va_S A s.heap s.heap [] := va_S.rf
  have hl := lv_entry ([.ref (adV i), .int j]) (n := 2) (Nat.le_of_ble_eq_true rfl)
  rw [lg_entry_eq]
  generalize (lg_sl ([.ref (adV i), .int j]) ++ List.replicate (2 - (lg_sl ([.ref (adV i), .int j])).length) Slot.unset).toArray = ls at hl ⊢
  have hT := (hO.2.2.2.1 i bs hbs).2.2.2
  have hsl : slen i = nI bs.length := by unfold slen; rw [hbs]; rfl
  have hin : vp_in j bs.length := inb_vp (by have := (slx_small hbs).1; omega) h0 (by rw [← hsl]; exact hjn)
  refine lv_iload_n hx hb dS_l1_0 rfl (lv_at hl 1 rfl) ?_
  refine lv_aload_n hx hb dS_l1_1 rfl (lv_at hl 0 rfl) ?_
  refine va_tlen hx hb hT hS rfl dS_l1_2 ?_
  refine va_callA (A1 := fun _ => False) (va_runS (Ts := lw_good) (As := [.int j, .int (Int32.ofNat bs.length)]) (rest := []) ⟨hx, hb, hml, hown, hts⟩ (sm_ck l ad adV fm σ0 A hfm h0 (by rw [show (Int32.ofNat bs.length : Int32) = slen i from hsl.symm]; exact hjn)) ⟨⟨rfl, rfl, Nat.le_of_ble_eq_true rfl, Nat.le_of_ble_eq_true rfl, pay_in (big := lw_good) hts (fun w hw => ⟨aSW_good w_ck_c9 w hw, (good_in (aSW_good w_ck_c9 w hw)).2⟩), List.mem_cons_self, hts _ w_ck_c9, hts _ w_str, ⟨by decide, by decide⟩, np_of (d := aYck.desc) (n := 2) (by decide +kernel), hts _ w_l_ck⟩, hts _ w_ck_t⟩ ⟨(by intro a U g mk h; exact ⟨h.1, aOut.moved (u := U) (U := U.calling g mk a) (Vm.Alike.refl U.vm) h.2⟩), fun U hU hv => ⟨rfl, by show aOut ad adV fm σ0 A U U.heap; rw [hU]; exact hO.moved hv.alike⟩⟩ rfl rfl hl.1 rfl (lv_room (Nat.le_of_ble_eq_true rfl)) dS_l1_3 ⟨Nat.zero_le _, Nat.zero_le _⟩) (fun st oc t h => ⟨by rw [h.2]; exact Nat.le_refl _, fun q _ _ => by rw [h.2]⟩) hSF (fun q _ h => h.elim) (fun q h => h.elim) ?_
  clear hSF
  intro v st t H1 locs1 ht hst hq hSF
  have hS1 : va_S A s.heap H1 locs1 := ⟨hSF.1, fun q h1 _ => hSF.2.1 q h1 (fun h => h), fun q hq => (hSF.2.2 q hq).elim⟩
  obtain ⟨h1, h2⟩ := hq
  obtain rfl := Outcome.returned.inj h1
  have hH : H1 = s.heap := by rw [← ht, h2, hst]
  subst hH
  refine lv_aload_n hx hb dS_l1_6 rfl (lv_at hl 0 rfl) ?_
  refine lv_iload_n hx hb dS_l1_7 rfl (lv_at hl 1 rfl) ?_
  refine va_tb hx hb hT hS1 hin rfl dS_l1_8 ?_
  refine lv_sipush (v := 255) hx hb dS_l1_9 (by decide) ?_
  refine lv_iand hx hb dS_l1_12 ?_
  refine lv_i2c hx hb dS_l1_13 rfl ?_
  have hjl : j.toNatClampNeg < bs.length := by
    have := vp_in_iff.mp hin
    rw [Int32.toNatClampNeg]
    omega
  have hch := (slx_small hbs).2 _ hjl
  have hval : ((bs.getD j.toNatClampNeg 0 &&& 255).toUInt32 % 65536).toInt32 = sch i j := by
    rw [hch.1]
    unfold sch
    rw [hbs]
    rfl
  rw [hval]
  refine W.zret (ty := .char) hx hb hr ?_ (fun t ht hW => ⟨rfl, ht⟩) hSF.2.2 dS_l1_14
  rw [← hval]
  exact pk_nc _
set_option maxHeartbeats 1000000 in
theorem sm_ch (l : Launch) (ad adV : Nat → Nat) (fm : Value) (σ0 : aSt) (A : Nat → Prop) (hfm : fm.category = 1) {i : Nat} {bs : List Int32} (hbs : slx i = some bs) {j : Int32} (h0 : 0 ≤ j) (hjn : j < slen i) : Met l aYch (aSW aYch prog_19_method_56_code 2 (some .char)) (aSrm) (va_Pc [.ref (ad i), .int j] (fun U => aOut ad adV fm σ0 A U U.heap)) (aSQ (sch i j)) 0 0 (fun _ => False) := by
  refine Met.ofW (cc := prog_19_method_56_code) (maxL := 2) (ret := some .char) (by decide) rfl ?_
  intro p e s m args below meth c s₁ B hml hv
  obtain ⟨rfl, hO⟩ := hv
  have hx := B.exec
  have hb := B.bytes
  have hr := B.returns
  have hts0 := atoms_spec (ws := aSW aYch prog_19_method_56_code 2 (some .char)) B.pre
  have hts : ∀ w ∈ lw_good, w.before _ s = true := fun w hw => hts0 w (List.mem_cons_of_mem _ hw)
  have hown : s.vm.findClass "java/lang/String" = some m.cls := findClass_of_methodNamed B.named
  have hlocks := B.notSynchronized
  have hSF : va_S (fun _ => False) s.heap s.heap [] := va_S.rf
  have hS : va_S A s.heap s.heap [] := va_S.rf
  have hl := lv_entry ([.ref (ad i), .int j]) (n := 2) (Nat.le_of_ble_eq_true rfl)
  rw [lg_entry_eq]
  generalize (lg_sl ([.ref (ad i), .int j]) ++ List.replicate (2 - (lg_sl ([.ref (ad i), .int j])).length) Slot.unset).toArray = ls at hl ⊢
  refine lv_aload_n hx hb dS_ch_0 rfl (lv_at hl 0 rfl) ?_
  obtain ⟨cell, hc1, hc2, hc3, -⟩ := (hO.2.2.2.1 i bs hbs).1
  refine va_callA (A1 := fun _ => False) (va_runV (Ts := lw_good) (C := "java/lang/String") (b := ad i) (As := []) (rest := []) ⟨hx, hb, hml, hown, hts⟩ (sm_lat l ad adV fm σ0 A hbs) ⟨⟨rfl, rfl, Nat.le_of_ble_eq_true rfl, Nat.le_of_ble_eq_true rfl, pay_in (big := lw_good) hts (fun w hw => ⟨aSW_good w_lat_c9 w hw, (good_in (aSW_good w_lat_c9 w hw)).2⟩), List.mem_cons_self, hts _ w_lat_c9, hts _ w_str, ⟨by decide, by decide⟩, np_of (d := aYlat.desc) (n := 0) (by decide +kernel), hts _ w_l_lat⟩, hts _ w_lat_i, hts _ w_lat_s⟩ ⟨(by intro a U g mk h; exact ⟨h.1, aOut.moved (u := U) (U := U.calling g mk a) (Vm.Alike.refl U.vm) h.2⟩), ⟨cell, hc1, hc2, hc3⟩, fun U hU hv => ⟨rfl, by show aOut ad adV fm σ0 A U U.heap; rw [hU]; exact hO.moved hv.alike⟩⟩ rfl rfl hl.1 rfl (lv_room (Nat.le_of_ble_eq_true rfl)) dS_ch_1 ⟨Nat.zero_le _, Nat.zero_le _⟩) (fun st oc t h => ⟨by rw [h.2]; exact Nat.le_refl _, fun q _ _ => by rw [h.2]⟩) hSF (fun q _ h => h.elim) (fun q h => h.elim) ?_
  clear hSF
  intro v st t H1 locs1 ht hst hq hSF
  have hS1 : va_S A s.heap H1 locs1 := ⟨hSF.1, fun q h1 _ => hSF.2.1 q h1 (fun h => h), fun q hq => (hSF.2.2 q hq).elim⟩
  obtain ⟨h1, h2⟩ := hq
  obtain rfl := Outcome.returned.inj h1
  have hH : H1 = s.heap := by rw [← ht, h2, hst]
  subst hH
  refine lv_if_eq (tgt := 16) hx hb dS_ch_4 (by decide) (fun hc => absurd hc (by decide)) (fun _ => ?_)
  refine lv_aload_n hx hb dS_ch_7 rfl (lv_at hl 0 rfl) ?_
  refine vk_getf hx hb (hO.2.2.2.1 i bs hbs).2.2.1 hS1 hown (hts _ w_val) (fun _ h => h) dS_ch_8 ?_
  refine lv_iload_n hx hb dS_ch_11 rfl (lv_at hl 1 rfl) ?_

  refine va_callA (A1 := fun _ => False) (va_runS (Ts := lw_good) (As := [.ref (adV i), .int j]) (rest := []) ⟨hx, hb, hml, hown, hts⟩ (sm_l1 l ad adV fm σ0 A hfm hbs h0 hjn) ⟨⟨rfl, rfl, Nat.le_of_ble_eq_true rfl, Nat.le_of_ble_eq_true rfl, pay_in (big := lw_good) hts (fun w hw => ⟨aSW_good w_l1_c9 w hw, (good_in (aSW_good w_l1_c9 w hw)).2⟩), List.mem_cons_self, hts _ w_l1_c9, hts _ w_L1, ⟨by decide, by decide⟩, np_of (d := aYl1.desc) (n := 2) (by decide +kernel), hts _ w_l_l1⟩, hts _ w_l1_t⟩ ⟨(by intro a U g mk h; exact ⟨h.1, aOut.moved (u := U) (U := U.calling g mk a) (Vm.Alike.refl U.vm) h.2⟩), fun U hU hv => ⟨rfl, by show aOut ad adV fm σ0 A U U.heap; rw [hU]; exact hO.moved hv.alike⟩⟩ rfl rfl hl.1 rfl (lv_room (Nat.le_of_ble_eq_true rfl)) dS_ch_12 ⟨Nat.zero_le _, Nat.zero_le _⟩) (fun st oc t h => ⟨by rw [h.2]; exact Nat.le_refl _, fun q _ _ => by rw [h.2]⟩) hSF (fun q _ h => h.elim) (fun q h => h.elim) ?_
  clear hSF
  intro v st t H1 locs1 ht hst hq hSF
  have hS1 : va_S A s.heap H1 locs1 := ⟨hSF.1, fun q h1 _ => hSF.2.1 q h1 (fun h => h), fun q hq => (hSF.2.2 q hq).elim⟩
  obtain ⟨h1, h2⟩ := hq
  obtain rfl := Outcome.returned.inj h1
  have hH : H1 = s.heap := by rw [← ht, h2, hst]
  subst hH
  refine W.zret (ty := .char) hx hb hr ?_ (fun t ht hW => ⟨rfl, ht⟩) hSF.2.2 dS_ch_15
  have hjl : j.toNatClampNeg < bs.length := by
    have hsl : slen i = nI bs.length := by unfold slen; rw [hbs]; rfl
    have := vp_in_iff.mp (inb_vp (n := bs.length) (by have := (slx_small hbs).1; omega) h0 (by rw [← hsl]; exact hjn))
    rw [Int32.toNatClampNeg]
    omega
  have hval : ((bs.getD j.toNatClampNeg 0 &&& 255).toUInt32 % 65536).toInt32 = sch i j := by
    rw [((slx_small hbs).2 _ hjl).1]
    unfold sch
    rw [hbs]
    rfl
  rw [← hval]
  exact pk_nc _
theorem aLenMet_ok (l : Launch) : aLenMet l := by
  refine ⟨prog_19_method_54_code, 1, by decide, w_len_c9, fun ad adV fm σ0 A i bs hbs => ?_⟩
  exact sm_len l ad adV fm σ0 A hbs
theorem aChMet_ok (l : Launch) {fm : Value} (hfm : fm.category = 1) : aChMet l fm := by
  refine ⟨prog_19_method_56_code, 2, by decide, w_ch_c9, fun ad adV σ0 A i bs k hbs h0 h1 => ?_⟩
  exact sm_ch l ad adV fm σ0 A hfm hbs h0 h1
