theorem ckC_app {mt : List aME} {own : String} {bytes : ByteArray} {ret : Option FieldType} {code : List aMI} : ∀ (a b : List aMI) (k : Nat), ckC mt own bytes ret code k (a ++ b) = (ckC mt own bytes ret code k a && ckC mt own bytes ret code (k + a.length) b)
  | [], b, k => rfl
  | q :: a, b, k => by
    rw [List.cons_append, ckC, ckC, ckC_app a b (k + 1), List.length_cons, show k + (a.length + 1) = k + 1 + a.length by omega]
    simp only [Bool.and_assoc]
theorem ck_cut {mt : List aME} {own : String} {bytes : ByteArray} {ret : Option FieldType} {code qs : List aMI} {k k' : Nat} (n : Nat) (hk : k' = k + (qs.take n).length) (h1 : ckC mt own bytes ret code k (qs.take n) = true) (h2 : ckC mt own bytes ret code k' (qs.drop n) = true) : ckC mt own bytes ret code k qs = true := by
  rw [← List.take_append_drop n qs, ckC_app, h1, ← hk, h2]
  rfl
theorem ck_join {mt : List aME} {me : aME} (h0 : nxt me.2.2.2.2.2.2.2.2 0 0 = true) (h1 : ckW me = true) (h2 : ckC mt me.1.cls me.2.1 me.2.2.2.1 me.2.2.2.2.2.2.2.2 0 me.2.2.2.2.2.2.2.2 = true) : ckM mt me = true := by
  unfold ckM
  rw [h0, h1, h2]
  rfl
set_option maxRecDepth 100000 in
theorem ck_Reader_length : ckM MT me_Reader_length = true := by decide +kernel
set_option maxRecDepth 100000 in
theorem ck_Whole_store : ckM MT me_Whole_store = true := by decide +kernel
set_option maxRecDepth 100000 in
theorem ck_Reader_push : ckM MT me_Reader_push = true := by decide +kernel
set_option maxRecDepth 100000 in
theorem ck_X_feed : ckM MT me_X_feed = true := by decide +kernel
set_option maxRecDepth 100000 in
theorem ck_M_feed : ckM MT me_M_feed = true := by decide +kernel
set_option maxRecDepth 100000 in
theorem ck_Reader_cut : ckM MT me_Reader_cut = true := by decide +kernel
set_option maxRecDepth 100000 in
theorem ck_X_end : ckM MT me_X_end = true := by decide +kernel
set_option maxRecDepth 100000 in
theorem ck_M_in : ckM MT me_M_in = true := by decide +kernel
set_option maxRecDepth 100000 in
theorem ck_M_end : ckM MT me_M_end = true := by decide +kernel
set_option maxRecDepth 100000 in
theorem ck_Whole_pick : ckM MT me_Whole_pick = true := by decide +kernel
set_option maxRecDepth 100000 in
theorem ck_Reader_byteAt : ckM MT me_Reader_byteAt = true := by decide +kernel
set_option maxRecDepth 100000 in
theorem ck_Reader_kindOf : ckM MT me_Reader_kindOf = true := by decide +kernel
set_option maxRecDepth 100000 in
theorem ck_Reader_next : ckM MT me_Reader_next = true := by decide +kernel
set_option maxRecDepth 100000 in
theorem ck_Reader_begin : ckM MT me_Reader_begin = true := by decide +kernel
set_option maxRecDepth 100000 in
theorem ck_Reader_isWord : ckM MT me_Reader_isWord = true := by decide +kernel
set_option maxRecDepth 100000 in
theorem ck_Reader_refuse : ckM MT me_Reader_refuse = true := by decide +kernel
set_option maxRecDepth 100000 in
theorem ck_Reader_takeWord : ckM MT me_Reader_takeWord = true := by decide +kernel
set_option maxRecDepth 100000 in
theorem ck_Reader_isByte : ckM MT me_Reader_isByte = true := by decide +kernel
set_option maxRecDepth 100000 in
theorem ck_Reader_fits : ckM MT me_Reader_fits = true := by decide +kernel
set_option maxRecDepth 100000 in
theorem ck_Reader_number : ckM MT me_Reader_number = true := by decide +kernel
set_option maxRecDepth 100000 in
theorem ck_Reader_isFlat : ckM MT me_Reader_isFlat = true := by decide +kernel
set_option maxRecDepth 100000 in
theorem ck_Reader_takeNumber : ckM MT me_Reader_takeNumber = true := by decide +kernel
set_option maxRecDepth 100000 in
theorem ck_Reader_takeBounds : ckM MT me_Reader_takeBounds = true := by decide +kernel
set_option maxRecDepth 100000 in
theorem ck_Reader_takeEnd : ckM MT me_Reader_takeEnd = true := by decide +kernel
set_option maxRecDepth 100000 in
theorem ck_Reader_readCurve : ckM MT me_Reader_readCurve = true := by decide +kernel
set_option maxRecDepth 100000 in
theorem ck_History_clear : ckM MT me_History_clear = true := by decide +kernel
set_option maxRecDepth 100000 in
theorem ck_PointList_a : ckM MT me_PointList_a = true := by decide +kernel
set_option maxRecDepth 100000 in
theorem ck_PointList_b : ckM MT me_PointList_b = true := by decide +kernel
set_option maxRecDepth 100000 in
theorem ck_Arrays_fill : ckM MT me_Arrays_fill = true := by decide +kernel
set_option maxRecDepth 100000 in
theorem ck_PrimeGroup_renew : ckM MT me_PrimeGroup_renew = true := by decide +kernel
