/-! text constants: their length and signs (String.length, String.charAt and what these call) -/
section RZ
variable {G : Gm} {M : Mt} {pc q : Nat} {L : List (Nat × Value)} {st : List Value} {s : Hp} {o : Option Value × Hp}
theorem R_getsC {i : Nat} (hd : Dn M.2.1 pc (.getstatic i) 3 q) (hw : Cond.fieldLink M.1.cls i "java/lang/String" "COMPACT_STRINGS" "Z" ∈ TB) (kk : R G M q L (.int 1 :: st) s o) : R G M pc L st s o := by
  obtain ⟨hd, rfl⟩ := hd
  exact kk.stp fun p e Rm u m args below meth c H locs cells slots Q ls hC hR hS hl w => va_gets hC.1 hC.2.1 hC.2.2.2.2.2.2.2.2.2.2.2.2.2.2.2.1 hS hC.2.2.2.2.1 (hC.2.2.2.2.2.1 _ hw) (fun _ h => h) hd w
theorem R_getsQ {i : Nat} (hd : Dn M.2.1 pc (.getstatic i) 3 q) (hw : Cond.fieldLink M.1.cls i "jdk/internal/util/Preconditions" "SIOOBE_FORMATTER" "Ljava/util/function/BiFunction;" ∈ TB) (kk : ∀ v : Value, (v = .null ∨ ∃ t, v = .ref t) → R G M q L (v :: st) s o) : R G M pc L st s o := by
  obtain ⟨hd, rfl⟩ := hd
  refine ⟨(kk .null (Or.inl rfl)).1, fun p e u m args below meth c H locs ls k0 hC hn hk hR hS hl => ?_⟩
  rcases hC.2.2.2.2.2.2.2.2.2.2.2.2.2.2.2.2 with h | ⟨t, h⟩
  · exact va_gets hC.1 hC.2.1 h hS hC.2.2.2.2.1 (hC.2.2.2.2.2.1 _ hw) (fun _ h => h) hd ((kk .null (Or.inl rfl)).2 p e u m args below meth c H locs ls k0 hC hn hk hR hS hl)
  · exact va_gets hC.1 hC.2.1 h hS hC.2.2.2.2.1 (hC.2.2.2.2.2.1 _ hw) (fun _ h => h) hd ((kk (.ref t) (Or.inr ⟨t, rfl⟩)).2 p e u m args below meth c H locs ls k0 hC hn hk hR hS hl)
theorem R_sVal {i a k : Nat} (hd : Dn M.2.1 pc (.getfield i) 3 q) (hw : Cond.fieldLink M.1.cls i "java/lang/String" "value" "[B" ∈ TB) (ht : (s.2.2 a).1 = 40 ∧ (s.2.2 a).2.1 = k) (kk : R G M q L (.ref (gV G k) :: st) s o) : R G M pc L (.ref a :: st) s o := by
  obtain ⟨hd, rfl⟩ := hd
  refine kk.stp fun p e Rm u m args below meth c H locs cells slots Q ls hC hR hS hl w => ?_
  obtain ⟨h1, h2⟩ := hR.1.2.2 a ht.1
  rw [ht.2] at h1 h2
  subst h2
  exact vk_getf hC.1 hC.2.1 ((hC.2.2.2.2.2.2.2.2.2.2.2.2.2.1.1 k h1).2.2.1) hS hC.2.2.2.2.1 (hC.2.2.2.2.2.1 _ hw) (fun _ h => h) hd w
theorem R_sCod {i a k : Nat} (hd : Dn M.2.1 pc (.getfield i) 3 q) (hw : Cond.fieldLink M.1.cls i "java/lang/String" "coder" "B" ∈ TB) (ht : (s.2.2 a).1 = 40 ∧ (s.2.2 a).2.1 = k) (kk : R G M q L (.int 0 :: st) s o) : R G M pc L (.ref a :: st) s o := by
  obtain ⟨hd, rfl⟩ := hd
  refine kk.stp fun p e Rm u m args below meth c H locs cells slots Q ls hC hR hS hl w => ?_
  obtain ⟨h1, h2⟩ := hR.1.2.2 a ht.1
  rw [ht.2] at h1 h2
  subst h2
  exact vk_getf hC.1 hC.2.1 ((hC.2.2.2.2.2.2.2.2.2.2.2.2.2.1.1 k h1).2.1) hS hC.2.2.2.2.1 (hC.2.2.2.2.2.1 _ hw) (fun _ h => h) hd w
theorem R_sLen {k : Nat} (hd : Dn M.2.1 pc .arraylength 1 q) (hk : k < 28) (kk : R G M q L (.int (Int32.ofNat (sLen.getD k 0)) :: st) s o) : R G M pc L (.ref (gV G k) :: st) s o := by
  obtain ⟨hd, rfl⟩ := hd
  exact kk.stp fun p e Rm u m args below meth c H locs cells slots Q ls hC hR hS hl w => va_tlen hC.1 hC.2.1 ((hC.2.2.2.2.2.2.2.2.2.2.2.2.2.1.1 k hk).2.2.2) hS rfl hd w
theorem R_sByt {k : Nat} {i : Int32} (hd : Dn M.2.1 pc .baload 1 q) (hk : k < 28) (hi : vp_in i (sLen.getD k 0)) (kk : R G M q L (.int ((sByt.getD k []).getD i.toNatClampNeg 0) :: st) s o) : R G M pc L (.int i :: .ref (gV G k) :: st) s o := by
  obtain ⟨hd, rfl⟩ := hd
  exact kk.stp fun p e Rm u m args below meth c H locs cells slots Q ls hC hR hS hl w => va_tb hC.1 hC.2.1 ((hC.2.2.2.2.2.2.2.2.2.2.2.2.2.1.1 k hk).2.2.2) hS hi rfl hd w
theorem R_xreturn {s : Hp} {v : Int32} {ty : FieldType} (hr : M.2.2.2.1 = some ty) (hd : Dn M.2.1 pc .ireturn 1 q) (hv : narrow ty (.int v) = .int v) : R G M pc L [.int v] s (some (.int v), s) :=
  R_ret fun p e Rm u m args below meth c H locs cells slots ls hC hq hf => W.zret hC.1 hC.2.1 (hC.2.2.1.trans hr) hv hq hf hd.1 hC.2.2.2.2.2.2.1
theorem R_i2c {x : Int32} (hd : Dn M.2.1 pc .i2c 1 q) (kk : R G M q L (.int ((x.toUInt32 % 65536).toInt32) :: st) s o) : R G M pc L (.int x :: st) s o := by
  obtain ⟨hd, rfl⟩ := hd
  exact kk.stp fun p e Rm u m args below meth c H locs cells slots Q ls hC hR hS hl w => lv_i2c hC.1 hC.2.1 hd rfl w
end RZ
theorem kJ3_check {G : Gm} {s : Hp} {i n : Int32} {v : Value} (hv : v = .null ∨ ∃ t, v = .ref t) (h0 : ¬ i < 0) (h1 : i < n) : Call G MJ3_checkIndex_8e157 [.int i, .int n, v] s (some (.int i), s) := by
  have key : R G MJ3_checkIndex_8e157 0 [(0, .int i), (1, .int n)] [] s (some (.int i), s) := by
    refine R_iload DJ3_checkIndex_8e157_0 0 rfl ?_
    refine R_if_lt_f DJ3_checkIndex_8e157_1 h0 ?_
    refine R_iload DJ3_checkIndex_8e157_4 0 rfl ?_
    refine R_iload DJ3_checkIndex_8e157_5 1 rfl ?_
    refine R_icmp_lt_t DJ3_checkIndex_8e157_6 h1 ?_
    refine R_iload DJ3_checkIndex_8e157_16 0 rfl ?_
    exact R_ireturn rfl DJ3_checkIndex_8e157_17
  rcases hv with rfl | ⟨t, rfl⟩
  · exact Call.of_R pnRJ3 (Nat.le_of_ble_eq_true rfl) (R.sub [0, 1] rfl key)
  · exact Call.of_R pnRJ3 (Nat.le_of_ble_eq_true rfl) (R.sub [0, 1] rfl key)
theorem kJ0_check {G : Gm} {s : Hp} {i n : Int32} (h0 : ¬ i < 0) (h1 : i < n) : Call G MJ0_checkIndex_df160 [.int i, .int n] s (none, s) := by
  refine Call.of_R pnRJ0 (Nat.le_of_ble_eq_true rfl) ?_
  show R G MJ0_checkIndex_df160 0 [(0, .int i), (1, .int n)] [] s (none, s)
  refine R_iload DJ0_checkIndex_df160_0 0 rfl ?_
  refine R_iload DJ0_checkIndex_df160_1 1 rfl ?_
  refine R_getsQ DJ0_checkIndex_df160_2 jf_RJ0_1053 fun v hv => ?_
  refine R_cS1 (st := []) (x := .int i) [.int i, .int n, v] DJ0_checkIndex_df160_5 kzsJ3_checkIndex_8e157 ml_RJ0_1059 ⟨Nat.le_of_ble_eq_true rfl, Nat.le_of_ble_eq_true rfl⟩ rfl (Nat.le_of_ble_eq_true rfl) (kJ3_check hv h0 h1) ?_
  refine R_pop DJ0_checkIndex_df160_8 rfl ?_
  exact R_return rfl DJ0_checkIndex_df160_9
theorem sb_all : ∀ k, k < 28 → ∀ j, j < sLen.getD k 0 → ((((sByt.getD k []).getD j 0) &&& 255).toUInt32 % 65536).toInt32 = (sByt.getD k []).getD j 0 ∧ narrow .char (.int ((sByt.getD k []).getD j 0)) = .int ((sByt.getD k []).getD j 0) := by decide +kernel
theorem sl_all : ∀ k, k < 28 → sLen.getD k 0 < 100 := by decide +kernel
theorem kJ1_charAt {G : Gm} {s : Hp} {k : Nat} {i : Int32} (hk : k < 28) (hi : vp_in i (sLen.getD k 0)) : Call G MJ1_charAt_3b067 [.ref (gV G k), .int i] s (some (.int ((sByt.getD k []).getD i.toNatClampNeg 0)), s) := by
  have hl := sl_all k hk
  have hlt : i.toNatClampNeg < sLen.getD k 0 := Nat.not_le.mp fun q => hi (Or.inr q)
  have h0 : ¬ i < 0 := fun q => hi (Or.inl q)
  have h1 : i < Int32.ofNat (sLen.getD k 0) := by
    obtain ⟨j, hj, e⟩ := vp_in_of hi (by omega)
    rw [e]
    exact nI_lt hj (by omega)
  obtain ⟨hb1, hb2⟩ := sb_all k hk _ hlt
  refine Call.of_R pnRJ1 (Nat.le_of_ble_eq_true rfl) ?_
  show R G MJ1_charAt_3b067 0 [(0, .ref (gV G k)), (1, .int i)] [] s _
  refine R_iload DJ1_charAt_3b067_0 1 rfl ?_
  refine R_aload DJ1_charAt_3b067_1 0 rfl ?_
  refine R_sLen DJ1_charAt_3b067_2 hk ?_
  refine R_cS0 (st := []) [.int i, .int (Int32.ofNat (sLen.getD k 0))] DJ1_charAt_3b067_3 kzsJ0_checkIndex_df160 ml_RJ1_9 ⟨Nat.le_of_ble_eq_true rfl, Nat.le_of_ble_eq_true rfl⟩ rfl (Nat.le_of_ble_eq_true rfl) (kJ0_check h0 h1) ?_
  refine R_aload DJ1_charAt_3b067_6 0 rfl ?_
  refine R_iload DJ1_charAt_3b067_7 1 rfl ?_
  refine R_sByt DJ1_charAt_3b067_8 hk hi ?_
  refine R_const DJ1_charAt_3b067_9 ?_
  refine R_iand DJ1_charAt_3b067_12 ?_
  refine R_i2c DJ1_charAt_3b067_13 ?_
  rw [hb1]
  exact R_xreturn rfl DJ1_charAt_3b067_14 hb2
theorem kJ0_lat {G : Gm} {s : Hp} {a k : Nat} (ht : (s.2.2 a).1 = 40 ∧ (s.2.2 a).2.1 = k) : (s.2.2 a).1 = 40 ∧ Call G MJ0_isLatin1_aae02 [.ref a] s (some (.int 1), s) := by
  refine ⟨ht.1, Call.of_R pnRJ0 (Nat.le_of_ble_eq_true rfl) ?_⟩
  show R G MJ0_isLatin1_aae02 0 [(0, .ref a)] [] s _
  refine R_getsC DJ0_isLatin1_aae02_0 jf_RJ0_38 ?_
  refine R_if_eq_f DJ0_isLatin1_aae02_3 (by decide) ?_
  refine R_aload DJ0_isLatin1_aae02_6 0 rfl ?_
  refine R_sCod DJ0_isLatin1_aae02_7 jf_RJ0_15 ht ?_
  refine R_if_ne_f DJ0_isLatin1_aae02_10 rfl ?_
  refine R_const DJ0_isLatin1_aae02_13 ?_
  refine R_goto DJ0_isLatin1_aae02_14 ?_
  exact R_zreturn rfl DJ0_isLatin1_aae02_18 (by decide)
theorem kJ0_cod {G : Gm} {s : Hp} {a k : Nat} (ht : (s.2.2 a).1 = 40 ∧ (s.2.2 a).2.1 = k) : (s.2.2 a).1 = 40 ∧ Call G MJ0_coder_7d493 [.ref a] s (some (.int 0), s) := by
  refine ⟨ht.1, Call.of_R pnRJ0 (Nat.le_of_ble_eq_true rfl) ?_⟩
  show R G MJ0_coder_7d493 0 [(0, .ref a)] [] s _
  refine R_getsC DJ0_coder_7d493_0 jf_RJ0_38 ?_
  refine R_if_eq_f DJ0_coder_7d493_3 (by decide) ?_
  refine R_aload DJ0_coder_7d493_6 0 rfl ?_
  refine R_sCod DJ0_coder_7d493_7 jf_RJ0_15 ht ?_
  refine R_goto DJ0_coder_7d493_10 ?_
  exact R_xreturn rfl DJ0_coder_7d493_14 (by decide)
theorem ish0 (x : Int32) : isr x 0 = x := sb_shr0 x
theorem kJ0_length_8abf5 {G : Gm} {x0 : Nat} {s : Hp} {w : Int32 × Hp} (h : fJ0_length_8abf5 x0 s = some w) : (s.2.2 x0).1 = 40 ∧ Call G MJ0_length_8abf5 [.ref x0] s (some (.int w.1), w.2) := by
  unfold fJ0_length_8abf5 at h
  split at h
  case isFalse => cases h
  next ht =>
  cases h
  refine ⟨ht.1, Call.of_R pnRJ0 (Nat.le_of_ble_eq_true rfl) ?_⟩
  show R G MJ0_length_8abf5 0 [(0, .ref x0)] [] s _
  refine R_aload DJ0_length_8abf5_0 0 rfl ?_
  refine R_sVal DJ0_length_8abf5_1 jf_RJ0_9 ⟨ht.1, rfl⟩ ?_
  refine R_sLen DJ0_length_8abf5_4 ht.2 ?_
  refine R_aload DJ0_length_8abf5_5 0 rfl ?_
  refine R_cT (st := [.int (Int32.ofNat (sLen.getD (s.2.2 x0).2.1 0))]) [] DJ0_length_8abf5_6 kztJ0_coder_7d493 ml_RJ0_335 ⟨Nat.le_of_ble_eq_true rfl, Nat.le_of_ble_eq_true rfl⟩ rfl (Nat.le_of_ble_eq_true rfl) (kJ0_cod ⟨ht.1, rfl⟩) ?_
  refine R_ishr DJ0_length_8abf5_9 ?_
  rw [ish0]
  exact R_ireturn rfl DJ0_length_8abf5_10
theorem kJ0_charAt_5068e {G : Gm} {x0 : Nat} {x1 : Int32} {s : Hp} {w : Int32 × Hp} (h : fJ0_charAt_5068e x0 x1 s = some w) : (s.2.2 x0).1 = 40 ∧ Call G MJ0_charAt_5068e [.ref x0, .int x1] s (some (.int w.1), w.2) := by
  unfold fJ0_charAt_5068e at h
  split at h
  case isFalse => cases h
  next ht =>
  cases h
  have hlt : x1.toNatClampNeg < sLen.getD (s.2.2 x0).2.1 0 := Nat.not_le.mp fun q => ht.2.2 (Or.inr q)
  refine ⟨ht.1, Call.of_R pnRJ0 (Nat.le_of_ble_eq_true rfl) ?_⟩
  show R G MJ0_charAt_5068e 0 [(0, .ref x0), (1, .int x1)] [] s _
  refine R_aload DJ0_charAt_5068e_0 0 rfl ?_
  refine R_cT (st := []) [] DJ0_charAt_5068e_1 kztJ0_isLatin1_aae02 ml_RJ0_492 ⟨Nat.le_of_ble_eq_true rfl, Nat.le_of_ble_eq_true rfl⟩ rfl (Nat.le_of_ble_eq_true rfl) (kJ0_lat ⟨ht.1, rfl⟩) ?_
  refine R_if_eq_f DJ0_charAt_5068e_4 (by decide) ?_
  refine R_aload DJ0_charAt_5068e_7 0 rfl ?_
  refine R_sVal DJ0_charAt_5068e_8 jf_RJ0_9 ⟨ht.1, rfl⟩ ?_
  refine R_iload DJ0_charAt_5068e_11 1 rfl ?_
  refine R_cS1 (st := []) [.ref (gV G (s.2.2 x0).2.1), .int x1] DJ0_charAt_5068e_12 kzsJ1_charAt_3b067 ml_RJ0_495 ⟨Nat.le_of_ble_eq_true rfl, Nat.le_of_ble_eq_true rfl⟩ rfl (Nat.le_of_ble_eq_true rfl) (kJ1_charAt ht.2.1 ht.2.2) ?_
  exact R_xreturn rfl DJ0_charAt_5068e_15 (sb_all _ ht.2.1 _ hlt).2
