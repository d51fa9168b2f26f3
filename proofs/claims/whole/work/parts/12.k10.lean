set_option maxRecDepth 8000 in
theorem kX9_meet {G : Gm} {x0 : Nat} {x1 : Int32} {x2 : Int32} {s : Hp} {w : Int32 × Hp} (h : fX9_meet x0 x1 x2 s = some w) : (s.2.2 x0).1 = 9 ∧ Call G MX9_meet [.ref x0, .int x1, .int x2] s (some (.int w.1), w.2) := by
  unfold fX9_meet at h
  obtain ⟨_, e0, h⟩ := bind_some h
  refine ⟨ck_some e0, Call.of_R pnRX9 (Nat.le_of_ble_eq_true rfl) ?_⟩
  clear e0
  show R G MX9_meet 0 [(0, .ref x0), (1, .int x1), (2, .int x2)] [] s (some (.int w.1), w.2)
  refine R_aload DX9_meet_0 0 rfl ?_
  refine R_constI DX9_meet_1 ci_0 ?_
  obtain ⟨s1, es1, h⟩ := bind_some h
  refine R_pI DX9_meet_2 fl_RX9_92 es1 ?_
  refine R_aload DX9_meet_5 0 rfl ?_
  refine R_iload DX9_meet_6 1 rfl ?_
  refine R_iload DX9_meet_7 2 rfl ?_
  obtain ⟨r2, er2, h⟩ := bind_some h
  refine R_cV1 [.int x1, .int x2] DX9_meet_8 kzvX9_areTwo ml_RX9_401 ⟨Nat.le_of_ble_eq_true rfl, Nat.le_of_ble_eq_true rfl⟩ rfl (Nat.le_of_ble_eq_true rfl) (kX9_areTwo er2) ?_
  by_cases c3 : r2.1 = 0
  · replace h := if_t h c3
    refine R_if_eq_t DX9_meet_11 c3 ?_
    refine R_constI DX9_meet_24 ci_m2 ?_
    cases h
    exact R_ireturn rfl DX9_meet_26
  · replace h := if_f h c3
    refine R_if_eq_f DX9_meet_11 c3 ?_
    refine R_aload DX9_meet_14 0 rfl ?_
    refine R_iload DX9_meet_15 1 rfl ?_
    refine R_iload DX9_meet_16 2 rfl ?_
    refine R_constI DX9_meet_17 ci_0 ?_
    obtain ⟨r4, er4, h⟩ := bind_some h
    refine R_cV1 [.int x1, .int x2, .int (iI 0)] DX9_meet_18 kzvX9_meetBy ml_RX9_516 ⟨Nat.le_of_ble_eq_true rfl, Nat.le_of_ble_eq_true rfl⟩ rfl (Nat.le_of_ble_eq_true rfl) (kX9_meetBy er4) ?_
    refine R_goto DX9_meet_21 ?_
    cases h
    exact R_ireturn rfl DX9_meet_26
set_option maxRecDepth 8000 in
theorem kX9_rope {G : Gm} {x0 : Nat} {x1 : Int32} {x2 : Int32} {s : Hp} {w : Int32 × Hp} (h : fX9_rope x0 x1 x2 s = some w) : (s.2.2 x0).1 = 9 ∧ Call G MX9_rope [.ref x0, .int x1, .int x2] s (some (.int w.1), w.2) := by
  unfold fX9_rope at h
  obtain ⟨_, e0, h⟩ := bind_some h
  refine ⟨ck_some e0, Call.of_R pnRX9 (Nat.le_of_ble_eq_true rfl) ?_⟩
  clear e0
  show R G MX9_rope 0 [(0, .ref x0), (1, .int x1), (2, .int x2)] [] s (some (.int w.1), w.2)
  refine R_aload DX9_rope_0 0 rfl ?_
  refine R_constI DX9_rope_1 ci_0 ?_
  obtain ⟨s1, es1, h⟩ := bind_some h
  refine R_pI DX9_rope_2 fl_RX9_92 es1 ?_
  refine R_aload DX9_rope_5 0 rfl ?_
  refine R_iload DX9_rope_6 1 rfl ?_
  refine R_iload DX9_rope_7 2 rfl ?_
  obtain ⟨r2, er2, h⟩ := bind_some h
  refine R_cV1 [.int x1, .int x2] DX9_rope_8 kzvX9_areTwo ml_RX9_401 ⟨Nat.le_of_ble_eq_true rfl, Nat.le_of_ble_eq_true rfl⟩ rfl (Nat.le_of_ble_eq_true rfl) (kX9_areTwo er2) ?_
  by_cases c3 : r2.1 = 0
  · replace h := if_t h c3
    refine R_if_eq_t DX9_rope_11 c3 ?_
    refine R_constI DX9_rope_24 ci_m2 ?_
    cases h
    exact R_ireturn rfl DX9_rope_26
  · replace h := if_f h c3
    refine R_if_eq_f DX9_rope_11 c3 ?_
    refine R_aload DX9_rope_14 0 rfl ?_
    refine R_iload DX9_rope_15 1 rfl ?_
    refine R_iload DX9_rope_16 2 rfl ?_
    refine R_constI DX9_rope_17 ci_1 ?_
    obtain ⟨r4, er4, h⟩ := bind_some h
    refine R_cV1 [.int x1, .int x2, .int (iI 1)] DX9_rope_18 kzvX9_meetBy ml_RX9_516 ⟨Nat.le_of_ble_eq_true rfl, Nat.le_of_ble_eq_true rfl⟩ rfl (Nat.le_of_ble_eq_true rfl) (kX9_meetBy er4) ?_
    refine R_goto DX9_rope_21 ?_
    cases h
    exact R_ireturn rfl DX9_rope_26
set_option maxRecDepth 8000 in
theorem tX9_landsOf_l35 {G : Gm} {x0 : Nat} {o : Option Value × Hp} {a : Int32 × Int32 × Hp} {w : (Int32 × Int32 × Hp) ⊕ ((Int32 × Hp))} (h : fX9_landsOf_l35 x0 a = some w) (hc : ∀ (q3 : Int32) (q4 : Int32) (qs : Hp), w = .inl (q3, q4, qs) → R G MX9_landsOf 35 [(0, .ref x0), (3, .int q3), (4, .int q4)] [] qs o) (he0 : ∀ (q3 : Int32) (qs : Hp), w = .inr (q3, qs) → R G MX9_landsOf 71 [(0, .ref x0), (3, .int q3)] [] qs o) : R G MX9_landsOf 35 [(0, .ref x0), (3, .int a.1), (4, .int a.2.1)] [] a.2.2 o := by
  unfold fX9_landsOf_l35 at h
  refine R_iload DX9_landsOf_35 1 rfl ?_
  by_cases c7 : a.1 ≤ 0
  · replace h := if_t h c7
    refine R_if_le_t DX9_landsOf_36 c7 ?_
    refine R.sub (L' := [(0, .ref x0), (3, .int a.1)]) [0, 1] rfl ?_
    cases h
    exact he0 _ _ rfl
  · replace h := if_f h c7
    refine R_if_le_f DX9_landsOf_36 c7 ?_
    refine R_iload DX9_landsOf_39 2 rfl ?_
    refine R_aload DX9_landsOf_41 0 rfl ?_
    obtain ⟨v8, ev8, h⟩ := bind_some h
    refine R_gR DX9_landsOf_42 fl_RX9_34 ev8 ?_
    refine R_constI DX9_landsOf_45 ci_3 ?_
    obtain ⟨v9, ev9, h⟩ := bind_some h
    refine R_aI DX9_landsOf_46 ev9 ?_
    by_cases c10 : v9 ≤ a.2.1
    · replace h := if_t h c10
      refine R_icmp_ge_t DX9_landsOf_47 c10 ?_
      refine R.sub (L' := [(0, .ref x0), (3, .int a.1)]) [0, 1] rfl ?_
      cases h
      exact he0 _ _ rfl
    · replace h := if_f h c10
      refine R_icmp_ge_f DX9_landsOf_47 c10 ?_
      refine R_aload DX9_landsOf_50 0 rfl ?_
      refine R_aload DX9_landsOf_51 0 rfl ?_
      refine R_iload DX9_landsOf_52 1 rfl ?_
      refine R_iload DX9_landsOf_53 2 rfl ?_
      obtain ⟨r11, er11, h⟩ := bind_some h
      refine R_cV1 [.int a.1, .int a.2.1] DX9_landsOf_55 kzvX9_windOf ml_RX9_308 ⟨Nat.le_of_ble_eq_true rfl, Nat.le_of_ble_eq_true rfl⟩ rfl (Nat.le_of_ble_eq_true rfl) (kX9_windOf er11) ?_
      obtain ⟨r12, er12, h⟩ := bind_some h
      refine R_cV1 [.int r11.1] DX9_landsOf_58 kzvX9_carries ml_RX9_361 ⟨Nat.le_of_ble_eq_true rfl, Nat.le_of_ble_eq_true rfl⟩ rfl (Nat.le_of_ble_eq_true rfl) (kX9_carries er12) ?_
      refine R_pop DX9_landsOf_61 rfl ?_
      refine R_iinc [(3, .int (a.1 + iI (-1))), (0, .ref x0), (4, .int a.2.1)] DX9_landsOf_62 1 rfl (v := a.1 + iI (-1)) (by rfl) (by decide) rfl ?_
      refine R_iinc [(4, .int (a.2.1 + iI 1)), (3, .int (a.1 + iI (-1))), (0, .ref x0)] DX9_landsOf_65 2 rfl (v := a.2.1 + iI 1) (by rfl) (by decide) rfl ?_
      refine R_goto DX9_landsOf_68 ?_
      refine R.sub (L' := [(0, .ref x0), (3, .int (a.1 + iI (-1))), (4, .int (a.2.1 + iI 1))]) [2, 1, 0] rfl ?_
      cases h
      exact hc _ _ _ rfl
set_option maxRecDepth 8000 in
theorem tX9_landsOf_b71 {G : Gm} {x0 : Nat} {x3 : Int32} {s : Hp} {w : Int32 × Hp} (h : fX9_landsOf_b71 x0 x3 s = some w) : R G MX9_landsOf 71 [(0, .ref x0), (3, .int x3)] [] s (some (.int w.1), w.2) := by
  unfold fX9_landsOf_b71 at h
  refine R_iload DX9_landsOf_71 1 rfl ?_
  by_cases c14 : x3 ≤ 0
  · replace h := if_t h c14
    refine R_if_le_t DX9_landsOf_72 c14 ?_
    refine R_constI DX9_landsOf_79 ci_100 ?_
    refine R_aload DX9_landsOf_81 0 rfl ?_
    obtain ⟨v15, ev15, h⟩ := bind_some h
    refine R_gI DX9_landsOf_82 fl_RX9_325 ev15 ?_
    refine R_imul DX9_landsOf_85 ?_
    refine R_aload DX9_landsOf_86 0 rfl ?_
    obtain ⟨v16, ev16, h⟩ := bind_some h
    refine R_gI DX9_landsOf_87 fl_RX9_328 ev16 ?_
    refine R_iadd DX9_landsOf_90 ?_
    cases h
    exact R_ireturn rfl DX9_landsOf_91
  · replace h := if_f h c14
    refine R_if_le_f DX9_landsOf_72 c14 ?_
    refine R_constI DX9_landsOf_75 ci_m1 ?_
    refine R_goto DX9_landsOf_76 ?_
    cases h
    exact R_ireturn rfl DX9_landsOf_91
set_option maxRecDepth 8000 in
theorem kX9_landsOf {G : Gm} {x0 : Nat} {x1 : Int32} {x2 : Int32} {s : Hp} {w : Int32 × Hp} (h : fX9_landsOf x0 x1 x2 s = some w) : (s.2.2 x0).1 = 9 ∧ Call G MX9_landsOf [.ref x0, .int x1, .int x2] s (some (.int w.1), w.2) := by
  unfold fX9_landsOf at h
  obtain ⟨_, e0, h⟩ := bind_some h
  refine ⟨ck_some e0, Call.of_R pnRX9 (Nat.le_of_ble_eq_true rfl) ?_⟩
  clear e0
  show R G MX9_landsOf 0 [(0, .ref x0), (1, .int x1), (2, .int x2)] [] s (some (.int w.1), w.2)
  refine R_aload DX9_landsOf_0 0 rfl ?_
  refine R_aload DX9_landsOf_1 0 rfl ?_
  refine R_iload DX9_landsOf_2 1 rfl ?_
  refine R_iload DX9_landsOf_3 2 rfl ?_
  refine R_constI DX9_landsOf_4 ci_0 ?_
  obtain ⟨r1, er1, h⟩ := bind_some h
  refine R_cV1 [.int x1, .int x2, .int (iI 0)] DX9_landsOf_5 kzvX9_spotOf ml_RX9_394 ⟨Nat.le_of_ble_eq_true rfl, Nat.le_of_ble_eq_true rfl⟩ rfl (Nat.le_of_ble_eq_true rfl) (kX9_spotOf er1) ?_
  obtain ⟨s2, es2, h⟩ := bind_some h
  refine R_pI DX9_landsOf_8 fl_RX9_325 es2 ?_
  refine R_aload DX9_landsOf_11 0 rfl ?_
  refine R_aload DX9_landsOf_12 0 rfl ?_
  refine R_iload DX9_landsOf_13 1 rfl ?_
  refine R_iload DX9_landsOf_14 2 rfl ?_
  refine R_constI DX9_landsOf_15 ci_1 ?_
  obtain ⟨r3, er3, h⟩ := bind_some h
  refine R_cV1 [.int x1, .int x2, .int (iI 1)] DX9_landsOf_16 kzvX9_spotOf ml_RX9_394 ⟨Nat.le_of_ble_eq_true rfl, Nat.le_of_ble_eq_true rfl⟩ rfl (Nat.le_of_ble_eq_true rfl) (kX9_spotOf er3) ?_
  obtain ⟨s4, es4, h⟩ := bind_some h
  refine R_pI DX9_landsOf_19 fl_RX9_328 es4 ?_
  refine R_aload DX9_landsOf_22 0 rfl ?_
  refine R_iload DX9_landsOf_23 1 rfl ?_
  refine R_iload DX9_landsOf_24 2 rfl ?_
  refine R_constI DX9_landsOf_25 ci_2 ?_
  obtain ⟨r5, er5, h⟩ := bind_some h
  refine R_cV1 [.int x1, .int x2, .int (iI 2)] DX9_landsOf_26 kzvX9_spotOf ml_RX9_394 ⟨Nat.le_of_ble_eq_true rfl, Nat.le_of_ble_eq_true rfl⟩ rfl (Nat.le_of_ble_eq_true rfl) (kX9_spotOf er5) ?_
  refine R_istore [(3, .int r5.1), (0, .ref x0), (1, .int x1), (2, .int x2)] DX9_landsOf_29 (by decide) rfl ?_
  refine R_iload DX9_landsOf_30 3 rfl ?_
  refine R_constI DX9_landsOf_31 ci_1 ?_
  refine R_iadd DX9_landsOf_32 ?_
  obtain ⟨z6, ez6, h⟩ := lt_some h
  refine R_istoreE ez6 [(4, .int z6), (3, .int r5.1), (0, .ref x0), (1, .int x1), (2, .int x2)] DX9_landsOf_33 (by decide) rfl ?_
  refine R.sub (L' := [(0, .ref x0), (3, .int r5.1), (4, .int z6)]) [2, 1, 0] rfl ?_
  obtain ⟨r13, hi, h⟩ := bind_some h
  have hE : (fun u35 : Int32 × Hp => R G MX9_landsOf 71 [(0, .ref x0), (3, .int u35.1)] [] u35.2 (some (.int w.1), w.2)) r13 → ∀ (q3 : Int32) (q4 : Int32) (qs : Hp), iter (fX9_landsOf_l35 x0) FU (q3, q4, qs) = some r13 → R G MX9_landsOf 35 [(0, .ref x0), (3, .int q3), (4, .int q4)] [] qs (some (.int w.1), w.2) := fun hX q3 q4 qs hj => loop_R (fX9_landsOf_l35 x0) (fun p35 : Int32 × Int32 × Hp => R G MX9_landsOf 35 [(0, .ref x0), (3, .int p35.1), (4, .int p35.2.1)] [] p35.2.2 (some (.int w.1), w.2)) (fun u35 : Int32 × Hp => R G MX9_landsOf 71 [(0, .ref x0), (3, .int u35.1)] [] u35.2 (some (.int w.1), w.2)) (fun a w hw hc he => tX9_landsOf_l35 hw (fun q3 q4 qs e => hc (q3, q4, qs) e) (fun q3 qs e => he (q3, qs) e)) FU (q3, q4, qs) r13 hj hX
  refine hE ?_ _ _ _ hi
  clear hE hi
  exact tX9_landsOf_b71 h
set_option maxRecDepth 8000 in
theorem tX9_lands_b22 {G : Gm} {s : Hp} {w : Int32 × Hp} (h : fX9_lands_b22 s = some w) : R G MX9_lands 22 [] [] s (some (.int w.1), w.2) := by
  unfold fX9_lands_b22 at h
  refine R_constI DX9_lands_22 ci_m2 ?_
  cases h
  exact R_ireturn rfl DX9_lands_24
set_option maxRecDepth 8000 in
theorem kX9_lands {G : Gm} {x0 : Nat} {x1 : Int32} {x2 : Int32} {s : Hp} {w : Int32 × Hp} (h : fX9_lands x0 x1 x2 s = some w) : (s.2.2 x0).1 = 9 ∧ Call G MX9_lands [.ref x0, .int x1, .int x2] s (some (.int w.1), w.2) := by
  unfold fX9_lands at h
  obtain ⟨_, e0, h⟩ := bind_some h
  refine ⟨ck_some e0, Call.of_R pnRX9 (Nat.le_of_ble_eq_true rfl) ?_⟩
  clear e0
  show R G MX9_lands 0 [(0, .ref x0), (1, .int x1), (2, .int x2)] [] s (some (.int w.1), w.2)
  refine R_aload DX9_lands_0 0 rfl ?_
  refine R_constI DX9_lands_1 ci_0 ?_
  obtain ⟨s1, es1, h⟩ := bind_some h
  refine R_pI DX9_lands_2 fl_RX9_92 es1 ?_
  refine R_aload DX9_lands_5 0 rfl ?_
  refine R_iload DX9_lands_6 1 rfl ?_
  obtain ⟨r2, er2, h⟩ := bind_some h
  refine R_cV1 [.int x1] DX9_lands_7 kzvX9_isShop ml_RX9_314 ⟨Nat.le_of_ble_eq_true rfl, Nat.le_of_ble_eq_true rfl⟩ rfl (Nat.le_of_ble_eq_true rfl) (kX9_isShop er2) ?_
  by_cases c3 : r2.1 = 0
  · replace h := if_t h c3
    refine R_if_eq_t DX9_lands_10 c3 ?_
    refine R.sub (L' := []) [] rfl ?_
    exact tX9_lands_b22 h
  · replace h := if_f h c3
    refine R_if_eq_f DX9_lands_10 c3 ?_
    refine R_aload DX9_lands_13 0 rfl ?_
    refine R_iload DX9_lands_14 2 rfl ?_
    refine R_i2l DX9_lands_15 ?_
    obtain ⟨r4, er4, h⟩ := bind_some h
    refine R_cV1 [.long (Int32.toInt64 x2)] DX9_lands_16 kzvX9_isHour ml_RX9_305 ⟨Nat.le_of_ble_eq_true rfl, Nat.le_of_ble_eq_true rfl⟩ rfl (Nat.le_of_ble_eq_true rfl) (kX9_isHour er4) ?_
    by_cases c5 : r4.1 = 0
    · replace h := if_t h c5
      refine R_if_ne_f DX9_lands_19 c5 ?_
      refine R.sub (L' := []) [] rfl ?_
      exact tX9_lands_b22 h
    · replace h := if_f h c5
      refine R_if_ne_t DX9_lands_19 c5 ?_
      refine R_aload DX9_lands_25 0 rfl ?_
      obtain ⟨s6, es6, h⟩ := bind_some h
      refine R_cV0 [] DX9_lands_26 kzvX9_asTold ml_RX9_389 ⟨Nat.le_of_ble_eq_true rfl, Nat.le_of_ble_eq_true rfl⟩ rfl (Nat.le_of_ble_eq_true rfl) (kX9_asTold es6) ?_
      refine R_aload DX9_lands_29 0 rfl ?_
      refine R_iload DX9_lands_30 1 rfl ?_
      refine R_iload DX9_lands_31 2 rfl ?_
      obtain ⟨r7, er7, h⟩ := bind_some h
      refine R_cV1 [.int x1, .int x2] DX9_lands_32 kzvX9_landsOf ml_RX9_519 ⟨Nat.le_of_ble_eq_true rfl, Nat.le_of_ble_eq_true rfl⟩ rfl (Nat.le_of_ble_eq_true rfl) (kX9_landsOf er7) ?_
      cases h
      exact R_ireturn rfl DX9_lands_35
set_option maxRecDepth 8000 in
theorem tX9_isDropped_b24 {G : Gm} {s : Hp} {w : Int32 × Hp} (h : fX9_isDropped_b24 s = some w) : R G MX9_isDropped 24 [] [] s (some (.int w.1), w.2) := by
  unfold fX9_isDropped_b24 at h
  refine R_constI DX9_isDropped_24 ci_0 ?_
  cases h
  exact R_zreturn rfl DX9_isDropped_25 (by decide)
set_option maxRecDepth 8000 in
theorem kX9_isDropped {G : Gm} {x0 : Nat} {x1 : Int32} {x2 : Int32} {x3 : Int32} {s : Hp} {w : Int32 × Hp} (h : fX9_isDropped x0 x1 x2 x3 s = some w) : (s.2.2 x0).1 = 9 ∧ Call G MX9_isDropped [.ref x0, .int x1, .int x2, .int x3] s (some (.int w.1), w.2) := by
  unfold fX9_isDropped at h
  obtain ⟨_, e0, h⟩ := bind_some h
  refine ⟨ck_some e0, Call.of_R pnRX9 (Nat.le_of_ble_eq_true rfl) ?_⟩
  clear e0
  show R G MX9_isDropped 0 [(0, .ref x0), (1, .int x1), (2, .int x2), (3, .int x3)] [] s (some (.int w.1), w.2)
  refine R_aload DX9_isDropped_0 0 rfl ?_
  refine R_iload DX9_isDropped_1 1 rfl ?_
  refine R_iload DX9_isDropped_2 2 rfl ?_
  refine R_constI DX9_isDropped_3 ci_2 ?_
  obtain ⟨r1, er1, h⟩ := bind_some h
  refine R_cV1 [.int x1, .int x2, .int (iI 2)] DX9_isDropped_4 kzvX9_spotOf ml_RX9_394 ⟨Nat.le_of_ble_eq_true rfl, Nat.le_of_ble_eq_true rfl⟩ rfl (Nat.le_of_ble_eq_true rfl) (kX9_spotOf er1) ?_
  by_cases c2 : r1.1 ≤ 0
  · replace h := if_t h c2
    refine R_if_le_t DX9_isDropped_7 c2 ?_
    refine R.sub (L' := []) [] rfl ?_
    exact tX9_isDropped_b24 h
  · replace h := if_f h c2
    refine R_if_le_f DX9_isDropped_7 c2 ?_
    refine R_aload DX9_isDropped_10 0 rfl ?_
    refine R_iload DX9_isDropped_11 1 rfl ?_
    refine R_iload DX9_isDropped_12 2 rfl ?_
    obtain ⟨r3, er3, h⟩ := bind_some h
    refine R_cV1 [.int x1, .int x2] DX9_isDropped_13 kzvX9_landsOf ml_RX9_519 ⟨Nat.le_of_ble_eq_true rfl, Nat.le_of_ble_eq_true rfl⟩ rfl (Nat.le_of_ble_eq_true rfl) (kX9_landsOf er3) ?_
    refine R_iload DX9_isDropped_16 3 rfl ?_
    by_cases c4 : r3.1 = x3
    · replace h := if_t h c4
      refine R_icmp_ne_f DX9_isDropped_17 c4 ?_
      refine R_constI DX9_isDropped_20 ci_1 ?_
      refine R_goto DX9_isDropped_21 ?_
      cases h
      exact R_zreturn rfl DX9_isDropped_25 (by decide)
    · replace h := if_f h c4
      refine R_icmp_ne_t DX9_isDropped_17 c4 ?_
      refine R.sub (L' := []) [] rfl ?_
      exact tX9_isDropped_b24 h
set_option maxRecDepth 8000 in
theorem tX9_who_b77 {G : Gm} {x0 : Nat} {x1 : Int32} {x2 : Int32} {x4 : Int32} {x5 : Int32} {y0 : Int32} {y1 : Int32} {s : Hp} {o : Option Value × Hp} {w : (Int32 × Int32 × Hp) ⊕ ((Int32 × Hp))} (h : fX9_who_b77 x0 x1 x2 x4 x5 y0 y1 s = some w) (hc : ∀ (q3 : Int32) (q5 : Int32) (qs : Hp), w = .inl (q3, q5, qs) → R G MX9_who 43 [(0, .ref x0), (1, .int x1), (2, .int x2), (3, .int q3), (4, .int x4), (5, .int q5)] [] qs o) (he0 : ∀ (q3 : Int32) (qs : Hp), w = .inr (q3, qs) → R G MX9_who 85 [(0, .ref x0), (1, .int x1), (2, .int x2), (3, .int q3), (4, .int x4)] [] qs o) : R G MX9_who 77 [(0, .ref x0), (1, .int x1), (2, .int x2), (4, .int x4), (5, .int x5)] [.int y1, .int y0] s o := by
  unfold fX9_who_b77 at h
  refine R_iadd DX9_who_77 ?_
  obtain ⟨z13, ez13, h⟩ := lt_some h
  refine R_istoreE ez13 [(3, .int z13), (0, .ref x0), (1, .int x1), (2, .int x2), (4, .int x4), (5, .int x5)] DX9_who_78 (by decide) rfl ?_
  refine R_iinc [(5, .int (x5 + iI 1)), (3, .int z13), (0, .ref x0), (1, .int x1), (2, .int x2), (4, .int x4)] DX9_who_79 5 rfl (v := x5 + iI 1) (by rfl) (by decide) rfl ?_
  refine R_goto DX9_who_82 ?_
  refine R.sub (L' := [(0, .ref x0), (1, .int x1), (2, .int x2), (3, .int z13), (4, .int x4), (5, .int (x5 + iI 1))]) [2, 3, 4, 1, 5, 0] rfl ?_
  cases h
  exact hc _ _ _ rfl
set_option maxRecDepth 8000 in
theorem tX9_who_l43 {G : Gm} {x0 : Nat} {x1 : Int32} {x2 : Int32} {x4 : Int32} {o : Option Value × Hp} {a : Int32 × Int32 × Hp} {w : (Int32 × Int32 × Hp) ⊕ ((Int32 × Hp))} (h : fX9_who_l43 x0 x1 x2 x4 a = some w) (hc : ∀ (q3 : Int32) (q5 : Int32) (qs : Hp), w = .inl (q3, q5, qs) → R G MX9_who 43 [(0, .ref x0), (1, .int x1), (2, .int x2), (3, .int q3), (4, .int x4), (5, .int q5)] [] qs o) (he0 : ∀ (q3 : Int32) (qs : Hp), w = .inr (q3, qs) → R G MX9_who 85 [(0, .ref x0), (1, .int x1), (2, .int x2), (3, .int q3), (4, .int x4)] [] qs o) : R G MX9_who 43 [(0, .ref x0), (1, .int x1), (2, .int x2), (3, .int a.1), (4, .int x4), (5, .int a.2.1)] [] a.2.2 o := by
  unfold fX9_who_l43 at h
  refine R_iload DX9_who_43 5 rfl ?_
  refine R_aload DX9_who_45 0 rfl ?_
  obtain ⟨v8, ev8, h⟩ := bind_some h
  refine R_gR DX9_who_46 fl_RX9_34 ev8 ?_
  refine R_constI DX9_who_49 ci_3 ?_
  obtain ⟨v9, ev9, h⟩ := bind_some h
  refine R_aI DX9_who_50 ev9 ?_
  by_cases c10 : v9 ≤ a.2.1
  · replace h := if_t h c10
    refine R_icmp_ge_t DX9_who_51 c10 ?_
    refine R.sub (L' := [(0, .ref x0), (1, .int x1), (2, .int x2), (3, .int a.1), (4, .int x4)]) [0, 1, 2, 3, 4] rfl ?_
    cases h
    exact he0 _ _ rfl
  · replace h := if_f h c10
    refine R_icmp_ge_f DX9_who_51 c10 ?_
    refine R_iload DX9_who_54 3 rfl ?_
    refine R_aload DX9_who_55 0 rfl ?_
    refine R_iload DX9_who_56 4 rfl ?_
    refine R_iload DX9_who_58 5 rfl ?_
    refine R_constI DX9_who_60 ci_100 ?_
    refine R_iload DX9_who_62 1 rfl ?_
    refine R_imul DX9_who_63 ?_
    refine R_iload DX9_who_64 2 rfl ?_
    refine R_iadd DX9_who_65 ?_
    obtain ⟨r11, er11, h⟩ := bind_some h
    refine R_cV1 [.int x4, .int a.2.1, .int (((iI 100) * x1) + x2)] DX9_who_66 kzvX9_isDropped ml_RX9_522 ⟨Nat.le_of_ble_eq_true rfl, Nat.le_of_ble_eq_true rfl⟩ rfl (Nat.le_of_ble_eq_true rfl) (kX9_isDropped er11) ?_
    by_cases c12 : r11.1 = 0
    · replace h := if_t h c12
      refine R_if_eq_t DX9_who_69 c12 ?_
      refine R_constI DX9_who_76 ci_0 ?_
      refine R.sub (L' := [(0, .ref x0), (1, .int x1), (2, .int x2), (4, .int x4), (5, .int a.2.1)]) [0, 1, 2, 4, 5] rfl ?_
      exact tX9_who_b77 h hc he0
    · replace h := if_f h c12
      refine R_if_eq_f DX9_who_69 c12 ?_
      refine R_constI DX9_who_72 ci_1 ?_
      refine R_goto DX9_who_73 ?_
      refine R.sub (L' := [(0, .ref x0), (1, .int x1), (2, .int x2), (4, .int x4), (5, .int a.2.1)]) [0, 1, 2, 4, 5] rfl ?_
      exact tX9_who_b77 h hc he0
set_option maxRecDepth 8000 in
theorem tX9_who_l28 {G : Gm} {x0 : Nat} {x1 : Int32} {x2 : Int32} {o : Option Value × Hp} {a : Int32 × Int32 × Hp} {w : (Int32 × Int32 × Hp) ⊕ ((Int32 × Hp))} (h : fX9_who_l28 x0 x1 x2 a = some w) (hc : ∀ (q3 : Int32) (q4 : Int32) (qs : Hp), w = .inl (q3, q4, qs) → R G MX9_who 28 [(0, .ref x0), (1, .int x1), (2, .int x2), (3, .int q3), (4, .int q4)] [] qs o) (he0 : ∀ (q3 : Int32) (qs : Hp), w = .inr (q3, qs) → R G MX9_who 91 [(3, .int q3)] [] qs o) : R G MX9_who 28 [(0, .ref x0), (1, .int x1), (2, .int x2), (3, .int a.1), (4, .int a.2.1)] [] a.2.2 o := by
  unfold fX9_who_l28 at h
  refine R_iload DX9_who_28 4 rfl ?_
  refine R_aload DX9_who_30 0 rfl ?_
  obtain ⟨v5, ev5, h⟩ := bind_some h
  refine R_gR DX9_who_31 fl_RX9_34 ev5 ?_
  refine R_constI DX9_who_34 ci_7 ?_
  obtain ⟨v6, ev6, h⟩ := bind_some h
  refine R_aI DX9_who_36 ev6 ?_
  by_cases c7 : v6 ≤ a.2.1
  · replace h := if_t h c7
    refine R_icmp_ge_t DX9_who_37 c7 ?_
    refine R.sub (L' := [(3, .int a.1)]) [3] rfl ?_
    cases h
    exact he0 _ _ rfl
  · replace h := if_f h c7
    refine R_icmp_ge_f DX9_who_37 c7 ?_
    refine R_constI DX9_who_40 ci_0 ?_
    refine R_istore [(5, .int (iI 0)), (0, .ref x0), (1, .int x1), (2, .int x2), (3, .int a.1), (4, .int a.2.1)] DX9_who_41 (by decide) rfl ?_
    refine R.sub (L' := [(0, .ref x0), (1, .int x1), (2, .int x2), (3, .int a.1), (4, .int a.2.1), (5, .int (iI 0))]) [1, 2, 3, 4, 5, 0] rfl ?_
    obtain ⟨r14, hi, h⟩ := bind_some h
    have hE : (fun u43 : Int32 × Hp => R G MX9_who 85 [(0, .ref x0), (1, .int x1), (2, .int x2), (3, .int u43.1), (4, .int a.2.1)] [] u43.2 o) r14 → ∀ (q3 : Int32) (q5 : Int32) (qs : Hp), iter (fX9_who_l43 x0 x1 x2 a.2.1) FU (q3, q5, qs) = some r14 → R G MX9_who 43 [(0, .ref x0), (1, .int x1), (2, .int x2), (3, .int q3), (4, .int a.2.1), (5, .int q5)] [] qs o := fun hX q3 q5 qs hj => loop_R (fX9_who_l43 x0 x1 x2 a.2.1) (fun p43 : Int32 × Int32 × Hp => R G MX9_who 43 [(0, .ref x0), (1, .int x1), (2, .int x2), (3, .int p43.1), (4, .int a.2.1), (5, .int p43.2.1)] [] p43.2.2 o) (fun u43 : Int32 × Hp => R G MX9_who 85 [(0, .ref x0), (1, .int x1), (2, .int x2), (3, .int u43.1), (4, .int a.2.1)] [] u43.2 o) (fun a w hw hc he => tX9_who_l43 hw (fun q3 q5 qs e => hc (q3, q5, qs) e) (fun q3 qs e => he (q3, qs) e)) FU (q3, q5, qs) r14 hj hX
    refine hE ?_ _ _ _ hi
    clear hE hi
    refine R_iinc [(4, .int (a.2.1 + iI 1)), (0, .ref x0), (1, .int x1), (2, .int x2), (3, .int r14.1)] DX9_who_85 4 rfl (v := a.2.1 + iI 1) (by rfl) (by decide) rfl ?_
    refine R_goto DX9_who_88 ?_
    refine R.sub (L' := [(0, .ref x0), (1, .int x1), (2, .int x2), (3, .int r14.1), (4, .int (a.2.1 + iI 1))]) [1, 2, 3, 4, 0] rfl ?_
    cases h
    exact hc _ _ _ rfl
set_option maxRecDepth 8000 in
theorem kX9_who {G : Gm} {x0 : Nat} {x1 : Int32} {x2 : Int32} {s : Hp} {w : Int32 × Hp} (h : fX9_who x0 x1 x2 s = some w) : (s.2.2 x0).1 = 9 ∧ Call G MX9_who [.ref x0, .int x1, .int x2] s (some (.int w.1), w.2) := by
  unfold fX9_who at h
  obtain ⟨_, e0, h⟩ := bind_some h
  refine ⟨ck_some e0, Call.of_R pnRX9 (Nat.le_of_ble_eq_true rfl) ?_⟩
  clear e0
  show R G MX9_who 0 [(0, .ref x0), (1, .int x1), (2, .int x2)] [] s (some (.int w.1), w.2)
  refine R_aload DX9_who_0 0 rfl ?_
  refine R_constI DX9_who_1 ci_0 ?_
  obtain ⟨s1, es1, h⟩ := bind_some h
  refine R_pI DX9_who_2 fl_RX9_92 es1 ?_
  refine R_aload DX9_who_5 0 rfl ?_
  refine R_iload DX9_who_6 1 rfl ?_
  refine R_i2l DX9_who_7 ?_
  refine R_iload DX9_who_8 2 rfl ?_
  refine R_i2l DX9_who_9 ?_
  obtain ⟨r2, er2, h⟩ := bind_some h
  refine R_cV1 [.long (Int32.toInt64 x1), .long (Int32.toInt64 x2)] DX9_who_10 kzvX9_isColumn ml_RX9_331 ⟨Nat.le_of_ble_eq_true rfl, Nat.le_of_ble_eq_true rfl⟩ rfl (Nat.le_of_ble_eq_true rfl) (kX9_isColumn er2) ?_
  by_cases c3 : r2.1 = 0
  · replace h := if_t h c3
    refine R_if_ne_f DX9_who_13 c3 ?_
    refine R_constI DX9_who_16 ci_m2 ?_
    cases h
    exact R_ireturn rfl DX9_who_18
  · replace h := if_f h c3
    refine R_if_ne_t DX9_who_13 c3 ?_
    refine R_aload DX9_who_19 0 rfl ?_
    obtain ⟨s4, es4, h⟩ := bind_some h
    refine R_cV0 [] DX9_who_20 kzvX9_asTold ml_RX9_389 ⟨Nat.le_of_ble_eq_true rfl, Nat.le_of_ble_eq_true rfl⟩ rfl (Nat.le_of_ble_eq_true rfl) (kX9_asTold es4) ?_
    refine R_constI DX9_who_23 ci_0 ?_
    refine R_istore [(3, .int (iI 0)), (0, .ref x0), (1, .int x1), (2, .int x2)] DX9_who_24 (by decide) rfl ?_
    refine R_constI DX9_who_25 ci_0 ?_
    refine R_istore [(4, .int (iI 0)), (3, .int (iI 0)), (0, .ref x0), (1, .int x1), (2, .int x2)] DX9_who_26 (by decide) rfl ?_
    refine R.sub (L' := [(0, .ref x0), (1, .int x1), (2, .int x2), (3, .int (iI 0)), (4, .int (iI 0))]) [2, 3, 4, 1, 0] rfl ?_
    obtain ⟨r15, hi, h⟩ := bind_some h
    have hE : (fun u28 : Int32 × Hp => R G MX9_who 91 [(3, .int u28.1)] [] u28.2 (some (.int w.1), w.2)) r15 → ∀ (q3 : Int32) (q4 : Int32) (qs : Hp), iter (fX9_who_l28 x0 x1 x2) FU (q3, q4, qs) = some r15 → R G MX9_who 28 [(0, .ref x0), (1, .int x1), (2, .int x2), (3, .int q3), (4, .int q4)] [] qs (some (.int w.1), w.2) := fun hX q3 q4 qs hj => loop_R (fX9_who_l28 x0 x1 x2) (fun p28 : Int32 × Int32 × Hp => R G MX9_who 28 [(0, .ref x0), (1, .int x1), (2, .int x2), (3, .int p28.1), (4, .int p28.2.1)] [] p28.2.2 (some (.int w.1), w.2)) (fun u28 : Int32 × Hp => R G MX9_who 91 [(3, .int u28.1)] [] u28.2 (some (.int w.1), w.2)) (fun a w hw hc he => tX9_who_l28 hw (fun q3 q4 qs e => hc (q3, q4, qs) e) (fun q3 qs e => he (q3, qs) e)) FU (q3, q4, qs) r15 hj hX
    refine hE ?_ _ _ _ hi
    clear hE hi
    refine R_iload DX9_who_91 0 rfl ?_
    cases h
    exact R_ireturn rfl DX9_who_92
set_option maxRecDepth 8000 in
theorem tX9_first__l39 {G : Gm} {x0 : Nat} {x1 : Int32} {x2 : Int32} {x3 : Int32} {o : Option Value × Hp} {a : Int32 × Hp} {w : (Int32 × Hp) ⊕ ((Hp) ⊕ (Int32 × Hp))} (h : fX9_first__l39 x0 x1 x2 x3 a = some w) (hc : ∀ (q4 : Int32) (qs : Hp), w = .inl (q4, qs) → R G MX9_first_ 39 [(0, .ref x0), (1, .int x1), (2, .int x2), (3, .int x3), (4, .int q4)] [] qs o) (he0 : ∀ (qs : Hp), w = .inr (.inl qs) → R G MX9_first_ 80 [(0, .ref x0), (1, .int x1), (2, .int x2), (3, .int x3)] [] qs o) (he1 : ∀ (q4 : Int32) (qs : Hp), w = .inr (.inr (q4, qs)) → R G MX9_first_ 66 [(3, .int x3), (4, .int q4)] [] qs o) : R G MX9_first_ 39 [(0, .ref x0), (1, .int x1), (2, .int x2), (3, .int x3), (4, .int a.1)] [] a.2 o := by
  unfold fX9_first__l39 at h
  refine R_iload DX9_first__39 4 rfl ?_
  refine R_aload DX9_first__41 0 rfl ?_
  obtain ⟨v8, ev8, h⟩ := bind_some h
  refine R_gR DX9_first__42 fl_RX9_34 ev8 ?_
  refine R_constI DX9_first__45 ci_3 ?_
  obtain ⟨v9, ev9, h⟩ := bind_some h
  refine R_aI DX9_first__46 ev9 ?_
  by_cases c10 : v9 ≤ a.1
  · replace h := if_t h c10
    refine R_icmp_ge_t DX9_first__47 c10 ?_
    refine R.sub (L' := [(0, .ref x0), (1, .int x1), (2, .int x2), (3, .int x3)]) [0, 1, 2, 3] rfl ?_
    cases h
    exact he0 _ rfl
  · replace h := if_f h c10
    refine R_icmp_ge_f DX9_first__47 c10 ?_
    refine R_aload DX9_first__50 0 rfl ?_
    refine R_iload DX9_first__51 3 rfl ?_
    refine R_iload DX9_first__52 4 rfl ?_
    refine R_constI DX9_first__54 ci_100 ?_
    refine R_iload DX9_first__56 1 rfl ?_
    refine R_imul DX9_first__57 ?_
    refine R_iload DX9_first__58 2 rfl ?_
    refine R_iadd DX9_first__59 ?_
    obtain ⟨r11, er11, h⟩ := bind_some h
    refine R_cV1 [.int x3, .int a.1, .int (((iI 100) * x1) + x2)] DX9_first__60 kzvX9_isDropped ml_RX9_522 ⟨Nat.le_of_ble_eq_true rfl, Nat.le_of_ble_eq_true rfl⟩ rfl (Nat.le_of_ble_eq_true rfl) (kX9_isDropped er11) ?_
    by_cases c12 : r11.1 = 0
    · replace h := if_t h c12
      refine R_if_eq_t DX9_first__63 c12 ?_
      refine R_iinc [(4, .int (a.1 + iI 1)), (0, .ref x0), (1, .int x1), (2, .int x2), (3, .int x3)] DX9_first__74 4 rfl (v := a.1 + iI 1) (by rfl) (by decide) rfl ?_
      refine R_goto DX9_first__77 ?_
      refine R.sub (L' := [(0, .ref x0), (1, .int x1), (2, .int x2), (3, .int x3), (4, .int (a.1 + iI 1))]) [1, 2, 3, 4, 0] rfl ?_
      cases h
      exact hc _ _ rfl
    · replace h := if_f h c12
      refine R_if_eq_f DX9_first__63 c12 ?_
      refine R.sub (L' := [(3, .int x3), (4, .int a.1)]) [3, 4] rfl ?_
      cases h
      exact he1 _ _ rfl
set_option maxRecDepth 8000 in
theorem tX9_first__l25 {G : Gm} {x0 : Nat} {x1 : Int32} {x2 : Int32} {o : Option Value × Hp} {a : Int32 × Hp} {w : (Int32 × Hp) ⊕ ((Hp) ⊕ (Int32 × Int32 × Hp))} (h : fX9_first__l25 x0 x1 x2 a = some w) (hc : ∀ (q3 : Int32) (qs : Hp), w = .inl (q3, qs) → R G MX9_first_ 25 [(0, .ref x0), (1, .int x1), (2, .int x2), (3, .int q3)] [] qs o) (he0 : ∀ (qs : Hp), w = .inr (.inl qs) → R G MX9_first_ 86 [] [] qs o) (he1 : ∀ (q3 : Int32) (q4 : Int32) (qs : Hp), w = .inr (.inr (q3, q4, qs)) → R G MX9_first_ 66 [(3, .int q3), (4, .int q4)] [] qs o) : R G MX9_first_ 25 [(0, .ref x0), (1, .int x1), (2, .int x2), (3, .int a.1)] [] a.2 o := by
  unfold fX9_first__l25 at h
  refine R_iload DX9_first__25 3 rfl ?_
  refine R_aload DX9_first__26 0 rfl ?_
  obtain ⟨v5, ev5, h⟩ := bind_some h
  refine R_gR DX9_first__27 fl_RX9_34 ev5 ?_
  refine R_constI DX9_first__30 ci_7 ?_
  obtain ⟨v6, ev6, h⟩ := bind_some h
  refine R_aI DX9_first__32 ev6 ?_
  by_cases c7 : v6 ≤ a.1
  · replace h := if_t h c7
    refine R_icmp_ge_t DX9_first__33 c7 ?_
    refine R.sub (L' := []) [] rfl ?_
    cases h
    exact he0 _ rfl
  · replace h := if_f h c7
    refine R_icmp_ge_f DX9_first__33 c7 ?_
    refine R_constI DX9_first__36 ci_0 ?_
    refine R_istore [(4, .int (iI 0)), (0, .ref x0), (1, .int x1), (2, .int x2), (3, .int a.1)] DX9_first__37 (by decide) rfl ?_
    refine R.sub (L' := [(0, .ref x0), (1, .int x1), (2, .int x2), (3, .int a.1), (4, .int (iI 0))]) [1, 2, 3, 4, 0] rfl ?_
    obtain ⟨r13, hi, h⟩ := bind_some h
    have hE : (Sum.elim (fun u39 : Hp => R G MX9_first_ 80 [(0, .ref x0), (1, .int x1), (2, .int x2), (3, .int a.1)] [] u39 o) (fun u39 : Int32 × Hp => R G MX9_first_ 66 [(3, .int a.1), (4, .int u39.1)] [] u39.2 o)) r13 → ∀ (q4 : Int32) (qs : Hp), iter (fX9_first__l39 x0 x1 x2 a.1) FU (q4, qs) = some r13 → R G MX9_first_ 39 [(0, .ref x0), (1, .int x1), (2, .int x2), (3, .int a.1), (4, .int q4)] [] qs o := fun hX q4 qs hj => loop_R (fX9_first__l39 x0 x1 x2 a.1) (fun p39 : Int32 × Hp => R G MX9_first_ 39 [(0, .ref x0), (1, .int x1), (2, .int x2), (3, .int a.1), (4, .int p39.1)] [] p39.2 o) (Sum.elim (fun u39 : Hp => R G MX9_first_ 80 [(0, .ref x0), (1, .int x1), (2, .int x2), (3, .int a.1)] [] u39 o) (fun u39 : Int32 × Hp => R G MX9_first_ 66 [(3, .int a.1), (4, .int u39.1)] [] u39.2 o)) (fun a w hw hc he => tX9_first__l39 hw (fun q4 qs e => hc (q4, qs) e) (fun qs e => he (.inl qs) e) (fun q4 qs e => he (.inr (q4, qs)) e)) FU (q4, qs) r13 hj hX
    refine hE ?_ _ _ hi
    clear hE hi
    rcases r13 with r13a | r13b
    · replace h := el_l h
      refine R_iinc [(3, .int (a.1 + iI 1)), (0, .ref x0), (1, .int x1), (2, .int x2)] DX9_first__80 3 rfl (v := a.1 + iI 1) (by rfl) (by decide) rfl ?_
      refine R_goto DX9_first__83 ?_
      refine R.sub (L' := [(0, .ref x0), (1, .int x1), (2, .int x2), (3, .int (a.1 + iI 1))]) [1, 2, 3, 0] rfl ?_
      cases h
      exact hc _ _ rfl
    replace h := el_r h
    cases h
    exact he1 _ _ _ rfl
set_option maxRecDepth 8000 in
theorem kX9_first_ {G : Gm} {x0 : Nat} {x1 : Int32} {x2 : Int32} {s : Hp} {w : Int32 × Hp} (h : fX9_first_ x0 x1 x2 s = some w) : (s.2.2 x0).1 = 9 ∧ Call G MX9_first_ [.ref x0, .int x1, .int x2] s (some (.int w.1), w.2) := by
  unfold fX9_first_ at h
  obtain ⟨_, e0, h⟩ := bind_some h
  refine ⟨ck_some e0, Call.of_R pnRX9 (Nat.le_of_ble_eq_true rfl) ?_⟩
  clear e0
  show R G MX9_first_ 0 [(0, .ref x0), (1, .int x1), (2, .int x2)] [] s (some (.int w.1), w.2)
  refine R_aload DX9_first__0 0 rfl ?_
  refine R_constI DX9_first__1 ci_0 ?_
  obtain ⟨s1, es1, h⟩ := bind_some h
  refine R_pI DX9_first__2 fl_RX9_92 es1 ?_
  refine R_aload DX9_first__5 0 rfl ?_
  refine R_iload DX9_first__6 1 rfl ?_
  refine R_i2l DX9_first__7 ?_
  refine R_iload DX9_first__8 2 rfl ?_
  refine R_i2l DX9_first__9 ?_
  obtain ⟨r2, er2, h⟩ := bind_some h
  refine R_cV1 [.long (Int32.toInt64 x1), .long (Int32.toInt64 x2)] DX9_first__10 kzvX9_isColumn ml_RX9_331 ⟨Nat.le_of_ble_eq_true rfl, Nat.le_of_ble_eq_true rfl⟩ rfl (Nat.le_of_ble_eq_true rfl) (kX9_isColumn er2) ?_
  by_cases c3 : r2.1 = 0
  · replace h := if_t h c3
    refine R_if_ne_f DX9_first__13 c3 ?_
    refine R_constI DX9_first__16 ci_m2 ?_
    cases h
    exact R_ireturn rfl DX9_first__18
  · replace h := if_f h c3
    refine R_if_ne_t DX9_first__13 c3 ?_
    refine R_aload DX9_first__19 0 rfl ?_
    obtain ⟨s4, es4, h⟩ := bind_some h
    refine R_cV0 [] DX9_first__20 kzvX9_asTold ml_RX9_389 ⟨Nat.le_of_ble_eq_true rfl, Nat.le_of_ble_eq_true rfl⟩ rfl (Nat.le_of_ble_eq_true rfl) (kX9_asTold es4) ?_
    refine R_constI DX9_first__23 ci_0 ?_
    refine R_istore [(3, .int (iI 0)), (0, .ref x0), (1, .int x1), (2, .int x2)] DX9_first__24 (by decide) rfl ?_
    refine R.sub (L' := [(0, .ref x0), (1, .int x1), (2, .int x2), (3, .int (iI 0))]) [1, 2, 3, 0] rfl ?_
    obtain ⟨r14, hi, h⟩ := bind_some h
    have hE : (Sum.elim (fun u25 : Hp => R G MX9_first_ 86 [] [] u25 (some (.int w.1), w.2)) (fun u25 : Int32 × Int32 × Hp => R G MX9_first_ 66 [(3, .int u25.1), (4, .int u25.2.1)] [] u25.2.2 (some (.int w.1), w.2))) r14 → ∀ (q3 : Int32) (qs : Hp), iter (fX9_first__l25 x0 x1 x2) FU (q3, qs) = some r14 → R G MX9_first_ 25 [(0, .ref x0), (1, .int x1), (2, .int x2), (3, .int q3)] [] qs (some (.int w.1), w.2) := fun hX q3 qs hj => loop_R (fX9_first__l25 x0 x1 x2) (fun p25 : Int32 × Hp => R G MX9_first_ 25 [(0, .ref x0), (1, .int x1), (2, .int x2), (3, .int p25.1)] [] p25.2 (some (.int w.1), w.2)) (Sum.elim (fun u25 : Hp => R G MX9_first_ 86 [] [] u25 (some (.int w.1), w.2)) (fun u25 : Int32 × Int32 × Hp => R G MX9_first_ 66 [(3, .int u25.1), (4, .int u25.2.1)] [] u25.2.2 (some (.int w.1), w.2))) (fun a w hw hc he => tX9_first__l25 hw (fun q3 qs e => hc (q3, qs) e) (fun qs e => he (.inl qs) e) (fun q3 q4 qs e => he (.inr (q3, q4, qs)) e)) FU (q3, qs) r14 hj hX
    refine hE ?_ _ _ hi
    clear hE hi
    rcases r14 with r14a | r14b
    · replace h := el_l h
      refine R_constI DX9_first__86 ci_m1 ?_
      cases h
      exact R_ireturn rfl DX9_first__87
    replace h := el_r h
    refine R_constI DX9_first__66 ci_100 ?_
    refine R_iload DX9_first__68 0 rfl ?_
    refine R_imul DX9_first__69 ?_
    refine R_iload DX9_first__70 1 rfl ?_
    refine R_iadd DX9_first__72 ?_
    cases h
    exact R_ireturn rfl DX9_first__73
set_option maxRecDepth 8000 in
theorem tX9_suspects_b80 {G : Gm} {x0 : Nat} {x1 : Int32} {x2 : Int32} {x4 : Int32} {x5 : Int32} {y0 : Int32} {y1 : Int32} {s : Hp} {o : Option Value × Hp} {w : (Int32 × Int32 × Hp) ⊕ ((Int32 × Hp))} (h : fX9_suspects_b80 x0 x1 x2 x4 x5 y0 y1 s = some w) (hc : ∀ (q3 : Int32) (q5 : Int32) (qs : Hp), w = .inl (q3, q5, qs) → R G MX9_suspects 43 [(0, .ref x0), (1, .int x1), (2, .int x2), (3, .int q3), (4, .int x4), (5, .int q5)] [] qs o) (he0 : ∀ (q3 : Int32) (qs : Hp), w = .inr (q3, qs) → R G MX9_suspects 88 [(0, .ref x0), (1, .int x1), (2, .int x2), (3, .int q3), (4, .int x4)] [] qs o) : R G MX9_suspects 80 [(0, .ref x0), (1, .int x1), (2, .int x2), (4, .int x4), (5, .int x5)] [.int y1, .int y0] s o := by
  unfold fX9_suspects_b80 at h
  refine R_ior DX9_suspects_80 ?_
  obtain ⟨z13, ez13, h⟩ := lt_some h
  refine R_istoreE ez13 [(3, .int z13), (0, .ref x0), (1, .int x1), (2, .int x2), (4, .int x4), (5, .int x5)] DX9_suspects_81 (by decide) rfl ?_
  refine R_iinc [(5, .int (x5 + iI 1)), (3, .int z13), (0, .ref x0), (1, .int x1), (2, .int x2), (4, .int x4)] DX9_suspects_82 5 rfl (v := x5 + iI 1) (by rfl) (by decide) rfl ?_
  refine R_goto DX9_suspects_85 ?_
  refine R.sub (L' := [(0, .ref x0), (1, .int x1), (2, .int x2), (3, .int z13), (4, .int x4), (5, .int (x5 + iI 1))]) [2, 3, 4, 1, 5, 0] rfl ?_
  cases h
  exact hc _ _ _ rfl
set_option maxRecDepth 8000 in
theorem tX9_suspects_l43 {G : Gm} {x0 : Nat} {x1 : Int32} {x2 : Int32} {x4 : Int32} {o : Option Value × Hp} {a : Int32 × Int32 × Hp} {w : (Int32 × Int32 × Hp) ⊕ ((Int32 × Hp))} (h : fX9_suspects_l43 x0 x1 x2 x4 a = some w) (hc : ∀ (q3 : Int32) (q5 : Int32) (qs : Hp), w = .inl (q3, q5, qs) → R G MX9_suspects 43 [(0, .ref x0), (1, .int x1), (2, .int x2), (3, .int q3), (4, .int x4), (5, .int q5)] [] qs o) (he0 : ∀ (q3 : Int32) (qs : Hp), w = .inr (q3, qs) → R G MX9_suspects 88 [(0, .ref x0), (1, .int x1), (2, .int x2), (3, .int q3), (4, .int x4)] [] qs o) : R G MX9_suspects 43 [(0, .ref x0), (1, .int x1), (2, .int x2), (3, .int a.1), (4, .int x4), (5, .int a.2.1)] [] a.2.2 o := by
  unfold fX9_suspects_l43 at h
  refine R_iload DX9_suspects_43 5 rfl ?_
  refine R_aload DX9_suspects_45 0 rfl ?_
  obtain ⟨v8, ev8, h⟩ := bind_some h
  refine R_gR DX9_suspects_46 fl_RX9_34 ev8 ?_
  refine R_constI DX9_suspects_49 ci_3 ?_
  obtain ⟨v9, ev9, h⟩ := bind_some h
  refine R_aI DX9_suspects_50 ev9 ?_
  by_cases c10 : v9 ≤ a.2.1
  · replace h := if_t h c10
    refine R_icmp_ge_t DX9_suspects_51 c10 ?_
    refine R.sub (L' := [(0, .ref x0), (1, .int x1), (2, .int x2), (3, .int a.1), (4, .int x4)]) [0, 1, 2, 3, 4] rfl ?_
    cases h
    exact he0 _ _ rfl
  · replace h := if_f h c10
    refine R_icmp_ge_f DX9_suspects_51 c10 ?_
    refine R_iload DX9_suspects_54 3 rfl ?_
    refine R_aload DX9_suspects_55 0 rfl ?_
    refine R_iload DX9_suspects_56 4 rfl ?_
    refine R_iload DX9_suspects_58 5 rfl ?_
    refine R_constI DX9_suspects_60 ci_100 ?_
    refine R_iload DX9_suspects_62 1 rfl ?_
    refine R_imul DX9_suspects_63 ?_
    refine R_iload DX9_suspects_64 2 rfl ?_
    refine R_iadd DX9_suspects_65 ?_
    obtain ⟨r11, er11, h⟩ := bind_some h
    refine R_cV1 [.int x4, .int a.2.1, .int (((iI 100) * x1) + x2)] DX9_suspects_66 kzvX9_isDropped ml_RX9_522 ⟨Nat.le_of_ble_eq_true rfl, Nat.le_of_ble_eq_true rfl⟩ rfl (Nat.le_of_ble_eq_true rfl) (kX9_isDropped er11) ?_
    by_cases c12 : r11.1 = 0
    · replace h := if_t h c12
      refine R_if_eq_t DX9_suspects_69 c12 ?_
      refine R_constI DX9_suspects_79 ci_0 ?_
      refine R.sub (L' := [(0, .ref x0), (1, .int x1), (2, .int x2), (4, .int x4), (5, .int a.2.1)]) [0, 1, 2, 4, 5] rfl ?_
      exact tX9_suspects_b80 h hc he0
    · replace h := if_f h c12
      refine R_if_eq_f DX9_suspects_69 c12 ?_
      refine R_constI DX9_suspects_72 ci_1 ?_
      refine R_iload DX9_suspects_73 4 rfl ?_
      refine R_ishl DX9_suspects_75 ?_
      refine R_goto DX9_suspects_76 ?_
      refine R.sub (L' := [(0, .ref x0), (1, .int x1), (2, .int x2), (4, .int x4), (5, .int a.2.1)]) [0, 1, 2, 4, 5] rfl ?_
      exact tX9_suspects_b80 h hc he0
set_option maxRecDepth 8000 in
theorem tX9_suspects_l28 {G : Gm} {x0 : Nat} {x1 : Int32} {x2 : Int32} {o : Option Value × Hp} {a : Int32 × Int32 × Hp} {w : (Int32 × Int32 × Hp) ⊕ ((Int32 × Hp))} (h : fX9_suspects_l28 x0 x1 x2 a = some w) (hc : ∀ (q3 : Int32) (q4 : Int32) (qs : Hp), w = .inl (q3, q4, qs) → R G MX9_suspects 28 [(0, .ref x0), (1, .int x1), (2, .int x2), (3, .int q3), (4, .int q4)] [] qs o) (he0 : ∀ (q3 : Int32) (qs : Hp), w = .inr (q3, qs) → R G MX9_suspects 94 [(3, .int q3)] [] qs o) : R G MX9_suspects 28 [(0, .ref x0), (1, .int x1), (2, .int x2), (3, .int a.1), (4, .int a.2.1)] [] a.2.2 o := by
  unfold fX9_suspects_l28 at h
  refine R_iload DX9_suspects_28 4 rfl ?_
  refine R_aload DX9_suspects_30 0 rfl ?_
  obtain ⟨v5, ev5, h⟩ := bind_some h
  refine R_gR DX9_suspects_31 fl_RX9_34 ev5 ?_
  refine R_constI DX9_suspects_34 ci_7 ?_
  obtain ⟨v6, ev6, h⟩ := bind_some h
  refine R_aI DX9_suspects_36 ev6 ?_
  by_cases c7 : v6 ≤ a.2.1
  · replace h := if_t h c7
    refine R_icmp_ge_t DX9_suspects_37 c7 ?_
    refine R.sub (L' := [(3, .int a.1)]) [3] rfl ?_
    cases h
    exact he0 _ _ rfl
  · replace h := if_f h c7
    refine R_icmp_ge_f DX9_suspects_37 c7 ?_
    refine R_constI DX9_suspects_40 ci_0 ?_
    refine R_istore [(5, .int (iI 0)), (0, .ref x0), (1, .int x1), (2, .int x2), (3, .int a.1), (4, .int a.2.1)] DX9_suspects_41 (by decide) rfl ?_
    refine R.sub (L' := [(0, .ref x0), (1, .int x1), (2, .int x2), (3, .int a.1), (4, .int a.2.1), (5, .int (iI 0))]) [1, 2, 3, 4, 5, 0] rfl ?_
    obtain ⟨r14, hi, h⟩ := bind_some h
    have hE : (fun u43 : Int32 × Hp => R G MX9_suspects 88 [(0, .ref x0), (1, .int x1), (2, .int x2), (3, .int u43.1), (4, .int a.2.1)] [] u43.2 o) r14 → ∀ (q3 : Int32) (q5 : Int32) (qs : Hp), iter (fX9_suspects_l43 x0 x1 x2 a.2.1) FU (q3, q5, qs) = some r14 → R G MX9_suspects 43 [(0, .ref x0), (1, .int x1), (2, .int x2), (3, .int q3), (4, .int a.2.1), (5, .int q5)] [] qs o := fun hX q3 q5 qs hj => loop_R (fX9_suspects_l43 x0 x1 x2 a.2.1) (fun p43 : Int32 × Int32 × Hp => R G MX9_suspects 43 [(0, .ref x0), (1, .int x1), (2, .int x2), (3, .int p43.1), (4, .int a.2.1), (5, .int p43.2.1)] [] p43.2.2 o) (fun u43 : Int32 × Hp => R G MX9_suspects 88 [(0, .ref x0), (1, .int x1), (2, .int x2), (3, .int u43.1), (4, .int a.2.1)] [] u43.2 o) (fun a w hw hc he => tX9_suspects_l43 hw (fun q3 q5 qs e => hc (q3, q5, qs) e) (fun q3 qs e => he (q3, qs) e)) FU (q3, q5, qs) r14 hj hX
    refine hE ?_ _ _ _ hi
    clear hE hi
    refine R_iinc [(4, .int (a.2.1 + iI 1)), (0, .ref x0), (1, .int x1), (2, .int x2), (3, .int r14.1)] DX9_suspects_88 4 rfl (v := a.2.1 + iI 1) (by rfl) (by decide) rfl ?_
    refine R_goto DX9_suspects_91 ?_
    refine R.sub (L' := [(0, .ref x0), (1, .int x1), (2, .int x2), (3, .int r14.1), (4, .int (a.2.1 + iI 1))]) [1, 2, 3, 4, 0] rfl ?_
    cases h
    exact hc _ _ _ rfl
set_option maxRecDepth 8000 in
theorem kX9_suspects {G : Gm} {x0 : Nat} {x1 : Int32} {x2 : Int32} {s : Hp} {w : Int32 × Hp} (h : fX9_suspects x0 x1 x2 s = some w) : (s.2.2 x0).1 = 9 ∧ Call G MX9_suspects [.ref x0, .int x1, .int x2] s (some (.int w.1), w.2) := by
  unfold fX9_suspects at h
  obtain ⟨_, e0, h⟩ := bind_some h
  refine ⟨ck_some e0, Call.of_R pnRX9 (Nat.le_of_ble_eq_true rfl) ?_⟩
  clear e0
  show R G MX9_suspects 0 [(0, .ref x0), (1, .int x1), (2, .int x2)] [] s (some (.int w.1), w.2)
  refine R_aload DX9_suspects_0 0 rfl ?_
  refine R_constI DX9_suspects_1 ci_0 ?_
  obtain ⟨s1, es1, h⟩ := bind_some h
  refine R_pI DX9_suspects_2 fl_RX9_92 es1 ?_
  refine R_aload DX9_suspects_5 0 rfl ?_
  refine R_iload DX9_suspects_6 1 rfl ?_
  refine R_i2l DX9_suspects_7 ?_
  refine R_iload DX9_suspects_8 2 rfl ?_
  refine R_i2l DX9_suspects_9 ?_
  obtain ⟨r2, er2, h⟩ := bind_some h
  refine R_cV1 [.long (Int32.toInt64 x1), .long (Int32.toInt64 x2)] DX9_suspects_10 kzvX9_isColumn ml_RX9_331 ⟨Nat.le_of_ble_eq_true rfl, Nat.le_of_ble_eq_true rfl⟩ rfl (Nat.le_of_ble_eq_true rfl) (kX9_isColumn er2) ?_
  by_cases c3 : r2.1 = 0
  · replace h := if_t h c3
    refine R_if_ne_f DX9_suspects_13 c3 ?_
    refine R_constI DX9_suspects_16 ci_m2 ?_
    cases h
    exact R_ireturn rfl DX9_suspects_18
  · replace h := if_f h c3
    refine R_if_ne_t DX9_suspects_13 c3 ?_
    refine R_aload DX9_suspects_19 0 rfl ?_
    obtain ⟨s4, es4, h⟩ := bind_some h
    refine R_cV0 [] DX9_suspects_20 kzvX9_asTold ml_RX9_389 ⟨Nat.le_of_ble_eq_true rfl, Nat.le_of_ble_eq_true rfl⟩ rfl (Nat.le_of_ble_eq_true rfl) (kX9_asTold es4) ?_
    refine R_constI DX9_suspects_23 ci_0 ?_
    refine R_istore [(3, .int (iI 0)), (0, .ref x0), (1, .int x1), (2, .int x2)] DX9_suspects_24 (by decide) rfl ?_
    refine R_constI DX9_suspects_25 ci_0 ?_
    refine R_istore [(4, .int (iI 0)), (3, .int (iI 0)), (0, .ref x0), (1, .int x1), (2, .int x2)] DX9_suspects_26 (by decide) rfl ?_
    refine R.sub (L' := [(0, .ref x0), (1, .int x1), (2, .int x2), (3, .int (iI 0)), (4, .int (iI 0))]) [2, 3, 4, 1, 0] rfl ?_
    obtain ⟨r15, hi, h⟩ := bind_some h
    have hE : (fun u28 : Int32 × Hp => R G MX9_suspects 94 [(3, .int u28.1)] [] u28.2 (some (.int w.1), w.2)) r15 → ∀ (q3 : Int32) (q4 : Int32) (qs : Hp), iter (fX9_suspects_l28 x0 x1 x2) FU (q3, q4, qs) = some r15 → R G MX9_suspects 28 [(0, .ref x0), (1, .int x1), (2, .int x2), (3, .int q3), (4, .int q4)] [] qs (some (.int w.1), w.2) := fun hX q3 q4 qs hj => loop_R (fX9_suspects_l28 x0 x1 x2) (fun p28 : Int32 × Int32 × Hp => R G MX9_suspects 28 [(0, .ref x0), (1, .int x1), (2, .int x2), (3, .int p28.1), (4, .int p28.2.1)] [] p28.2.2 (some (.int w.1), w.2)) (fun u28 : Int32 × Hp => R G MX9_suspects 94 [(3, .int u28.1)] [] u28.2 (some (.int w.1), w.2)) (fun a w hw hc he => tX9_suspects_l28 hw (fun q3 q4 qs e => hc (q3, q4, qs) e) (fun q3 qs e => he (q3, qs) e)) FU (q3, q4, qs) r15 hj hX
    refine hE ?_ _ _ _ hi
    clear hE hi
    refine R_iload DX9_suspects_94 0 rfl ?_
    cases h
    exact R_ireturn rfl DX9_suspects_95
set_option maxRecDepth 8000 in
theorem tX9_driftOf_l14 {G : Gm} {x0 : Nat} {x3 : Int32} {x4 : Int32} {x5 : Int32} {o : Option Value × Hp} {a : Int32 × Hp} {w : (Int32 × Hp) ⊕ ((Hp))} (h : fX9_driftOf_l14 x0 x3 x4 x5 a = some w) (hc : ∀ (q6 : Int32) (qs : Hp), w = .inl (q6, qs) → R G MX9_driftOf 14 [(0, .ref x0), (3, .int x3), (4, .int x4), (5, .int x5), (6, .int q6)] [] qs o) (he0 : ∀ (qs : Hp), w = .inr qs → R G MX9_driftOf 53 [(0, .ref x0)] [] qs o) : R G MX9_driftOf 14 [(0, .ref x0), (3, .int x3), (4, .int x4), (5, .int x5), (6, .int a.1)] [] a.2 o := by
  unfold fX9_driftOf_l14 at h
  refine R_iload DX9_driftOf_14 4 rfl ?_
  refine R_iload DX9_driftOf_16 2 rfl ?_
  refine R_iload DX9_driftOf_18 3 rfl ?_
  refine R_iadd DX9_driftOf_20 ?_
  by_cases c3 : (x4 + x5) ≤ a.1
  · replace h := if_t h c3
    refine R_icmp_ge_t DX9_driftOf_21 c3 ?_
    refine R.sub (L' := [(0, .ref x0)]) [0] rfl ?_
    cases h
    exact he0 _ rfl
  · replace h := if_f h c3
    refine R_icmp_ge_f DX9_driftOf_21 c3 ?_
    refine R_iload DX9_driftOf_24 4 rfl ?_
    refine R_aload DX9_driftOf_26 0 rfl ?_
    obtain ⟨v4, ev4, h⟩ := bind_some h
    refine R_gR DX9_driftOf_27 fl_RX9_34 ev4 ?_
    refine R_constI DX9_driftOf_30 ci_3 ?_
    obtain ⟨v5, ev5, h⟩ := bind_some h
    refine R_aI DX9_driftOf_31 ev5 ?_
    by_cases c6 : v5 ≤ a.1
    · replace h := if_t h c6
      refine R_icmp_ge_t DX9_driftOf_32 c6 ?_
      refine R.sub (L' := [(0, .ref x0)]) [0] rfl ?_
      cases h
      exact he0 _ rfl
    · replace h := if_f h c6
      refine R_icmp_ge_f DX9_driftOf_32 c6 ?_
      refine R_aload DX9_driftOf_35 0 rfl ?_
      refine R_aload DX9_driftOf_36 0 rfl ?_
      refine R_iload DX9_driftOf_37 1 rfl ?_
      refine R_iload DX9_driftOf_38 4 rfl ?_
      obtain ⟨r7, er7, h⟩ := bind_some h
      refine R_cV1 [.int x3, .int a.1] DX9_driftOf_40 kzvX9_windOf ml_RX9_308 ⟨Nat.le_of_ble_eq_true rfl, Nat.le_of_ble_eq_true rfl⟩ rfl (Nat.le_of_ble_eq_true rfl) (kX9_windOf er7) ?_
      obtain ⟨r8, er8, h⟩ := bind_some h
      refine R_cV1 [.int r7.1] DX9_driftOf_43 kzvX9_carries ml_RX9_361 ⟨Nat.le_of_ble_eq_true rfl, Nat.le_of_ble_eq_true rfl⟩ rfl (Nat.le_of_ble_eq_true rfl) (kX9_carries er8) ?_
      refine R_pop DX9_driftOf_46 rfl ?_
      refine R_iinc [(6, .int (a.1 + iI 1)), (0, .ref x0), (3, .int x3), (4, .int x4), (5, .int x5)] DX9_driftOf_47 4 rfl (v := a.1 + iI 1) (by rfl) (by decide) rfl ?_
      refine R_goto DX9_driftOf_50 ?_
      refine R.sub (L' := [(0, .ref x0), (3, .int x3), (4, .int x4), (5, .int x5), (6, .int (a.1 + iI 1))]) [1, 2, 3, 4, 0] rfl ?_
      cases h
      exact hc _ _ rfl
set_option maxRecDepth 8000 in
theorem tX9_driftOf_b53 {G : Gm} {x0 : Nat} {s : Hp} {w : Int32 × Hp} (h : fX9_driftOf_b53 x0 s = some w) : R G MX9_driftOf 53 [(0, .ref x0)] [] s (some (.int w.1), w.2) := by
  unfold fX9_driftOf_b53 at h
  refine R_constI DX9_driftOf_53 ci_100 ?_
  refine R_aload DX9_driftOf_55 0 rfl ?_
  obtain ⟨v10, ev10, h⟩ := bind_some h
  refine R_gI DX9_driftOf_56 fl_RX9_325 ev10 ?_
  refine R_imul DX9_driftOf_59 ?_
  refine R_aload DX9_driftOf_60 0 rfl ?_
  obtain ⟨v11, ev11, h⟩ := bind_some h
  refine R_gI DX9_driftOf_61 fl_RX9_328 ev11 ?_
  refine R_iadd DX9_driftOf_64 ?_
  cases h
  exact R_ireturn rfl DX9_driftOf_65
set_option maxRecDepth 8000 in
theorem kX9_driftOf {G : Gm} {x0 : Nat} {x1 : Int32} {x2 : Int32} {x3 : Int32} {x4 : Int32} {x5 : Int32} {s : Hp} {w : Int32 × Hp} (h : fX9_driftOf x0 x1 x2 x3 x4 x5 s = some w) : (s.2.2 x0).1 = 9 ∧ Call G MX9_driftOf [.ref x0, .int x1, .int x2, .int x3, .int x4, .int x5] s (some (.int w.1), w.2) := by
  unfold fX9_driftOf at h
  obtain ⟨_, e0, h⟩ := bind_some h
  refine ⟨ck_some e0, Call.of_R pnRX9 (Nat.le_of_ble_eq_true rfl) ?_⟩
  clear e0
  show R G MX9_driftOf 0 [(0, .ref x0), (1, .int x1), (2, .int x2), (3, .int x3), (4, .int x4), (5, .int x5)] [] s (some (.int w.1), w.2)
  refine R_aload DX9_driftOf_0 0 rfl ?_
  refine R_iload DX9_driftOf_1 1 rfl ?_
  obtain ⟨s1, es1, h⟩ := bind_some h
  refine R_pI DX9_driftOf_2 fl_RX9_325 es1 ?_
  refine R_aload DX9_driftOf_5 0 rfl ?_
  refine R_iload DX9_driftOf_6 2 rfl ?_
  obtain ⟨s2, es2, h⟩ := bind_some h
  refine R_pI DX9_driftOf_7 fl_RX9_328 es2 ?_
  refine R_iload DX9_driftOf_10 4 rfl ?_
  refine R_istore [(6, .int x4), (0, .ref x0), (1, .int x1), (2, .int x2), (3, .int x3), (4, .int x4), (5, .int x5)] DX9_driftOf_12 (by decide) rfl ?_
  refine R.sub (L' := [(0, .ref x0), (3, .int x3), (4, .int x4), (5, .int x5), (6, .int x4)]) [1, 4, 5, 6, 0] rfl ?_
  obtain ⟨r9, hi, h⟩ := bind_some h
  have hE : (fun u14 : Hp => R G MX9_driftOf 53 [(0, .ref x0)] [] u14 (some (.int w.1), w.2)) r9 → ∀ (q6 : Int32) (qs : Hp), iter (fX9_driftOf_l14 x0 x3 x4 x5) FU (q6, qs) = some r9 → R G MX9_driftOf 14 [(0, .ref x0), (3, .int x3), (4, .int x4), (5, .int x5), (6, .int q6)] [] qs (some (.int w.1), w.2) := fun hX q6 qs hj => loop_R (fX9_driftOf_l14 x0 x3 x4 x5) (fun p14 : Int32 × Hp => R G MX9_driftOf 14 [(0, .ref x0), (3, .int x3), (4, .int x4), (5, .int x5), (6, .int p14.1)] [] p14.2 (some (.int w.1), w.2)) (fun u14 : Hp => R G MX9_driftOf 53 [(0, .ref x0)] [] u14 (some (.int w.1), w.2)) (fun a w hw hc he => tX9_driftOf_l14 hw (fun q6 qs e => hc (q6, qs) e) (fun qs e => he qs e)) FU (q6, qs) r9 hj hX
  refine hE ?_ _ _ hi
  clear hE hi
  exact tX9_driftOf_b53 h
set_option maxRecDepth 8000 in
theorem tX9_isDrift_b46 {G : Gm} {s : Hp} {w : Int32 × Hp} (h : fX9_isDrift_b46 s = some w) : R G MX9_isDrift 46 [] [] s (some (.int w.1), w.2) := by
  unfold fX9_isDrift_b46 at h
  refine R_constI DX9_isDrift_46 ci_0 ?_
  cases h
  exact R_zreturn rfl DX9_isDrift_47 (by decide)
set_option maxRecDepth 8000 in
theorem kX9_isDrift {G : Gm} {x0 : Nat} {x1 : Int32} {x2 : Int32} {x3 : Int32} {x4 : Int32} {x5 : Int32} {s : Hp} {w : Int32 × Hp} (h : fX9_isDrift x0 x1 x2 x3 x4 x5 s = some w) : (s.2.2 x0).1 = 9 ∧ Call G MX9_isDrift [.ref x0, .int x1, .int x2, .int x3, .int x4, .int x5] s (some (.int w.1), w.2) := by
  unfold fX9_isDrift at h
  obtain ⟨_, e0, h⟩ := bind_some h
  refine ⟨ck_some e0, Call.of_R pnRX9 (Nat.le_of_ble_eq_true rfl) ?_⟩
  clear e0
  show R G MX9_isDrift 0 [(0, .ref x0), (1, .int x1), (2, .int x2), (3, .int x3), (4, .int x4), (5, .int x5)] [] s (some (.int w.1), w.2)
  refine R_aload DX9_isDrift_0 0 rfl ?_
  refine R_iload DX9_isDrift_1 1 rfl ?_
  refine R_i2l DX9_isDrift_2 ?_
  refine R_iload DX9_isDrift_3 2 rfl ?_
  refine R_i2l DX9_isDrift_4 ?_
  obtain ⟨r1, er1, h⟩ := bind_some h
  refine R_cV1 [.long (Int32.toInt64 x1), .long (Int32.toInt64 x2)] DX9_isDrift_5 kzvX9_isColumn ml_RX9_331 ⟨Nat.le_of_ble_eq_true rfl, Nat.le_of_ble_eq_true rfl⟩ rfl (Nat.le_of_ble_eq_true rfl) (kX9_isColumn er1) ?_
  by_cases c2 : r1.1 = 0
  · replace h := if_t h c2
    refine R_if_eq_t DX9_isDrift_8 c2 ?_
    refine R.sub (L' := []) [] rfl ?_
    exact tX9_isDrift_b46 h
  · replace h := if_f h c2
    refine R_if_eq_f DX9_isDrift_8 c2 ?_
    refine R_aload DX9_isDrift_11 0 rfl ?_
    refine R_iload DX9_isDrift_12 3 rfl ?_
    obtain ⟨r3, er3, h⟩ := bind_some h
    refine R_cV1 [.int x3] DX9_isDrift_13 kzvX9_isLayer ml_RX9_302 ⟨Nat.le_of_ble_eq_true rfl, Nat.le_of_ble_eq_true rfl⟩ rfl (Nat.le_of_ble_eq_true rfl) (kX9_isLayer er3) ?_
    by_cases c4 : r3.1 = 0
    · replace h := if_t h c4
      refine R_if_eq_t DX9_isDrift_16 c4 ?_
      refine R.sub (L' := []) [] rfl ?_
      exact tX9_isDrift_b46 h
    · replace h := if_f h c4
      refine R_if_eq_f DX9_isDrift_16 c4 ?_
      refine R_aload DX9_isDrift_19 0 rfl ?_
      refine R_iload DX9_isDrift_20 4 rfl ?_
      refine R_i2l DX9_isDrift_22 ?_
      obtain ⟨r5, er5, h⟩ := bind_some h
      refine R_cV1 [.long (Int32.toInt64 x4)] DX9_isDrift_23 kzvX9_isHour ml_RX9_305 ⟨Nat.le_of_ble_eq_true rfl, Nat.le_of_ble_eq_true rfl⟩ rfl (Nat.le_of_ble_eq_true rfl) (kX9_isHour er5) ?_
      by_cases c6 : r5.1 = 0
      · replace h := if_t h c6
        refine R_if_eq_t DX9_isDrift_26 c6 ?_
        refine R.sub (L' := []) [] rfl ?_
        exact tX9_isDrift_b46 h
      · replace h := if_f h c6
        refine R_if_eq_f DX9_isDrift_26 c6 ?_
        refine R_iload DX9_isDrift_29 5 rfl ?_
        refine R_i2l DX9_isDrift_31 ?_
        refine R_lconst DX9_isDrift_32 ?_
        refine R_ldc2 DX9_isDrift_33 cw_RX9_525 ?_
        obtain ⟨r7, er7, h⟩ := bind_some h
        refine R_cS1 [.long (Int32.toInt64 x5), .long 0, .long 24] DX9_isDrift_36 kzsX9_in ml_RX9_97 ⟨Nat.le_of_ble_eq_true rfl, Nat.le_of_ble_eq_true rfl⟩ rfl (Nat.le_of_ble_eq_true rfl) (kX9_in er7) ?_
        by_cases c8 : r7.1 = 0
        · replace h := if_t h c8
          refine R_if_eq_t DX9_isDrift_39 c8 ?_
          refine R.sub (L' := []) [] rfl ?_
          exact tX9_isDrift_b46 h
        · replace h := if_f h c8
          refine R_if_eq_f DX9_isDrift_39 c8 ?_
          refine R_constI DX9_isDrift_42 ci_1 ?_
          refine R_goto DX9_isDrift_43 ?_
          cases h
          exact R_zreturn rfl DX9_isDrift_47 (by decide)
set_option maxRecDepth 8000 in
theorem kX9_drift {G : Gm} {x0 : Nat} {x1 : Int32} {x2 : Int32} {x3 : Int32} {x4 : Int32} {x5 : Int32} {s : Hp} {w : Int32 × Hp} (h : fX9_drift x0 x1 x2 x3 x4 x5 s = some w) : (s.2.2 x0).1 = 9 ∧ Call G MX9_drift [.ref x0, .int x1, .int x2, .int x3, .int x4, .int x5] s (some (.int w.1), w.2) := by
  unfold fX9_drift at h
  obtain ⟨_, e0, h⟩ := bind_some h
  refine ⟨ck_some e0, Call.of_R pnRX9 (Nat.le_of_ble_eq_true rfl) ?_⟩
  clear e0
  show R G MX9_drift 0 [(0, .ref x0), (1, .int x1), (2, .int x2), (3, .int x3), (4, .int x4), (5, .int x5)] [] s (some (.int w.1), w.2)
  refine R_aload DX9_drift_0 0 rfl ?_
  refine R_constI DX9_drift_1 ci_0 ?_
  obtain ⟨s1, es1, h⟩ := bind_some h
  refine R_pI DX9_drift_2 fl_RX9_92 es1 ?_
  refine R_aload DX9_drift_5 0 rfl ?_
  refine R_iload DX9_drift_6 1 rfl ?_
  refine R_iload DX9_drift_7 2 rfl ?_
  refine R_iload DX9_drift_8 3 rfl ?_
  refine R_iload DX9_drift_9 4 rfl ?_
  refine R_iload DX9_drift_11 5 rfl ?_
  obtain ⟨r2, er2, h⟩ := bind_some h
  refine R_cV1 [.int x1, .int x2, .int x3, .int x4, .int x5] DX9_drift_13 kzvX9_isDrift ml_RX9_527 ⟨Nat.le_of_ble_eq_true rfl, Nat.le_of_ble_eq_true rfl⟩ rfl (Nat.le_of_ble_eq_true rfl) (kX9_isDrift er2) ?_
  by_cases c3 : r2.1 = 0
  · replace h := if_t h c3
    refine R_if_eq_t DX9_drift_16 c3 ?_
    refine R_constI DX9_drift_33 ci_m2 ?_
    cases h
    exact R_ireturn rfl DX9_drift_35
  · replace h := if_f h c3
    refine R_if_eq_f DX9_drift_16 c3 ?_
    refine R_aload DX9_drift_19 0 rfl ?_
    refine R_iload DX9_drift_20 1 rfl ?_
    refine R_iload DX9_drift_21 2 rfl ?_
    refine R_iload DX9_drift_22 3 rfl ?_
    refine R_iload DX9_drift_23 4 rfl ?_
    refine R_iload DX9_drift_25 5 rfl ?_
    obtain ⟨r4, er4, h⟩ := bind_some h
    refine R_cV1 [.int x1, .int x2, .int x3, .int x4, .int x5] DX9_drift_27 kzvX9_driftOf ml_RX9_530 ⟨Nat.le_of_ble_eq_true rfl, Nat.le_of_ble_eq_true rfl⟩ rfl (Nat.le_of_ble_eq_true rfl) (kX9_driftOf er4) ?_
    refine R_goto DX9_drift_30 ?_
    cases h
    exact R_ireturn rfl DX9_drift_35
set_option maxRecDepth 8000 in
theorem tX9_whence_l39 {G : Gm} {x0 : Nat} {x1 : Int32} {x2 : Int32} {x3 : Int32} {x4 : Int32} {x5 : Int32} {x6 : Int32} {o : Option Value × Hp} {a : Int32 × Hp} {w : (Int32 × Hp) ⊕ ((Hp) ⊕ (Int32 × Hp))} (h : fX9_whence_l39 x0 x1 x2 x3 x4 x5 x6 a = some w) (hc : ∀ (q7 : Int32) (qs : Hp), w = .inl (q7, qs) → R G MX9_whence 39 [(0, .ref x0), (1, .int x1), (2, .int x2), (3, .int x3), (4, .int x4), (5, .int x5), (6, .int x6), (7, .int q7)] [] qs o) (he0 : ∀ (qs : Hp), w = .inr (.inl qs) → R G MX9_whence 87 [(0, .ref x0), (1, .int x1), (2, .int x2), (3, .int x3), (4, .int x4), (5, .int x5), (6, .int x6)] [] qs o) (he1 : ∀ (q7 : Int32) (qs : Hp), w = .inr (.inr (q7, qs)) → R G MX9_whence 72 [(6, .int x6), (7, .int q7)] [] qs o) : R G MX9_whence 39 [(0, .ref x0), (1, .int x1), (2, .int x2), (3, .int x3), (4, .int x4), (5, .int x5), (6, .int x6), (7, .int a.1)] [] a.2 o := by
  unfold fX9_whence_l39 at h
  refine R_iload DX9_whence_39 7 rfl ?_
  refine R_aload DX9_whence_41 0 rfl ?_
  obtain ⟨v7, ev7, h⟩ := bind_some h
  refine R_gR DX9_whence_42 fl_RX9_34 ev7 ?_
  refine R_constI DX9_whence_45 ci_1 ?_
  obtain ⟨v8, ev8, h⟩ := bind_some h
  refine R_aI DX9_whence_46 ev8 ?_
  by_cases c9 : v8 ≤ a.1
  · replace h := if_t h c9
    refine R_icmp_ge_t DX9_whence_47 c9 ?_
    refine R.sub (L' := [(0, .ref x0), (1, .int x1), (2, .int x2), (3, .int x3), (4, .int x4), (5, .int x5), (6, .int x6)]) [0, 1, 2, 3, 4, 5, 6] rfl ?_
    cases h
    exact he0 _ rfl
  · replace h := if_f h c9
    refine R_icmp_ge_f DX9_whence_47 c9 ?_
    refine R_aload DX9_whence_50 0 rfl ?_
    refine R_iload DX9_whence_51 6 rfl ?_
    refine R_iload DX9_whence_53 7 rfl ?_
    refine R_iload DX9_whence_55 3 rfl ?_
    refine R_iload DX9_whence_56 4 rfl ?_
    refine R_iload DX9_whence_58 5 rfl ?_
    obtain ⟨r10, er10, h⟩ := bind_some h
    refine R_cV1 [.int x6, .int a.1, .int x3, .int x4, .int x5] DX9_whence_60 kzvX9_driftOf ml_RX9_530 ⟨Nat.le_of_ble_eq_true rfl, Nat.le_of_ble_eq_true rfl⟩ rfl (Nat.le_of_ble_eq_true rfl) (kX9_driftOf er10) ?_
    refine R_constI DX9_whence_63 ci_100 ?_
    refine R_iload DX9_whence_65 1 rfl ?_
    refine R_imul DX9_whence_66 ?_
    refine R_iload DX9_whence_67 2 rfl ?_
    refine R_iadd DX9_whence_68 ?_
    by_cases c11 : r10.1 = (((iI 100) * x1) + x2)
    · replace h := if_t h c11
      refine R_icmp_ne_f DX9_whence_69 c11 ?_
      refine R.sub (L' := [(6, .int x6), (7, .int a.1)]) [6, 7] rfl ?_
      cases h
      exact he1 _ _ rfl
    · replace h := if_f h c11
      refine R_icmp_ne_t DX9_whence_69 c11 ?_
      refine R_iinc [(7, .int (a.1 + iI 1)), (0, .ref x0), (1, .int x1), (2, .int x2), (3, .int x3), (4, .int x4), (5, .int x5), (6, .int x6)] DX9_whence_81 7 rfl (v := a.1 + iI 1) (by rfl) (by decide) rfl ?_
      refine R_goto DX9_whence_84 ?_
      refine R.sub (L' := [(0, .ref x0), (1, .int x1), (2, .int x2), (3, .int x3), (4, .int x4), (5, .int x5), (6, .int x6), (7, .int (a.1 + iI 1))]) [1, 2, 3, 4, 5, 6, 7, 0] rfl ?_
      cases h
      exact hc _ _ rfl
set_option maxRecDepth 8000 in
theorem tX9_whence_l25 {G : Gm} {x0 : Nat} {x1 : Int32} {x2 : Int32} {x3 : Int32} {x4 : Int32} {x5 : Int32} {o : Option Value × Hp} {a : Int32 × Hp} {w : (Int32 × Hp) ⊕ ((Hp) ⊕ (Int32 × Int32 × Hp))} (h : fX9_whence_l25 x0 x1 x2 x3 x4 x5 a = some w) (hc : ∀ (q6 : Int32) (qs : Hp), w = .inl (q6, qs) → R G MX9_whence 25 [(0, .ref x0), (1, .int x1), (2, .int x2), (3, .int x3), (4, .int x4), (5, .int x5), (6, .int q6)] [] qs o) (he0 : ∀ (qs : Hp), w = .inr (.inl qs) → R G MX9_whence 93 [] [] qs o) (he1 : ∀ (q6 : Int32) (q7 : Int32) (qs : Hp), w = .inr (.inr (q6, q7, qs)) → R G MX9_whence 72 [(6, .int q6), (7, .int q7)] [] qs o) : R G MX9_whence 25 [(0, .ref x0), (1, .int x1), (2, .int x2), (3, .int x3), (4, .int x4), (5, .int x5), (6, .int a.1)] [] a.2 o := by
  unfold fX9_whence_l25 at h
  refine R_iload DX9_whence_25 6 rfl ?_
  refine R_aload DX9_whence_27 0 rfl ?_
  obtain ⟨v4, ev4, h⟩ := bind_some h
  refine R_gR DX9_whence_28 fl_RX9_34 ev4 ?_
  refine R_constI DX9_whence_31 ci_0 ?_
  obtain ⟨v5, ev5, h⟩ := bind_some h
  refine R_aI DX9_whence_32 ev5 ?_
  by_cases c6 : v5 ≤ a.1
  · replace h := if_t h c6
    refine R_icmp_ge_t DX9_whence_33 c6 ?_
    refine R.sub (L' := []) [] rfl ?_
    cases h
    exact he0 _ rfl
  · replace h := if_f h c6
    refine R_icmp_ge_f DX9_whence_33 c6 ?_
    refine R_constI DX9_whence_36 ci_0 ?_
    refine R_istore [(7, .int (iI 0)), (0, .ref x0), (1, .int x1), (2, .int x2), (3, .int x3), (4, .int x4), (5, .int x5), (6, .int a.1)] DX9_whence_37 (by decide) rfl ?_
    refine R.sub (L' := [(0, .ref x0), (1, .int x1), (2, .int x2), (3, .int x3), (4, .int x4), (5, .int x5), (6, .int a.1), (7, .int (iI 0))]) [1, 2, 3, 4, 5, 6, 7, 0] rfl ?_
    obtain ⟨r12, hi, h⟩ := bind_some h
    have hE : (Sum.elim (fun u39 : Hp => R G MX9_whence 87 [(0, .ref x0), (1, .int x1), (2, .int x2), (3, .int x3), (4, .int x4), (5, .int x5), (6, .int a.1)] [] u39 o) (fun u39 : Int32 × Hp => R G MX9_whence 72 [(6, .int a.1), (7, .int u39.1)] [] u39.2 o)) r12 → ∀ (q7 : Int32) (qs : Hp), iter (fX9_whence_l39 x0 x1 x2 x3 x4 x5 a.1) FU (q7, qs) = some r12 → R G MX9_whence 39 [(0, .ref x0), (1, .int x1), (2, .int x2), (3, .int x3), (4, .int x4), (5, .int x5), (6, .int a.1), (7, .int q7)] [] qs o := fun hX q7 qs hj => loop_R (fX9_whence_l39 x0 x1 x2 x3 x4 x5 a.1) (fun p39 : Int32 × Hp => R G MX9_whence 39 [(0, .ref x0), (1, .int x1), (2, .int x2), (3, .int x3), (4, .int x4), (5, .int x5), (6, .int a.1), (7, .int p39.1)] [] p39.2 o) (Sum.elim (fun u39 : Hp => R G MX9_whence 87 [(0, .ref x0), (1, .int x1), (2, .int x2), (3, .int x3), (4, .int x4), (5, .int x5), (6, .int a.1)] [] u39 o) (fun u39 : Int32 × Hp => R G MX9_whence 72 [(6, .int a.1), (7, .int u39.1)] [] u39.2 o)) (fun a w hw hc he => tX9_whence_l39 hw (fun q7 qs e => hc (q7, qs) e) (fun qs e => he (.inl qs) e) (fun q7 qs e => he (.inr (q7, qs)) e)) FU (q7, qs) r12 hj hX
    refine hE ?_ _ _ hi
    clear hE hi
    rcases r12 with r12a | r12b
    · replace h := el_l h
      refine R_iinc [(6, .int (a.1 + iI 1)), (0, .ref x0), (1, .int x1), (2, .int x2), (3, .int x3), (4, .int x4), (5, .int x5)] DX9_whence_87 6 rfl (v := a.1 + iI 1) (by rfl) (by decide) rfl ?_
      refine R_goto DX9_whence_90 ?_
      refine R.sub (L' := [(0, .ref x0), (1, .int x1), (2, .int x2), (3, .int x3), (4, .int x4), (5, .int x5), (6, .int (a.1 + iI 1))]) [1, 2, 3, 4, 5, 6, 0] rfl ?_
      cases h
      exact hc _ _ rfl
    replace h := el_r h
    cases h
    exact he1 _ _ _ rfl
set_option maxRecDepth 8000 in
theorem kX9_whence {G : Gm} {x0 : Nat} {x1 : Int32} {x2 : Int32} {x3 : Int32} {x4 : Int32} {x5 : Int32} {s : Hp} {w : Int32 × Hp} (h : fX9_whence x0 x1 x2 x3 x4 x5 s = some w) : (s.2.2 x0).1 = 9 ∧ Call G MX9_whence [.ref x0, .int x1, .int x2, .int x3, .int x4, .int x5] s (some (.int w.1), w.2) := by
  unfold fX9_whence at h
  obtain ⟨_, e0, h⟩ := bind_some h
  refine ⟨ck_some e0, Call.of_R pnRX9 (Nat.le_of_ble_eq_true rfl) ?_⟩
  clear e0
  show R G MX9_whence 0 [(0, .ref x0), (1, .int x1), (2, .int x2), (3, .int x3), (4, .int x4), (5, .int x5)] [] s (some (.int w.1), w.2)
  refine R_aload DX9_whence_0 0 rfl ?_
  refine R_constI DX9_whence_1 ci_0 ?_
  obtain ⟨s1, es1, h⟩ := bind_some h
  refine R_pI DX9_whence_2 fl_RX9_92 es1 ?_
  refine R_aload DX9_whence_5 0 rfl ?_
  refine R_iload DX9_whence_6 1 rfl ?_
  refine R_iload DX9_whence_7 2 rfl ?_
  refine R_iload DX9_whence_8 3 rfl ?_
  refine R_iload DX9_whence_9 4 rfl ?_
  refine R_iload DX9_whence_11 5 rfl ?_
  obtain ⟨r2, er2, h⟩ := bind_some h
  refine R_cV1 [.int x1, .int x2, .int x3, .int x4, .int x5] DX9_whence_13 kzvX9_isDrift ml_RX9_527 ⟨Nat.le_of_ble_eq_true rfl, Nat.le_of_ble_eq_true rfl⟩ rfl (Nat.le_of_ble_eq_true rfl) (kX9_isDrift er2) ?_
  by_cases c3 : r2.1 = 0
  · replace h := if_t h c3
    refine R_if_ne_f DX9_whence_16 c3 ?_
    refine R_constI DX9_whence_19 ci_m2 ?_
    cases h
    exact R_ireturn rfl DX9_whence_21
  · replace h := if_f h c3
    refine R_if_ne_t DX9_whence_16 c3 ?_
    refine R_constI DX9_whence_22 ci_0 ?_
    refine R_istore [(6, .int (iI 0)), (0, .ref x0), (1, .int x1), (2, .int x2), (3, .int x3), (4, .int x4), (5, .int x5)] DX9_whence_23 (by decide) rfl ?_
    refine R.sub (L' := [(0, .ref x0), (1, .int x1), (2, .int x2), (3, .int x3), (4, .int x4), (5, .int x5), (6, .int (iI 0))]) [1, 2, 3, 4, 5, 6, 0] rfl ?_
    obtain ⟨r13, hi, h⟩ := bind_some h
    have hE : (Sum.elim (fun u25 : Hp => R G MX9_whence 93 [] [] u25 (some (.int w.1), w.2)) (fun u25 : Int32 × Int32 × Hp => R G MX9_whence 72 [(6, .int u25.1), (7, .int u25.2.1)] [] u25.2.2 (some (.int w.1), w.2))) r13 → ∀ (q6 : Int32) (qs : Hp), iter (fX9_whence_l25 x0 x1 x2 x3 x4 x5) FU (q6, qs) = some r13 → R G MX9_whence 25 [(0, .ref x0), (1, .int x1), (2, .int x2), (3, .int x3), (4, .int x4), (5, .int x5), (6, .int q6)] [] qs (some (.int w.1), w.2) := fun hX q6 qs hj => loop_R (fX9_whence_l25 x0 x1 x2 x3 x4 x5) (fun p25 : Int32 × Hp => R G MX9_whence 25 [(0, .ref x0), (1, .int x1), (2, .int x2), (3, .int x3), (4, .int x4), (5, .int x5), (6, .int p25.1)] [] p25.2 (some (.int w.1), w.2)) (Sum.elim (fun u25 : Hp => R G MX9_whence 93 [] [] u25 (some (.int w.1), w.2)) (fun u25 : Int32 × Int32 × Hp => R G MX9_whence 72 [(6, .int u25.1), (7, .int u25.2.1)] [] u25.2.2 (some (.int w.1), w.2))) (fun a w hw hc he => tX9_whence_l25 hw (fun q6 qs e => hc (q6, qs) e) (fun qs e => he (.inl qs) e) (fun q6 q7 qs e => he (.inr (q6, q7, qs)) e)) FU (q6, qs) r13 hj hX
    refine hE ?_ _ _ hi
    clear hE hi
    rcases r13 with r13a | r13b
    · replace h := el_l h
      refine R_constI DX9_whence_93 ci_m1 ?_
      cases h
      exact R_ireturn rfl DX9_whence_94
    replace h := el_r h
    refine R_constI DX9_whence_72 ci_100 ?_
    refine R_iload DX9_whence_74 0 rfl ?_
    refine R_imul DX9_whence_76 ?_
    refine R_iload DX9_whence_77 1 rfl ?_
    refine R_iadd DX9_whence_79 ?_
    cases h
    exact R_ireturn rfl DX9_whence_80
set_option maxRecDepth 8000 in
theorem tX9_whyNotRow_b14 {G : Gm} {s : Hp} {w : Int32 × Hp} (h : fX9_whyNotRow_b14 s = some w) : R G MX9_whyNotRow 14 [] [] s (some (.int w.1), w.2) := by
  unfold fX9_whyNotRow_b14 at h
  refine R_constI DX9_whyNotRow_14 ci_m2 ?_
  cases h
  exact R_ireturn rfl DX9_whyNotRow_16
set_option maxRecDepth 8000 in
theorem tX9_whyNotRow_b157 {G : Gm} {x0 : Nat} {x1 : Int32} {x2 : Int32} {x3 : Int32} {s : Hp} {o : Option Value × Hp} {w : (Int32 × Hp) ⊕ ((Hp) ⊕ (Hp) ⊕ (Hp) ⊕ (Hp))} (h : fX9_whyNotRow_b157 x0 x1 x2 x3 s = some w) (hc : ∀ (q3 : Int32) (qs : Hp), w = .inl (q3, qs) → R G MX9_whyNotRow 46 [(0, .ref x0), (1, .int x1), (2, .int x2), (3, .int q3)] [] qs o) (he0 : ∀ (qs : Hp), w = .inr (.inl qs) → R G MX9_whyNotRow 164 [] [] qs o) (he1 : ∀ (qs : Hp), w = .inr (.inr (.inl qs)) → R G MX9_whyNotRow 78 [] [] qs o) (he2 : ∀ (qs : Hp), w = .inr (.inr (.inr (.inl qs))) → R G MX9_whyNotRow 101 [] [] qs o) (he3 : ∀ (qs : Hp), w = .inr (.inr (.inr (.inr qs))) → R G MX9_whyNotRow 154 [] [] qs o) : R G MX9_whyNotRow 157 [(0, .ref x0), (1, .int x1), (2, .int x2), (3, .int x3)] [] s o := by
  unfold fX9_whyNotRow_b157 at h
  refine R_iload DX9_whyNotRow_157 3 rfl ?_
  refine R_iload DX9_whyNotRow_158 2 rfl ?_
  refine R_iadd DX9_whyNotRow_159 ?_
  obtain ⟨z33, ez33, h⟩ := lt_some h
  refine R_istoreE ez33 [(3, .int z33), (0, .ref x0), (1, .int x1), (2, .int x2)] DX9_whyNotRow_160 (by decide) rfl ?_
  refine R_goto DX9_whyNotRow_161 ?_
  refine R.sub (L' := [(0, .ref x0), (1, .int x1), (2, .int x2), (3, .int z33)]) [1, 2, 3, 0] rfl ?_
  cases h
  exact hc _ _ rfl
set_option maxRecDepth 8000 in
theorem tX9_whyNotRow_l46 {G : Gm} {x0 : Nat} {x1 : Int32} {x2 : Int32} {o : Option Value × Hp} {a : Int32 × Hp} {w : (Int32 × Hp) ⊕ ((Hp) ⊕ (Hp) ⊕ (Hp) ⊕ (Hp))} (h : fX9_whyNotRow_l46 x0 x1 x2 a = some w) (hc : ∀ (q3 : Int32) (qs : Hp), w = .inl (q3, qs) → R G MX9_whyNotRow 46 [(0, .ref x0), (1, .int x1), (2, .int x2), (3, .int q3)] [] qs o) (he0 : ∀ (qs : Hp), w = .inr (.inl qs) → R G MX9_whyNotRow 164 [] [] qs o) (he1 : ∀ (qs : Hp), w = .inr (.inr (.inl qs)) → R G MX9_whyNotRow 78 [] [] qs o) (he2 : ∀ (qs : Hp), w = .inr (.inr (.inr (.inl qs))) → R G MX9_whyNotRow 101 [] [] qs o) (he3 : ∀ (qs : Hp), w = .inr (.inr (.inr (.inr qs))) → R G MX9_whyNotRow 154 [] [] qs o) : R G MX9_whyNotRow 46 [(0, .ref x0), (1, .int x1), (2, .int x2), (3, .int a.1)] [] a.2 o := by
  unfold fX9_whyNotRow_l46 at h
  refine R_iload DX9_whyNotRow_46 3 rfl ?_
  refine R_aload DX9_whyNotRow_47 0 rfl ?_
  obtain ⟨v12, ev12, h⟩ := bind_some h
  refine R_gR DX9_whyNotRow_48 fl_RX9_13 ev12 ?_
  refine R_iload DX9_whyNotRow_51 1 rfl ?_
  obtain ⟨v13, ev13, h⟩ := bind_some h
  refine R_aI DX9_whyNotRow_52 ev13 ?_
  by_cases c14 : v13 ≤ a.1
  · replace h := if_t h c14
    refine R_icmp_ge_t DX9_whyNotRow_53 c14 ?_
    refine R.sub (L' := []) [] rfl ?_
    cases h
    exact he0 _ rfl
  · replace h := if_f h c14
    refine R_icmp_ge_f DX9_whyNotRow_53 c14 ?_
    refine R_constI DX9_whyNotRow_56 ci_60 ?_
    refine R_iload DX9_whyNotRow_58 1 rfl ?_
    refine R_imul DX9_whyNotRow_59 ?_
    refine R_iload DX9_whyNotRow_60 3 rfl ?_
    refine R_iadd DX9_whyNotRow_61 ?_
    obtain ⟨z15, ez15, h⟩ := lt_some h
    refine R_istoreE ez15 [(4, .int z15), (0, .ref x0), (1, .int x1), (2, .int x2), (3, .int a.1)] DX9_whyNotRow_62 (by decide) rfl ?_
    refine R_aload DX9_whyNotRow_64 1 rfl ?_
    refine R_aload DX9_whyNotRow_65 1 rfl ?_
    obtain ⟨v16, ev16, h⟩ := bind_some h
    refine R_gR DX9_whyNotRow_66 fl_RX9_16 ev16 ?_
    refine R_iload DX9_whyNotRow_69 0 rfl ?_
    obtain ⟨v17, ev17, h⟩ := bind_some h
    refine R_aL DX9_whyNotRow_71 ev17 ?_
    obtain ⟨r18, er18, h⟩ := bind_some h
    refine R_cV1 [.long v17] DX9_whyNotRow_72 kzvX9_isHour ml_RX9_305 ⟨Nat.le_of_ble_eq_true rfl, Nat.le_of_ble_eq_true rfl⟩ rfl (Nat.le_of_ble_eq_true rfl) (kX9_isHour er18) ?_
    by_cases c19 : r18.1 = 0
    · replace h := if_t h c19
      refine R_if_ne_f DX9_whyNotRow_75 c19 ?_
      refine R.sub (L' := []) [] rfl ?_
      cases h
      exact he1 _ rfl
    · replace h := if_f h c19
      refine R_if_ne_t DX9_whyNotRow_75 c19 ?_
      refine R_iload DX9_whyNotRow_81 3 rfl ?_
      refine R_constI DX9_whyNotRow_82 ci_2 ?_
      by_cases c20 : x2 = (iI 2)
      · replace h := if_t h c20
        refine R_icmp_ne_f DX9_whyNotRow_83 c20 ?_
        refine R_aload DX9_whyNotRow_86 1 rfl ?_
        obtain ⟨v34, ev34, h⟩ := bind_some h
        refine R_gR DX9_whyNotRow_87 fl_RX9_16 ev34 ?_
        refine R_iload DX9_whyNotRow_90 0 rfl ?_
        refine R_constI DX9_whyNotRow_92 ci_1 ?_
        refine R_iadd DX9_whyNotRow_93 ?_
        obtain ⟨v35, ev35, h⟩ := bind_some h
        refine R_aL DX9_whyNotRow_94 ev35 ?_
        obtain ⟨r36, er36, h⟩ := bind_some h
        refine R_cS1 [.long v35] DX9_whyNotRow_95 kzsX9_isWind ml_RX9_311 ⟨Nat.le_of_ble_eq_true rfl, Nat.le_of_ble_eq_true rfl⟩ rfl (Nat.le_of_ble_eq_true rfl) (kX9_isWind er36) ?_
        by_cases c37 : r36.1 = 0
        · replace h := if_t h c37
          refine R_if_ne_f DX9_whyNotRow_98 c37 ?_
          refine R.sub (L' := []) [] rfl ?_
          cases h
          exact he2 _ rfl
        · replace h := if_f h c37
          refine R_if_ne_t DX9_whyNotRow_98 c37 ?_
          refine R.sub (L' := [(0, .ref x0), (1, .int x1), (2, .int x2), (3, .int a.1)]) [1, 2, 3, 4] rfl ?_
          exact tX9_whyNotRow_b157 h hc he0 he1 he2 he3
      · replace h := if_f h c20
        refine R_icmp_ne_t DX9_whyNotRow_83 c20 ?_
        refine R_aload DX9_whyNotRow_104 1 rfl ?_
        refine R_aload DX9_whyNotRow_105 1 rfl ?_
        obtain ⟨v21, ev21, h⟩ := bind_some h
        refine R_gR DX9_whyNotRow_106 fl_RX9_16 ev21 ?_
        refine R_iload DX9_whyNotRow_109 0 rfl ?_
        refine R_constI DX9_whyNotRow_111 ci_1 ?_
        refine R_iadd DX9_whyNotRow_112 ?_
        obtain ⟨v22, ev22, h⟩ := bind_some h
        refine R_aL DX9_whyNotRow_113 ev22 ?_
        refine R_aload DX9_whyNotRow_114 1 rfl ?_
        obtain ⟨v23, ev23, h⟩ := bind_some h
        refine R_gR DX9_whyNotRow_115 fl_RX9_16 ev23 ?_
        refine R_iload DX9_whyNotRow_118 0 rfl ?_
        refine R_constI DX9_whyNotRow_120 ci_2 ?_
        refine R_iadd DX9_whyNotRow_121 ?_
        obtain ⟨v24, ev24, h⟩ := bind_some h
        refine R_aL DX9_whyNotRow_122 ev24 ?_
        obtain ⟨r25, er25, h⟩ := bind_some h
        refine R_cV1 [.long v22, .long v24] DX9_whyNotRow_123 kzvX9_isColumn ml_RX9_331 ⟨Nat.le_of_ble_eq_true rfl, Nat.le_of_ble_eq_true rfl⟩ rfl (Nat.le_of_ble_eq_true rfl) (kX9_isColumn er25) ?_
        by_cases c26 : r25.1 = 0
        · replace h := if_t h c26
          refine R_if_eq_t DX9_whyNotRow_126 c26 ?_
          refine R.sub (L' := []) [] rfl ?_
          cases h
          exact he3 _ rfl
        · replace h := if_f h c26
          refine R_if_eq_f DX9_whyNotRow_126 c26 ?_
          refine R_aload DX9_whyNotRow_129 1 rfl ?_
          refine R_aload DX9_whyNotRow_130 1 rfl ?_
          obtain ⟨v27, ev27, h⟩ := bind_some h
          refine R_gR DX9_whyNotRow_131 fl_RX9_16 ev27 ?_
          refine R_iload DX9_whyNotRow_134 0 rfl ?_
          refine R_constI DX9_whyNotRow_136 ci_3 ?_
          refine R_iadd DX9_whyNotRow_137 ?_
          obtain ⟨v28, ev28, h⟩ := bind_some h
          refine R_aL DX9_whyNotRow_138 ev28 ?_
          refine R_aload DX9_whyNotRow_139 1 rfl ?_
          obtain ⟨v29, ev29, h⟩ := bind_some h
          refine R_gR DX9_whyNotRow_140 fl_RX9_16 ev29 ?_
          refine R_iload DX9_whyNotRow_143 0 rfl ?_
          refine R_constI DX9_whyNotRow_145 ci_4 ?_
          refine R_iadd DX9_whyNotRow_146 ?_
          obtain ⟨v30, ev30, h⟩ := bind_some h
          refine R_aL DX9_whyNotRow_147 ev30 ?_
          obtain ⟨r31, er31, h⟩ := bind_some h
          refine R_cV1 [.long v28, .long v30] DX9_whyNotRow_148 kzvX9_isColumn ml_RX9_331 ⟨Nat.le_of_ble_eq_true rfl, Nat.le_of_ble_eq_true rfl⟩ rfl (Nat.le_of_ble_eq_true rfl) (kX9_isColumn er31) ?_
          by_cases c32 : r31.1 = 0
          · replace h := if_t h c32
            refine R_if_ne_f DX9_whyNotRow_151 c32 ?_
            refine R.sub (L' := []) [] rfl ?_
            cases h
            exact he3 _ rfl
          · replace h := if_f h c32
            refine R_if_ne_t DX9_whyNotRow_151 c32 ?_
            refine R.sub (L' := [(0, .ref x0), (1, .int x1), (2, .int x2), (3, .int a.1)]) [1, 2, 3, 4] rfl ?_
            exact tX9_whyNotRow_b157 h hc he0 he1 he2 he3
set_option maxRecDepth 8000 in
theorem tX9_whyNotRow_b154 {G : Gm} {s : Hp} {w : Int32 × Hp} (h : fX9_whyNotRow_b154 s = some w) : R G MX9_whyNotRow 154 [] [] s (some (.int w.1), w.2) := by
  unfold fX9_whyNotRow_b154 at h
  refine R_constI DX9_whyNotRow_154 ci_m2 ?_
  cases h
  exact R_ireturn rfl DX9_whyNotRow_156
set_option maxRecDepth 8000 in
theorem kX9_whyNotRow {G : Gm} {x0 : Nat} {x1 : Int32} {x2 : Int32} {s : Hp} {w : Int32 × Hp} (h : fX9_whyNotRow x0 x1 x2 s = some w) : (s.2.2 x0).1 = 9 ∧ Call G MX9_whyNotRow [.ref x0, .int x1, .int x2] s (some (.int w.1), w.2) := by
  unfold fX9_whyNotRow at h
  obtain ⟨_, e0, h⟩ := bind_some h
  refine ⟨ck_some e0, Call.of_R pnRX9 (Nat.le_of_ble_eq_true rfl) ?_⟩
  clear e0
  show R G MX9_whyNotRow 0 [(0, .ref x0), (1, .int x1), (2, .int x2)] [] s (some (.int w.1), w.2)
  refine R_iload DX9_whyNotRow_0 1 rfl ?_
  obtain ⟨r1, er1, h⟩ := bind_some h
  refine R_cS1 [.int x1] DX9_whyNotRow_1 kzsX9_isSlot ml_RX9_101 ⟨Nat.le_of_ble_eq_true rfl, Nat.le_of_ble_eq_true rfl⟩ rfl (Nat.le_of_ble_eq_true rfl) (kX9_isSlot er1) ?_
  by_cases c2 : r1.1 = 0
  · replace h := if_t h c2
    refine R_if_eq_t DX9_whyNotRow_4 c2 ?_
    refine R.sub (L' := []) [] rfl ?_
    exact tX9_whyNotRow_b14 h
  · replace h := if_f h c2
    refine R_if_eq_f DX9_whyNotRow_4 c2 ?_
    refine R_aload DX9_whyNotRow_7 0 rfl ?_
    obtain ⟨r3, er3, h⟩ := bind_some h
    refine R_cV1 [] DX9_whyNotRow_8 kzvX9_isValley ml_RX9_322 ⟨Nat.le_of_ble_eq_true rfl, Nat.le_of_ble_eq_true rfl⟩ rfl (Nat.le_of_ble_eq_true rfl) (kX9_isValley er3) ?_
    by_cases c4 : r3.1 = 0
    · replace h := if_t h c4
      refine R_if_ne_f DX9_whyNotRow_11 c4 ?_
      refine R.sub (L' := []) [] rfl ?_
      exact tX9_whyNotRow_b14 h
    · replace h := if_f h c4
      refine R_if_ne_t DX9_whyNotRow_11 c4 ?_
      refine R_aload DX9_whyNotRow_17 0 rfl ?_
      obtain ⟨v5, ev5, h⟩ := bind_some h
      refine R_gR DX9_whyNotRow_18 fl_RX9_7 ev5 ?_
      refine R_iload DX9_whyNotRow_21 1 rfl ?_
      obtain ⟨v6, ev6, h⟩ := bind_some h
      refine R_aI DX9_whyNotRow_22 ev6 ?_
      refine R_constI DX9_whyNotRow_23 ci_m1 ?_
      by_cases c7 : v6 = (iI (-1))
      · replace h := if_t h c7
        refine R_icmp_ne_f DX9_whyNotRow_24 c7 ?_
        refine R_constI DX9_whyNotRow_27 ci_m6 ?_
        cases h
        exact R_ireturn rfl DX9_whyNotRow_29
      · replace h := if_f h c7
        refine R_icmp_ne_t DX9_whyNotRow_24 c7 ?_
        refine R_aload DX9_whyNotRow_30 0 rfl ?_
        obtain ⟨v8, ev8, h⟩ := bind_some h
        refine R_gR DX9_whyNotRow_31 fl_RX9_13 ev8 ?_
        refine R_iload DX9_whyNotRow_34 1 rfl ?_
        obtain ⟨v9, ev9, h⟩ := bind_some h
        refine R_aI DX9_whyNotRow_35 ev9 ?_
        refine R_iload DX9_whyNotRow_36 2 rfl ?_
        obtain ⟨v10, ev10, h⟩ := bind_some h
        refine R_mI DX9_whyNotRow_37 ev10 ?_
        by_cases c11 : v10 = 0
        · replace h := if_t h c11
          refine R_if_eq_t DX9_whyNotRow_38 c11 ?_
          refine R_constI DX9_whyNotRow_44 ci_0 ?_
          refine R_istore [(3, .int (iI 0)), (0, .ref x0), (1, .int x1), (2, .int x2)] DX9_whyNotRow_45 (by decide) rfl ?_
          refine R.sub (L' := [(0, .ref x0), (1, .int x1), (2, .int x2), (3, .int (iI 0))]) [1, 2, 3, 0] rfl ?_
          obtain ⟨r38, hi, h⟩ := bind_some h
          have hE : (Sum.elim (fun u46 : Hp => R G MX9_whyNotRow 164 [] [] u46 (some (.int w.1), w.2)) (Sum.elim (fun u46 : Hp => R G MX9_whyNotRow 78 [] [] u46 (some (.int w.1), w.2)) (Sum.elim (fun u46 : Hp => R G MX9_whyNotRow 101 [] [] u46 (some (.int w.1), w.2)) (fun u46 : Hp => R G MX9_whyNotRow 154 [] [] u46 (some (.int w.1), w.2))))) r38 → ∀ (q3 : Int32) (qs : Hp), iter (fX9_whyNotRow_l46 x0 x1 x2) FU (q3, qs) = some r38 → R G MX9_whyNotRow 46 [(0, .ref x0), (1, .int x1), (2, .int x2), (3, .int q3)] [] qs (some (.int w.1), w.2) := fun hX q3 qs hj => loop_R (fX9_whyNotRow_l46 x0 x1 x2) (fun p46 : Int32 × Hp => R G MX9_whyNotRow 46 [(0, .ref x0), (1, .int x1), (2, .int x2), (3, .int p46.1)] [] p46.2 (some (.int w.1), w.2)) (Sum.elim (fun u46 : Hp => R G MX9_whyNotRow 164 [] [] u46 (some (.int w.1), w.2)) (Sum.elim (fun u46 : Hp => R G MX9_whyNotRow 78 [] [] u46 (some (.int w.1), w.2)) (Sum.elim (fun u46 : Hp => R G MX9_whyNotRow 101 [] [] u46 (some (.int w.1), w.2)) (fun u46 : Hp => R G MX9_whyNotRow 154 [] [] u46 (some (.int w.1), w.2))))) (fun a w hw hc he => tX9_whyNotRow_l46 hw (fun q3 qs e => hc (q3, qs) e) (fun qs e => he (.inl qs) e) (fun qs e => he (.inr (.inl qs)) e) (fun qs e => he (.inr (.inr (.inl qs))) e) (fun qs e => he (.inr (.inr (.inr qs))) e)) FU (q3, qs) r38 hj hX
          refine hE ?_ _ _ hi
          clear hE hi
          rcases r38 with r38a | r38_
          · replace h := el_l h
            refine R_constI DX9_whyNotRow_164 ci_0 ?_
            cases h
            exact R_ireturn rfl DX9_whyNotRow_165
          replace h := el_r h
          rcases r38_ with r38b | r38__
          · replace h := el_l h
            refine R_constI DX9_whyNotRow_78 ci_m2 ?_
            cases h
            exact R_ireturn rfl DX9_whyNotRow_80
          replace h := el_r h
          rcases r38__ with r38c | r38d
          · replace h := el_l h
            refine R_goto DX9_whyNotRow_101 ?_
            exact tX9_whyNotRow_b154 h
          replace h := el_r h
          exact tX9_whyNotRow_b154 h
        · replace h := if_f h c11
          refine R_if_eq_f DX9_whyNotRow_38 c11 ?_
          refine R_constI DX9_whyNotRow_41 ci_m2 ?_
          cases h
          exact R_ireturn rfl DX9_whyNotRow_43
set_option maxRecDepth 8000 in
theorem kX9_isSo {G : Gm} {x0 : Nat} {x1 : Int32} {x2 : Int32} {x3 : Int32} {s : Hp} {w : Int32 × Hp} (h : fX9_isSo x0 x1 x2 x3 s = some w) : (s.2.2 x0).1 = 9 ∧ Call G MX9_isSo [.ref x0, .int x1, .int x2, .int x3] s (some (.int w.1), w.2) := by
  unfold fX9_isSo at h
  obtain ⟨_, e0, h⟩ := bind_some h
  refine ⟨ck_some e0, Call.of_R pnRX9 (Nat.le_of_ble_eq_true rfl) ?_⟩
  clear e0
  show R G MX9_isSo 0 [(0, .ref x0), (1, .int x1), (2, .int x2), (3, .int x3)] [] s (some (.int w.1), w.2)
  refine R_aload DX9_isSo_0 0 rfl ?_
  obtain ⟨v1, ev1, h⟩ := bind_some h
  refine R_gR DX9_isSo_1 fl_RX9_16 ev1 ?_
  refine R_iload DX9_isSo_4 1 rfl ?_
  obtain ⟨v2, ev2, h⟩ := bind_some h
  refine R_aL DX9_isSo_5 ev2 ?_
  refine R_l2i DX9_isSo_6 ?_
  obtain ⟨z3, ez3, h⟩ := lt_some h
  refine R_istoreE ez3 [(4, .int z3), (0, .ref x0), (1, .int x1), (2, .int x2), (3, .int x3)] DX9_isSo_7 (by decide) rfl ?_
  refine R_iload DX9_isSo_9 3 rfl ?_
  refine R_constI DX9_isSo_10 ci_2 ?_
  by_cases c4 : x2 = (iI 2)
  · replace h := if_t h c4
    refine R_icmp_ne_f DX9_isSo_11 c4 ?_
    refine R_aload DX9_isSo_14 1 rfl ?_
    refine R_iload DX9_isSo_15 4 rfl ?_
    refine R_iload DX9_isSo_16 0 rfl ?_
    obtain ⟨r15, er15, h⟩ := bind_some h
    refine R_cV1 [.int x3, .int z3] DX9_isSo_18 kzvX9_windOf ml_RX9_308 ⟨Nat.le_of_ble_eq_true rfl, Nat.le_of_ble_eq_true rfl⟩ rfl (Nat.le_of_ble_eq_true rfl) (kX9_windOf er15) ?_
    refine R_i2l DX9_isSo_21 ?_
    refine R_aload DX9_isSo_22 1 rfl ?_
    obtain ⟨v16, ev16, h⟩ := bind_some h
    refine R_gR DX9_isSo_23 fl_RX9_16 ev16 ?_
    refine R_iload DX9_isSo_26 2 rfl ?_
    refine R_constI DX9_isSo_27 ci_1 ?_
    refine R_iadd DX9_isSo_28 ?_
    obtain ⟨v17, ev17, h⟩ := bind_some h
    refine R_aL DX9_isSo_29 ev17 ?_
    refine R_lcmp DX9_isSo_30 ?_
    by_cases c18 : (lg_cmp (Int32.toInt64 r15.1) v17) = 0
    · replace h := if_t h c18
      refine R_if_ne_f DX9_isSo_31 c18 ?_
      refine R_constI DX9_isSo_34 ci_1 ?_
      refine R_goto DX9_isSo_35 ?_
      cases h
      exact R_zreturn rfl DX9_isSo_39 (by decide)
    · replace h := if_f h c18
      refine R_if_ne_t DX9_isSo_31 c18 ?_
      refine R_constI DX9_isSo_38 ci_0 ?_
      cases h
      exact R_zreturn rfl DX9_isSo_39 (by decide)
  · replace h := if_f h c4
    refine R_icmp_ne_t DX9_isSo_11 c4 ?_
    refine R_aload DX9_isSo_40 1 rfl ?_
    refine R_aload DX9_isSo_41 1 rfl ?_
    obtain ⟨v5, ev5, h⟩ := bind_some h
    refine R_gR DX9_isSo_42 fl_RX9_16 ev5 ?_
    refine R_iload DX9_isSo_45 2 rfl ?_
    refine R_constI DX9_isSo_46 ci_1 ?_
    refine R_iadd DX9_isSo_47 ?_
    obtain ⟨v6, ev6, h⟩ := bind_some h
    refine R_aL DX9_isSo_48 ev6 ?_
    refine R_l2i DX9_isSo_49 ?_
    refine R_aload DX9_isSo_50 1 rfl ?_
    obtain ⟨v7, ev7, h⟩ := bind_some h
    refine R_gR DX9_isSo_51 fl_RX9_16 ev7 ?_
    refine R_iload DX9_isSo_54 2 rfl ?_
    refine R_constI DX9_isSo_55 ci_2 ?_
    refine R_iadd DX9_isSo_56 ?_
    obtain ⟨v8, ev8, h⟩ := bind_some h
    refine R_aL DX9_isSo_57 ev8 ?_
    refine R_l2i DX9_isSo_58 ?_
    refine R_iload DX9_isSo_59 4 rfl ?_
    refine R_iload DX9_isSo_60 0 rfl ?_
    refine R_constI DX9_isSo_62 ci_1 ?_
    obtain ⟨r9, er9, h⟩ := bind_some h
    refine R_cV1 [.int (Int64.toInt32 v6), .int (Int64.toInt32 v8), .int x3, .int z3, .int (iI 1)] DX9_isSo_63 kzvX9_driftOf ml_RX9_530 ⟨Nat.le_of_ble_eq_true rfl, Nat.le_of_ble_eq_true rfl⟩ rfl (Nat.le_of_ble_eq_true rfl) (kX9_driftOf er9) ?_
    refine R_i2l DX9_isSo_66 ?_
    refine R_ldc2 DX9_isSo_67 cw_RX9_534 ?_
    refine R_aload DX9_isSo_70 1 rfl ?_
    obtain ⟨v10, ev10, h⟩ := bind_some h
    refine R_gR DX9_isSo_71 fl_RX9_16 ev10 ?_
    refine R_iload DX9_isSo_74 2 rfl ?_
    refine R_constI DX9_isSo_75 ci_3 ?_
    refine R_iadd DX9_isSo_76 ?_
    obtain ⟨v11, ev11, h⟩ := bind_some h
    refine R_aL DX9_isSo_77 ev11 ?_
    refine R_lmul DX9_isSo_78 ?_
    refine R_aload DX9_isSo_79 1 rfl ?_
    obtain ⟨v12, ev12, h⟩ := bind_some h
    refine R_gR DX9_isSo_80 fl_RX9_16 ev12 ?_
    refine R_iload DX9_isSo_83 2 rfl ?_
    refine R_constI DX9_isSo_84 ci_4 ?_
    refine R_iadd DX9_isSo_85 ?_
    obtain ⟨v13, ev13, h⟩ := bind_some h
    refine R_aL DX9_isSo_86 ev13 ?_
    refine R_ladd DX9_isSo_87 ?_
    refine R_lcmp DX9_isSo_88 ?_
    by_cases c14 : (lg_cmp (Int32.toInt64 r9.1) ((100 * v11) + v13)) = 0
    · replace h := if_t h c14
      refine R_if_ne_f DX9_isSo_89 c14 ?_
      refine R_constI DX9_isSo_92 ci_1 ?_
      refine R_goto DX9_isSo_93 ?_
      cases h
      exact R_zreturn rfl DX9_isSo_97 (by decide)
    · replace h := if_f h c14
      refine R_if_ne_t DX9_isSo_89 c14 ?_
      refine R_constI DX9_isSo_96 ci_0 ?_
      cases h
      exact R_zreturn rfl DX9_isSo_97 (by decide)
set_option maxRecDepth 8000 in
theorem tX9_layersBy_l36 {G : Gm} {x0 : Nat} {x1 : Int32} {x2 : Int32} {x4 : Int32} {x5 : Int32} {o : Option Value × Hp} {a : Int32 × Int32 × Hp} {w : (Int32 × Int32 × Hp) ⊕ ((Int32 × Hp))} (h : fX9_layersBy_l36 x0 x1 x2 x4 x5 a = some w) (hc : ∀ (q6 : Int32) (q7 : Int32) (qs : Hp), w = .inl (q6, q7, qs) → R G MX9_layersBy 36 [(0, .ref x0), (1, .int x1), (2, .int x2), (4, .int x4), (5, .int x5), (6, .int q6), (7, .int q7)] [] qs o) (he0 : ∀ (q6 : Int32) (qs : Hp), w = .inr (q6, qs) → R G MX9_layersBy 77 [(0, .ref x0), (1, .int x1), (2, .int x2), (4, .int x4), (5, .int x5), (6, .int q6)] [] qs o) : R G MX9_layersBy 36 [(0, .ref x0), (1, .int x1), (2, .int x2), (4, .int x4), (5, .int x5), (6, .int a.1), (7, .int a.2.1)] [] a.2.2 o := by
  unfold fX9_layersBy_l36 at h
  refine R_iload DX9_layersBy_36 6 rfl ?_
  refine R_aload DX9_layersBy_38 0 rfl ?_
  obtain ⟨v6, ev6, h⟩ := bind_some h
  refine R_gR DX9_layersBy_39 fl_RX9_13 ev6 ?_
  refine R_iload DX9_layersBy_42 1 rfl ?_
  obtain ⟨v7, ev7, h⟩ := bind_some h
  refine R_aI DX9_layersBy_43 ev7 ?_
  by_cases c8 : v7 ≤ a.2.1
  · replace h := if_t h c8
    refine R_icmp_ge_t DX9_layersBy_44 c8 ?_
    refine R.sub (L' := [(0, .ref x0), (1, .int x1), (2, .int x2), (4, .int x4), (5, .int x5), (6, .int a.1)]) [0, 1, 2, 3, 4, 5] rfl ?_
    cases h
    exact he0 _ _ rfl
  · replace h := if_f h c8
    refine R_icmp_ge_f DX9_layersBy_44 c8 ?_
    refine R_iload DX9_layersBy_47 5 rfl ?_
    by_cases c9 : a.1 = 0
    · replace h := if_t h c9
      refine R_if_eq_t DX9_layersBy_49 c9 ?_
      refine R.sub (L' := [(0, .ref x0), (1, .int x1), (2, .int x2), (4, .int x4), (5, .int x5), (6, .int a.1)]) [0, 1, 2, 3, 4, 5] rfl ?_
      cases h
      exact he0 _ _ rfl
    · replace h := if_f h c9
      refine R_if_eq_f DX9_layersBy_49 c9 ?_
      refine R_aload DX9_layersBy_52 0 rfl ?_
      refine R_constI DX9_layersBy_53 ci_60 ?_
      refine R_iload DX9_layersBy_55 1 rfl ?_
      refine R_imul DX9_layersBy_56 ?_
      refine R_iload DX9_layersBy_57 6 rfl ?_
      refine R_iadd DX9_layersBy_59 ?_
      refine R_iload DX9_layersBy_60 2 rfl ?_
      refine R_iload DX9_layersBy_61 4 rfl ?_
      obtain ⟨r10, er10, h⟩ := bind_some h
      refine R_cV1 [.int (((iI 60) * x1) + a.2.1), .int x2, .int x5] DX9_layersBy_63 kzvX9_isSo ml_RX9_539 ⟨Nat.le_of_ble_eq_true rfl, Nat.le_of_ble_eq_true rfl⟩ rfl (Nat.le_of_ble_eq_true rfl) (kX9_isSo er10) ?_
      refine R_istore [(6, .int r10.1), (0, .ref x0), (1, .int x1), (2, .int x2), (4, .int x4), (5, .int x5), (7, .int a.2.1)] DX9_layersBy_66 (by decide) rfl ?_
      refine R_iload DX9_layersBy_68 6 rfl ?_
      refine R_iload DX9_layersBy_70 3 rfl ?_
      refine R_iadd DX9_layersBy_71 ?_
      obtain ⟨z11, ez11, h⟩ := lt_some h
      refine R_istoreE ez11 [(7, .int z11), (6, .int r10.1), (0, .ref x0), (1, .int x1), (2, .int x2), (4, .int x4), (5, .int x5)] DX9_layersBy_72 (by decide) rfl ?_
      refine R_goto DX9_layersBy_74 ?_
      refine R.sub (L' := [(0, .ref x0), (1, .int x1), (2, .int x2), (4, .int x4), (5, .int x5), (6, .int r10.1), (7, .int z11)]) [2, 3, 4, 5, 6, 1, 0] rfl ?_
      cases h
      exact hc _ _ _ rfl
set_option maxRecDepth 8000 in
theorem tX9_layersBy_b92 {G : Gm} {x0 : Nat} {x1 : Int32} {x2 : Int32} {x5 : Int32} {y0 : Int32} {y1 : Int32} {s : Hp} {o : Option Value × Hp} {w : (Int32 × Int32 × Hp) ⊕ ((Int32 × Hp))} (h : fX9_layersBy_b92 x0 x1 x2 x5 y0 y1 s = some w) (hc : ∀ (q4 : Int32) (q5 : Int32) (qs : Hp), w = .inl (q4, q5, qs) → R G MX9_layersBy 19 [(0, .ref x0), (1, .int x1), (2, .int x2), (4, .int q4), (5, .int q5)] [] qs o) (he0 : ∀ (q4 : Int32) (qs : Hp), w = .inr (q4, qs) → R G MX9_layersBy 101 [(4, .int q4)] [] qs o) : R G MX9_layersBy 92 [(0, .ref x0), (1, .int x1), (2, .int x2), (5, .int x5)] [.int y1, .int y0] s o := by
  unfold fX9_layersBy_b92 at h
  refine R_ior DX9_layersBy_92 ?_
  obtain ⟨z14, ez14, h⟩ := lt_some h
  refine R_istoreE ez14 [(4, .int z14), (0, .ref x0), (1, .int x1), (2, .int x2), (5, .int x5)] DX9_layersBy_93 (by decide) rfl ?_
  refine R_iinc [(5, .int (x5 + iI 1)), (4, .int z14), (0, .ref x0), (1, .int x1), (2, .int x2)] DX9_layersBy_95 4 rfl (v := x5 + iI 1) (by rfl) (by decide) rfl ?_
  refine R_goto DX9_layersBy_98 ?_
  refine R.sub (L' := [(0, .ref x0), (1, .int x1), (2, .int x2), (4, .int z14), (5, .int (x5 + iI 1))]) [2, 3, 4, 1, 0] rfl ?_
  cases h
  exact hc _ _ _ rfl
set_option maxRecDepth 8000 in
theorem tX9_layersBy_b77 {G : Gm} {x0 : Nat} {x1 : Int32} {x2 : Int32} {x4 : Int32} {x5 : Int32} {x6 : Int32} {s : Hp} {o : Option Value × Hp} {w : (Int32 × Int32 × Hp) ⊕ ((Int32 × Hp))} (h : fX9_layersBy_b77 x0 x1 x2 x4 x5 x6 s = some w) (hc : ∀ (q4 : Int32) (q5 : Int32) (qs : Hp), w = .inl (q4, q5, qs) → R G MX9_layersBy 19 [(0, .ref x0), (1, .int x1), (2, .int x2), (4, .int q4), (5, .int q5)] [] qs o) (he0 : ∀ (q4 : Int32) (qs : Hp), w = .inr (q4, qs) → R G MX9_layersBy 101 [(4, .int q4)] [] qs o) : R G MX9_layersBy 77 [(0, .ref x0), (1, .int x1), (2, .int x2), (4, .int x4), (5, .int x5), (6, .int x6)] [] s o := by
  unfold fX9_layersBy_b77 at h
  refine R_iload DX9_layersBy_77 3 rfl ?_
  refine R_iload DX9_layersBy_79 5 rfl ?_
  by_cases c13 : x6 = 0
  · replace h := if_t h c13
    refine R_if_eq_t DX9_layersBy_81 c13 ?_
    refine R_constI DX9_layersBy_91 ci_0 ?_
    refine R.sub (L' := [(0, .ref x0), (1, .int x1), (2, .int x2), (5, .int x5)]) [0, 1, 2, 4] rfl ?_
    exact tX9_layersBy_b92 h hc he0
  · replace h := if_f h c13
    refine R_if_eq_f DX9_layersBy_81 c13 ?_
    refine R_constI DX9_layersBy_84 ci_1 ?_
    refine R_iload DX9_layersBy_85 4 rfl ?_
    refine R_ishl DX9_layersBy_87 ?_
    refine R_goto DX9_layersBy_88 ?_
    refine R.sub (L' := [(0, .ref x0), (1, .int x1), (2, .int x2), (5, .int x5)]) [0, 1, 2, 4] rfl ?_
    exact tX9_layersBy_b92 h hc he0
set_option maxRecDepth 8000 in
theorem tX9_layersBy_l19 {G : Gm} {x0 : Nat} {x1 : Int32} {x2 : Int32} {o : Option Value × Hp} {a : Int32 × Int32 × Hp} {w : (Int32 × Int32 × Hp) ⊕ ((Int32 × Hp))} (h : fX9_layersBy_l19 x0 x1 x2 a = some w) (hc : ∀ (q4 : Int32) (q5 : Int32) (qs : Hp), w = .inl (q4, q5, qs) → R G MX9_layersBy 19 [(0, .ref x0), (1, .int x1), (2, .int x2), (4, .int q4), (5, .int q5)] [] qs o) (he0 : ∀ (q4 : Int32) (qs : Hp), w = .inr (q4, qs) → R G MX9_layersBy 101 [(4, .int q4)] [] qs o) : R G MX9_layersBy 19 [(0, .ref x0), (1, .int x1), (2, .int x2), (4, .int a.1), (5, .int a.2.1)] [] a.2.2 o := by
  unfold fX9_layersBy_l19 at h
  refine R_iload DX9_layersBy_19 4 rfl ?_
  refine R_aload DX9_layersBy_21 0 rfl ?_
  obtain ⟨v3, ev3, h⟩ := bind_some h
  refine R_gR DX9_layersBy_22 fl_RX9_34 ev3 ?_
  refine R_constI DX9_layersBy_25 ci_2 ?_
  obtain ⟨v4, ev4, h⟩ := bind_some h
  refine R_aI DX9_layersBy_26 ev4 ?_
  by_cases c5 : v4 ≤ a.2.1
  · replace h := if_t h c5
    refine R_icmp_ge_t DX9_layersBy_27 c5 ?_
    refine R.sub (L' := [(4, .int a.1)]) [3] rfl ?_
    cases h
    exact he0 _ _ rfl
  · replace h := if_f h c5
    refine R_icmp_ge_f DX9_layersBy_27 c5 ?_
    refine R_constI DX9_layersBy_30 ci_1 ?_
    refine R_istore [(6, .int (iI 1)), (0, .ref x0), (1, .int x1), (2, .int x2), (4, .int a.1), (5, .int a.2.1)] DX9_layersBy_31 (by decide) rfl ?_
    refine R_constI DX9_layersBy_33 ci_0 ?_
    refine R_istore [(7, .int (iI 0)), (6, .int (iI 1)), (0, .ref x0), (1, .int x1), (2, .int x2), (4, .int a.1), (5, .int a.2.1)] DX9_layersBy_34 (by decide) rfl ?_
    refine R.sub (L' := [(0, .ref x0), (1, .int x1), (2, .int x2), (4, .int a.1), (5, .int a.2.1), (6, .int (iI 1)), (7, .int (iI 0))]) [2, 3, 4, 5, 6, 1, 0] rfl ?_
    obtain ⟨r12, hi, h⟩ := bind_some h
    have hE : (fun u36 : Int32 × Hp => R G MX9_layersBy 77 [(0, .ref x0), (1, .int x1), (2, .int x2), (4, .int a.1), (5, .int a.2.1), (6, .int u36.1)] [] u36.2 o) r12 → ∀ (q6 : Int32) (q7 : Int32) (qs : Hp), iter (fX9_layersBy_l36 x0 x1 x2 a.1 a.2.1) FU (q6, q7, qs) = some r12 → R G MX9_layersBy 36 [(0, .ref x0), (1, .int x1), (2, .int x2), (4, .int a.1), (5, .int a.2.1), (6, .int q6), (7, .int q7)] [] qs o := fun hX q6 q7 qs hj => loop_R (fX9_layersBy_l36 x0 x1 x2 a.1 a.2.1) (fun p36 : Int32 × Int32 × Hp => R G MX9_layersBy 36 [(0, .ref x0), (1, .int x1), (2, .int x2), (4, .int a.1), (5, .int a.2.1), (6, .int p36.1), (7, .int p36.2.1)] [] p36.2.2 o) (fun u36 : Int32 × Hp => R G MX9_layersBy 77 [(0, .ref x0), (1, .int x1), (2, .int x2), (4, .int a.1), (5, .int a.2.1), (6, .int u36.1)] [] u36.2 o) (fun a w hw hc he => tX9_layersBy_l36 hw (fun q6 q7 qs e => hc (q6, q7, qs) e) (fun q6 qs e => he (q6, qs) e)) FU (q6, q7, qs) r12 hj hX
    refine hE ?_ _ _ _ hi
    clear hE hi
    exact tX9_layersBy_b77 h hc he0
set_option maxRecDepth 8000 in
theorem kX9_layersBy {G : Gm} {x0 : Nat} {x1 : Int32} {x2 : Int32} {s : Hp} {w : Int32 × Hp} (h : fX9_layersBy x0 x1 x2 s = some w) : (s.2.2 x0).1 = 9 ∧ Call G MX9_layersBy [.ref x0, .int x1, .int x2] s (some (.int w.1), w.2) := by
  unfold fX9_layersBy at h
  obtain ⟨_, e0, h⟩ := bind_some h
  refine ⟨ck_some e0, Call.of_R pnRX9 (Nat.le_of_ble_eq_true rfl) ?_⟩
  clear e0
  show R G MX9_layersBy 0 [(0, .ref x0), (1, .int x1), (2, .int x2)] [] s (some (.int w.1), w.2)
  refine R_aload DX9_layersBy_0 0 rfl ?_
  refine R_iload DX9_layersBy_1 1 rfl ?_
  refine R_iload DX9_layersBy_2 2 rfl ?_
  obtain ⟨r1, er1, h⟩ := bind_some h
  refine R_cV1 [.int x1, .int x2] DX9_layersBy_3 kzvX9_whyNotRow ml_RX9_536 ⟨Nat.le_of_ble_eq_true rfl, Nat.le_of_ble_eq_true rfl⟩ rfl (Nat.le_of_ble_eq_true rfl) (kX9_whyNotRow er1) ?_
  refine R_istore [(3, .int r1.1), (0, .ref x0), (1, .int x1), (2, .int x2)] DX9_layersBy_6 (by decide) rfl ?_
  refine R_iload DX9_layersBy_7 0 rfl ?_
  by_cases c2 : r1.1 = 0
  · replace h := if_t h c2
    refine R_if_eq_t DX9_layersBy_8 c2 ?_
    refine R_constI DX9_layersBy_13 ci_0 ?_
    refine R_istore [(4, .int (iI 0)), (3, .int r1.1), (0, .ref x0), (1, .int x1), (2, .int x2)] DX9_layersBy_14 (by decide) rfl ?_
    refine R_constI DX9_layersBy_16 ci_0 ?_
    refine R_istore [(5, .int (iI 0)), (4, .int (iI 0)), (3, .int r1.1), (0, .ref x0), (1, .int x1), (2, .int x2)] DX9_layersBy_17 (by decide) rfl ?_
    refine R.sub (L' := [(0, .ref x0), (1, .int x1), (2, .int x2), (4, .int (iI 0)), (5, .int (iI 0))]) [3, 4, 5, 1, 0] rfl ?_
    obtain ⟨r15, hi, h⟩ := bind_some h
    have hE : (fun u19 : Int32 × Hp => R G MX9_layersBy 101 [(4, .int u19.1)] [] u19.2 (some (.int w.1), w.2)) r15 → ∀ (q4 : Int32) (q5 : Int32) (qs : Hp), iter (fX9_layersBy_l19 x0 x1 x2) FU (q4, q5, qs) = some r15 → R G MX9_layersBy 19 [(0, .ref x0), (1, .int x1), (2, .int x2), (4, .int q4), (5, .int q5)] [] qs (some (.int w.1), w.2) := fun hX q4 q5 qs hj => loop_R (fX9_layersBy_l19 x0 x1 x2) (fun p19 : Int32 × Int32 × Hp => R G MX9_layersBy 19 [(0, .ref x0), (1, .int x1), (2, .int x2), (4, .int p19.1), (5, .int p19.2.1)] [] p19.2.2 (some (.int w.1), w.2)) (fun u19 : Int32 × Hp => R G MX9_layersBy 101 [(4, .int u19.1)] [] u19.2 (some (.int w.1), w.2)) (fun a w hw hc he => tX9_layersBy_l19 hw (fun q4 q5 qs e => hc (q4, q5, qs) e) (fun q4 qs e => he (q4, qs) e)) FU (q4, q5, qs) r15 hj hX
    refine hE ?_ _ _ _ hi
    clear hE hi
    refine R_iload DX9_layersBy_101 0 rfl ?_
    cases h
    exact R_ireturn rfl DX9_layersBy_103
  · replace h := if_f h c2
    refine R_if_eq_f DX9_layersBy_8 c2 ?_
    refine R_iload DX9_layersBy_11 0 rfl ?_
    cases h
    exact R_ireturn rfl DX9_layersBy_12
set_option maxRecDepth 8000 in
theorem kX9_smoke {G : Gm} {x0 : Nat} {x1 : Int32} {s : Hp} {w : Int32 × Hp} (h : fX9_smoke x0 x1 s = some w) : (s.2.2 x0).1 = 9 ∧ Call G MX9_smoke [.ref x0, .int x1] s (some (.int w.1), w.2) := by
  unfold fX9_smoke at h
  obtain ⟨_, e0, h⟩ := bind_some h
  refine ⟨ck_some e0, Call.of_R pnRX9 (Nat.le_of_ble_eq_true rfl) ?_⟩
  clear e0
  show R G MX9_smoke 0 [(0, .ref x0), (1, .int x1)] [] s (some (.int w.1), w.2)
  refine R_aload DX9_smoke_0 0 rfl ?_
  refine R_constI DX9_smoke_1 ci_0 ?_
  obtain ⟨s1, es1, h⟩ := bind_some h
  refine R_pI DX9_smoke_2 fl_RX9_92 es1 ?_
  refine R_aload DX9_smoke_5 0 rfl ?_
  refine R_iload DX9_smoke_6 1 rfl ?_
  refine R_constI DX9_smoke_7 ci_5 ?_
  obtain ⟨r2, er2, h⟩ := bind_some h
  refine R_cV1 [.int x1, .int (iI 5)] DX9_smoke_8 kzvX9_layersBy ml_RX9_542 ⟨Nat.le_of_ble_eq_true rfl, Nat.le_of_ble_eq_true rfl⟩ rfl (Nat.le_of_ble_eq_true rfl) (kX9_layersBy er2) ?_
  cases h
  exact R_ireturn rfl DX9_smoke_11
set_option maxRecDepth 8000 in
theorem kX9_kites {G : Gm} {x0 : Nat} {x1 : Int32} {s : Hp} {w : Int32 × Hp} (h : fX9_kites x0 x1 s = some w) : (s.2.2 x0).1 = 9 ∧ Call G MX9_kites [.ref x0, .int x1] s (some (.int w.1), w.2) := by
  unfold fX9_kites at h
  obtain ⟨_, e0, h⟩ := bind_some h
  refine ⟨ck_some e0, Call.of_R pnRX9 (Nat.le_of_ble_eq_true rfl) ?_⟩
  clear e0
  show R G MX9_kites 0 [(0, .ref x0), (1, .int x1)] [] s (some (.int w.1), w.2)
  refine R_aload DX9_kites_0 0 rfl ?_
  refine R_constI DX9_kites_1 ci_0 ?_
  obtain ⟨s1, es1, h⟩ := bind_some h
  refine R_pI DX9_kites_2 fl_RX9_92 es1 ?_
  refine R_aload DX9_kites_5 0 rfl ?_
  refine R_iload DX9_kites_6 1 rfl ?_
  refine R_constI DX9_kites_7 ci_2 ?_
  obtain ⟨r2, er2, h⟩ := bind_some h
  refine R_cV1 [.int x1, .int (iI 2)] DX9_kites_8 kzvX9_layersBy ml_RX9_542 ⟨Nat.le_of_ble_eq_true rfl, Nat.le_of_ble_eq_true rfl⟩ rfl (Nat.le_of_ble_eq_true rfl) (kX9_layersBy er2) ?_
  cases h
  exact R_ireturn rfl DX9_kites_11
set_option maxRecDepth 8000 in
theorem tX9_known_b84 {G : Gm} {x0 : Nat} {x1 : Int32} {x2 : Int32} {x3 : Int32} {x4 : Int32} {x6 : Int32} {y0 : Int32} {s : Hp} {o : Option Value × Hp} {w : (Int32 × Int32 × Hp) ⊕ ((Int32 × Hp))} (h : fX9_known_b84 x0 x1 x2 x3 x4 x6 y0 s = some w) (hc : ∀ (q5 : Int32) (q6 : Int32) (qs : Hp), w = .inl (q5, q6, qs) → R G MX9_known 50 [(0, .ref x0), (1, .int x1), (2, .int x2), (3, .int x3), (4, .int x4), (5, .int q5), (6, .int q6)] [] qs o) (he0 : ∀ (q5 : Int32) (qs : Hp), w = .inr (q5, qs) → R G MX9_known 92 [(0, .ref x0), (1, .int x1), (2, .int x2), (3, .int x3), (4, .int x4), (5, .int q5)] [] qs o) : R G MX9_known 84 [(0, .ref x0), (1, .int x1), (2, .int x2), (3, .int x3), (4, .int x4), (6, .int x6)] [.int y0] s o := by
  unfold fX9_known_b84 at h
  refine R_istore [(5, .int y0), (0, .ref x0), (1, .int x1), (2, .int x2), (3, .int x3), (4, .int x4), (6, .int x6)] DX9_known_84 (by decide) rfl ?_
  refine R_iinc [(6, .int (x6 + iI 1)), (5, .int y0), (0, .ref x0), (1, .int x1), (2, .int x2), (3, .int x3), (4, .int x4)] DX9_known_86 6 rfl (v := x6 + iI 1) (by rfl) (by decide) rfl ?_
  refine R_goto DX9_known_89 ?_
  refine R.sub (L' := [(0, .ref x0), (1, .int x1), (2, .int x2), (3, .int x3), (4, .int x4), (5, .int y0), (6, .int (x6 + iI 1))]) [2, 3, 4, 5, 6, 1, 0] rfl ?_
  cases h
  exact hc _ _ _ rfl
set_option maxRecDepth 8000 in
theorem tX9_known_l50 {G : Gm} {x0 : Nat} {x1 : Int32} {x2 : Int32} {x3 : Int32} {x4 : Int32} {o : Option Value × Hp} {a : Int32 × Int32 × Hp} {w : (Int32 × Int32 × Hp) ⊕ ((Int32 × Hp))} (h : fX9_known_l50 x0 x1 x2 x3 x4 a = some w) (hc : ∀ (q5 : Int32) (q6 : Int32) (qs : Hp), w = .inl (q5, q6, qs) → R G MX9_known 50 [(0, .ref x0), (1, .int x1), (2, .int x2), (3, .int x3), (4, .int x4), (5, .int q5), (6, .int q6)] [] qs o) (he0 : ∀ (q5 : Int32) (qs : Hp), w = .inr (q5, qs) → R G MX9_known 92 [(0, .ref x0), (1, .int x1), (2, .int x2), (3, .int x3), (4, .int x4), (5, .int q5)] [] qs o) : R G MX9_known 50 [(0, .ref x0), (1, .int x1), (2, .int x2), (3, .int x3), (4, .int x4), (5, .int a.1), (6, .int a.2.1)] [] a.2.2 o := by
  unfold fX9_known_l50 at h
  refine R_iload DX9_known_50 6 rfl ?_
  refine R_iload DX9_known_52 2 rfl ?_
  by_cases c10 : x2 ≤ a.2.1
  · replace h := if_t h c10
    refine R_icmp_ge_t DX9_known_53 c10 ?_
    refine R.sub (L' := [(0, .ref x0), (1, .int x1), (2, .int x2), (3, .int x3), (4, .int x4), (5, .int a.1)]) [0, 1, 2, 3, 4, 5] rfl ?_
    cases h
    exact he0 _ _ rfl
  · replace h := if_f h c10
    refine R_icmp_ge_f DX9_known_53 c10 ?_
    refine R_iload DX9_known_56 5 rfl ?_
    by_cases c11 : a.1 = 0
    · replace h := if_t h c11
      refine R_if_eq_t DX9_known_58 c11 ?_
      refine R.sub (L' := [(0, .ref x0), (1, .int x1), (2, .int x2), (3, .int x3), (4, .int x4), (5, .int a.1)]) [0, 1, 2, 3, 4, 5] rfl ?_
      cases h
      exact he0 _ _ rfl
    · replace h := if_f h c11
      refine R_if_eq_f DX9_known_58 c11 ?_
      refine R_aload DX9_known_61 0 rfl ?_
      refine R_iload DX9_known_62 4 rfl ?_
      refine R_iload DX9_known_64 6 rfl ?_
      obtain ⟨r12, er12, h⟩ := bind_some h
      refine R_cV1 [.int x4, .int a.2.1] DX9_known_66 kzvX9_windOf ml_RX9_308 ⟨Nat.le_of_ble_eq_true rfl, Nat.le_of_ble_eq_true rfl⟩ rfl (Nat.le_of_ble_eq_true rfl) (kX9_windOf er12) ?_
      refine R_aload DX9_known_69 0 rfl ?_
      refine R_iload DX9_known_70 1 rfl ?_
      refine R_iload DX9_known_71 6 rfl ?_
      obtain ⟨r13, er13, h⟩ := bind_some h
      refine R_cV1 [.int x1, .int a.2.1] DX9_known_73 kzvX9_windOf ml_RX9_308 ⟨Nat.le_of_ble_eq_true rfl, Nat.le_of_ble_eq_true rfl⟩ rfl (Nat.le_of_ble_eq_true rfl) (kX9_windOf er13) ?_
      by_cases c14 : r12.1 = r13.1
      · replace h := if_t h c14
        refine R_icmp_ne_f DX9_known_76 c14 ?_
        refine R_constI DX9_known_79 ci_1 ?_
        refine R_goto DX9_known_80 ?_
        refine R.sub (L' := [(0, .ref x0), (1, .int x1), (2, .int x2), (3, .int x3), (4, .int x4), (6, .int a.2.1)]) [0, 1, 2, 3, 4, 6] rfl ?_
        exact tX9_known_b84 h hc he0
      · replace h := if_f h c14
        refine R_icmp_ne_t DX9_known_76 c14 ?_
        refine R_constI DX9_known_83 ci_0 ?_
        refine R.sub (L' := [(0, .ref x0), (1, .int x1), (2, .int x2), (3, .int x3), (4, .int x4), (6, .int a.2.1)]) [0, 1, 2, 3, 4, 6] rfl ?_
        exact tX9_known_b84 h hc he0
set_option maxRecDepth 8000 in
theorem tX9_known_b103 {G : Gm} {x0 : Nat} {x1 : Int32} {x2 : Int32} {x4 : Int32} {y0 : Int32} {y1 : Int32} {s : Hp} {o : Option Value × Hp} {w : (Int32 × Int32 × Hp) ⊕ ((Int32 × Hp))} (h : fX9_known_b103 x0 x1 x2 x4 y0 y1 s = some w) (hc : ∀ (q3 : Int32) (q4 : Int32) (qs : Hp), w = .inl (q3, q4, qs) → R G MX9_known 33 [(0, .ref x0), (1, .int x1), (2, .int x2), (3, .int q3), (4, .int q4)] [] qs o) (he0 : ∀ (q3 : Int32) (qs : Hp), w = .inr (q3, qs) → R G MX9_known 111 [(0, .ref x0), (1, .int x1), (2, .int x2), (3, .int q3)] [] qs o) : R G MX9_known 103 [(0, .ref x0), (1, .int x1), (2, .int x2), (4, .int x4)] [.int y1, .int y0] s o := by
  unfold fX9_known_b103 at h
  refine R_iadd DX9_known_103 ?_
  obtain ⟨z17, ez17, h⟩ := lt_some h
  refine R_istoreE ez17 [(3, .int z17), (0, .ref x0), (1, .int x1), (2, .int x2), (4, .int x4)] DX9_known_104 (by decide) rfl ?_
  refine R_iinc [(4, .int (x4 + iI 1)), (3, .int z17), (0, .ref x0), (1, .int x1), (2, .int x2)] DX9_known_105 4 rfl (v := x4 + iI 1) (by rfl) (by decide) rfl ?_
  refine R_goto DX9_known_108 ?_
  refine R.sub (L' := [(0, .ref x0), (1, .int x1), (2, .int x2), (3, .int z17), (4, .int (x4 + iI 1))]) [2, 3, 4, 1, 0] rfl ?_
  cases h
  exact hc _ _ _ rfl
set_option maxRecDepth 8000 in
theorem tX9_known_b92 {G : Gm} {x0 : Nat} {x1 : Int32} {x2 : Int32} {x3 : Int32} {x4 : Int32} {x5 : Int32} {s : Hp} {o : Option Value × Hp} {w : (Int32 × Int32 × Hp) ⊕ ((Int32 × Hp))} (h : fX9_known_b92 x0 x1 x2 x3 x4 x5 s = some w) (hc : ∀ (q3 : Int32) (q4 : Int32) (qs : Hp), w = .inl (q3, q4, qs) → R G MX9_known 33 [(0, .ref x0), (1, .int x1), (2, .int x2), (3, .int q3), (4, .int q4)] [] qs o) (he0 : ∀ (q3 : Int32) (qs : Hp), w = .inr (q3, qs) → R G MX9_known 111 [(0, .ref x0), (1, .int x1), (2, .int x2), (3, .int q3)] [] qs o) : R G MX9_known 92 [(0, .ref x0), (1, .int x1), (2, .int x2), (3, .int x3), (4, .int x4), (5, .int x5)] [] s o := by
  unfold fX9_known_b92 at h
  refine R_iload DX9_known_92 3 rfl ?_
  refine R_iload DX9_known_93 5 rfl ?_
  by_cases c16 : x5 = 0
  · replace h := if_t h c16
    refine R_if_eq_t DX9_known_95 c16 ?_
    refine R_constI DX9_known_102 ci_0 ?_
    refine R.sub (L' := [(0, .ref x0), (1, .int x1), (2, .int x2), (4, .int x4)]) [0, 1, 2, 4] rfl ?_
    exact tX9_known_b103 h hc he0
  · replace h := if_f h c16
    refine R_if_eq_f DX9_known_95 c16 ?_
    refine R_constI DX9_known_98 ci_1 ?_
    refine R_goto DX9_known_99 ?_
    refine R.sub (L' := [(0, .ref x0), (1, .int x1), (2, .int x2), (4, .int x4)]) [0, 1, 2, 4] rfl ?_
    exact tX9_known_b103 h hc he0
set_option maxRecDepth 8000 in
theorem tX9_known_l33 {G : Gm} {x0 : Nat} {x1 : Int32} {x2 : Int32} {o : Option Value × Hp} {a : Int32 × Int32 × Hp} {w : (Int32 × Int32 × Hp) ⊕ ((Int32 × Hp))} (h : fX9_known_l33 x0 x1 x2 a = some w) (hc : ∀ (q3 : Int32) (q4 : Int32) (qs : Hp), w = .inl (q3, q4, qs) → R G MX9_known 33 [(0, .ref x0), (1, .int x1), (2, .int x2), (3, .int q3), (4, .int q4)] [] qs o) (he0 : ∀ (q3 : Int32) (qs : Hp), w = .inr (q3, qs) → R G MX9_known 111 [(0, .ref x0), (1, .int x1), (2, .int x2), (3, .int q3)] [] qs o) : R G MX9_known 33 [(0, .ref x0), (1, .int x1), (2, .int x2), (3, .int a.1), (4, .int a.2.1)] [] a.2.2 o := by
  unfold fX9_known_l33 at h
  refine R_iload DX9_known_33 4 rfl ?_
  refine R_aload DX9_known_35 0 rfl ?_
  obtain ⟨v7, ev7, h⟩ := bind_some h
  refine R_gR DX9_known_36 fl_RX9_34 ev7 ?_
  refine R_constI DX9_known_39 ci_2 ?_
  obtain ⟨v8, ev8, h⟩ := bind_some h
  refine R_aI DX9_known_40 ev8 ?_
  by_cases c9 : v8 ≤ a.2.1
  · replace h := if_t h c9
    refine R_icmp_ge_t DX9_known_41 c9 ?_
    refine R.sub (L' := [(0, .ref x0), (1, .int x1), (2, .int x2), (3, .int a.1)]) [0, 1, 2, 3] rfl ?_
    cases h
    exact he0 _ _ rfl
  · replace h := if_f h c9
    refine R_icmp_ge_f DX9_known_41 c9 ?_
    refine R_constI DX9_known_44 ci_1 ?_
    refine R_istore [(5, .int (iI 1)), (0, .ref x0), (1, .int x1), (2, .int x2), (3, .int a.1), (4, .int a.2.1)] DX9_known_45 (by decide) rfl ?_
    refine R_constI DX9_known_47 ci_0 ?_
    refine R_istore [(6, .int (iI 0)), (5, .int (iI 1)), (0, .ref x0), (1, .int x1), (2, .int x2), (3, .int a.1), (4, .int a.2.1)] DX9_known_48 (by decide) rfl ?_
    refine R.sub (L' := [(0, .ref x0), (1, .int x1), (2, .int x2), (3, .int a.1), (4, .int a.2.1), (5, .int (iI 1)), (6, .int (iI 0))]) [2, 3, 4, 5, 6, 1, 0] rfl ?_
    obtain ⟨r15, hi, h⟩ := bind_some h
    have hE : (fun u50 : Int32 × Hp => R G MX9_known 92 [(0, .ref x0), (1, .int x1), (2, .int x2), (3, .int a.1), (4, .int a.2.1), (5, .int u50.1)] [] u50.2 o) r15 → ∀ (q5 : Int32) (q6 : Int32) (qs : Hp), iter (fX9_known_l50 x0 x1 x2 a.1 a.2.1) FU (q5, q6, qs) = some r15 → R G MX9_known 50 [(0, .ref x0), (1, .int x1), (2, .int x2), (3, .int a.1), (4, .int a.2.1), (5, .int q5), (6, .int q6)] [] qs o := fun hX q5 q6 qs hj => loop_R (fX9_known_l50 x0 x1 x2 a.1 a.2.1) (fun p50 : Int32 × Int32 × Hp => R G MX9_known 50 [(0, .ref x0), (1, .int x1), (2, .int x2), (3, .int a.1), (4, .int a.2.1), (5, .int p50.1), (6, .int p50.2.1)] [] p50.2.2 o) (fun u50 : Int32 × Hp => R G MX9_known 92 [(0, .ref x0), (1, .int x1), (2, .int x2), (3, .int a.1), (4, .int a.2.1), (5, .int u50.1)] [] u50.2 o) (fun a w hw hc he => tX9_known_l50 hw (fun q5 q6 qs e => hc (q5, q6, qs) e) (fun q5 qs e => he (q5, qs) e)) FU (q5, q6, qs) r15 hj hX
    refine hE ?_ _ _ _ hi
    clear hE hi
    exact tX9_known_b92 h hc he0
set_option maxRecDepth 8000 in
theorem tX9_known_l18 {G : Gm} {x0 : Nat} {x1 : Int32} {o : Option Value × Hp} {a : Int32 × Hp} {w : (Int32 × Hp) ⊕ ((Hp) ⊕ (Int32 × Hp))} (h : fX9_known_l18 x0 x1 a = some w) (hc : ∀ (q2 : Int32) (qs : Hp), w = .inl (q2, qs) → R G MX9_known 18 [(0, .ref x0), (1, .int x1), (2, .int q2)] [] qs o) (he0 : ∀ (qs : Hp), w = .inr (.inl qs) → R G MX9_known 124 [] [] qs o) (he1 : ∀ (q2 : Int32) (qs : Hp), w = .inr (.inr (q2, qs)) → R G MX9_known 116 [(2, .int q2)] [] qs o) : R G MX9_known 18 [(0, .ref x0), (1, .int x1), (2, .int a.1)] [] a.2 o := by
  unfold fX9_known_l18 at h
  refine R_iload DX9_known_18 2 rfl ?_
  refine R_aload DX9_known_19 0 rfl ?_
  obtain ⟨v4, ev4, h⟩ := bind_some h
  refine R_gR DX9_known_20 fl_RX9_34 ev4 ?_
  refine R_constI DX9_known_23 ci_3 ?_
  obtain ⟨v5, ev5, h⟩ := bind_some h
  refine R_aI DX9_known_24 ev5 ?_
  by_cases c6 : v5 < a.1
  · replace h := if_t h c6
    refine R_icmp_gt_t DX9_known_25 c6 ?_
    refine R.sub (L' := []) [] rfl ?_
    cases h
    exact he0 _ rfl
  · replace h := if_f h c6
    refine R_icmp_gt_f DX9_known_25 c6 ?_
    refine R_constI DX9_known_28 ci_0 ?_
    refine R_istore [(3, .int (iI 0)), (0, .ref x0), (1, .int x1), (2, .int a.1)] DX9_known_29 (by decide) rfl ?_
    refine R_constI DX9_known_30 ci_0 ?_
    refine R_istore [(4, .int (iI 0)), (3, .int (iI 0)), (0, .ref x0), (1, .int x1), (2, .int a.1)] DX9_known_31 (by decide) rfl ?_
    refine R.sub (L' := [(0, .ref x0), (1, .int x1), (2, .int a.1), (3, .int (iI 0)), (4, .int (iI 0))]) [2, 3, 4, 1, 0] rfl ?_
    obtain ⟨r18, hi, h⟩ := bind_some h
    have hE : (fun u33 : Int32 × Hp => R G MX9_known 111 [(0, .ref x0), (1, .int x1), (2, .int a.1), (3, .int u33.1)] [] u33.2 o) r18 → ∀ (q3 : Int32) (q4 : Int32) (qs : Hp), iter (fX9_known_l33 x0 x1 a.1) FU (q3, q4, qs) = some r18 → R G MX9_known 33 [(0, .ref x0), (1, .int x1), (2, .int a.1), (3, .int q3), (4, .int q4)] [] qs o := fun hX q3 q4 qs hj => loop_R (fX9_known_l33 x0 x1 a.1) (fun p33 : Int32 × Int32 × Hp => R G MX9_known 33 [(0, .ref x0), (1, .int x1), (2, .int a.1), (3, .int p33.1), (4, .int p33.2.1)] [] p33.2.2 o) (fun u33 : Int32 × Hp => R G MX9_known 111 [(0, .ref x0), (1, .int x1), (2, .int a.1), (3, .int u33.1)] [] u33.2 o) (fun a w hw hc he => tX9_known_l33 hw (fun q3 q4 qs e => hc (q3, q4, qs) e) (fun q3 qs e => he (q3, qs) e)) FU (q3, q4, qs) r18 hj hX
    refine hE ?_ _ _ _ hi
    clear hE hi
    refine R_iload DX9_known_111 3 rfl ?_
    refine R_constI DX9_known_112 ci_1 ?_
    by_cases c19 : r18.1 = (iI 1)
    · replace h := if_t h c19
      refine R_icmp_ne_f DX9_known_113 c19 ?_
      refine R.sub (L' := [(2, .int a.1)]) [2] rfl ?_
      cases h
      exact he1 _ _ rfl
    · replace h := if_f h c19
      refine R_icmp_ne_t DX9_known_113 c19 ?_
      refine R_iinc [(2, .int (a.1 + iI 1)), (0, .ref x0), (1, .int x1), (3, .int r18.1)] DX9_known_118 2 rfl (v := a.1 + iI 1) (by rfl) (by decide) rfl ?_
      refine R_goto DX9_known_121 ?_
      refine R.sub (L' := [(0, .ref x0), (1, .int x1), (2, .int (a.1 + iI 1))]) [1, 2, 0] rfl ?_
      cases h
      exact hc _ _ rfl
set_option maxRecDepth 8000 in
theorem kX9_known {G : Gm} {x0 : Nat} {x1 : Int32} {s : Hp} {w : Int32 × Hp} (h : fX9_known x0 x1 s = some w) : (s.2.2 x0).1 = 9 ∧ Call G MX9_known [.ref x0, .int x1] s (some (.int w.1), w.2) := by
  unfold fX9_known at h
  obtain ⟨_, e0, h⟩ := bind_some h
  refine ⟨ck_some e0, Call.of_R pnRX9 (Nat.le_of_ble_eq_true rfl) ?_⟩
  clear e0
  show R G MX9_known 0 [(0, .ref x0), (1, .int x1)] [] s (some (.int w.1), w.2)
  refine R_aload DX9_known_0 0 rfl ?_
  refine R_constI DX9_known_1 ci_0 ?_
  obtain ⟨s1, es1, h⟩ := bind_some h
  refine R_pI DX9_known_2 fl_RX9_92 es1 ?_
  refine R_aload DX9_known_5 0 rfl ?_
  refine R_iload DX9_known_6 1 rfl ?_
  obtain ⟨r2, er2, h⟩ := bind_some h
  refine R_cV1 [.int x1] DX9_known_7 kzvX9_isLayer ml_RX9_302 ⟨Nat.le_of_ble_eq_true rfl, Nat.le_of_ble_eq_true rfl⟩ rfl (Nat.le_of_ble_eq_true rfl) (kX9_isLayer er2) ?_
  by_cases c3 : r2.1 = 0
  · replace h := if_t h c3
    refine R_if_ne_f DX9_known_10 c3 ?_
    refine R_constI DX9_known_13 ci_m2 ?_
    cases h
    exact R_ireturn rfl DX9_known_15
  · replace h := if_f h c3
    refine R_if_ne_t DX9_known_10 c3 ?_
    refine R_constI DX9_known_16 ci_0 ?_
    refine R_istore [(2, .int (iI 0)), (0, .ref x0), (1, .int x1)] DX9_known_17 (by decide) rfl ?_
    refine R.sub (L' := [(0, .ref x0), (1, .int x1), (2, .int (iI 0))]) [1, 2, 0] rfl ?_
    obtain ⟨r20, hi, h⟩ := bind_some h
    have hE : (Sum.elim (fun u18 : Hp => R G MX9_known 124 [] [] u18 (some (.int w.1), w.2)) (fun u18 : Int32 × Hp => R G MX9_known 116 [(2, .int u18.1)] [] u18.2 (some (.int w.1), w.2))) r20 → ∀ (q2 : Int32) (qs : Hp), iter (fX9_known_l18 x0 x1) FU (q2, qs) = some r20 → R G MX9_known 18 [(0, .ref x0), (1, .int x1), (2, .int q2)] [] qs (some (.int w.1), w.2) := fun hX q2 qs hj => loop_R (fX9_known_l18 x0 x1) (fun p18 : Int32 × Hp => R G MX9_known 18 [(0, .ref x0), (1, .int x1), (2, .int p18.1)] [] p18.2 (some (.int w.1), w.2)) (Sum.elim (fun u18 : Hp => R G MX9_known 124 [] [] u18 (some (.int w.1), w.2)) (fun u18 : Int32 × Hp => R G MX9_known 116 [(2, .int u18.1)] [] u18.2 (some (.int w.1), w.2))) (fun a w hw hc he => tX9_known_l18 hw (fun q2 qs e => hc (q2, qs) e) (fun qs e => he (.inl qs) e) (fun q2 qs e => he (.inr (q2, qs)) e)) FU (q2, qs) r20 hj hX
    refine hE ?_ _ _ hi
    clear hE hi
    rcases r20 with r20a | r20b
    · replace h := el_l h
      refine R_constI DX9_known_124 ci_m1 ?_
      cases h
      exact R_ireturn rfl DX9_known_125
    replace h := el_r h
    refine R_iload DX9_known_116 0 rfl ?_
    cases h
    exact R_ireturn rfl DX9_known_117
set_option maxRecDepth 8000 in
theorem kX9_price {G : Gm} {x0 : Nat} {x1 : Int32} {s : Hp} {w : Int32 × Hp} (h : fX9_price x0 x1 s = some w) : (s.2.2 x0).1 = 9 ∧ Call G MX9_price [.ref x0, .int x1] s (some (.int w.1), w.2) := by
  unfold fX9_price at h
  obtain ⟨_, e0, h⟩ := bind_some h
  refine ⟨ck_some e0, Call.of_R pnRX9 (Nat.le_of_ble_eq_true rfl) ?_⟩
  clear e0
  show R G MX9_price 0 [(0, .ref x0), (1, .int x1)] [] s (some (.int w.1), w.2)
  refine R_aload DX9_price_0 0 rfl ?_
  refine R_constI DX9_price_1 ci_0 ?_
  obtain ⟨s1, es1, h⟩ := bind_some h
  refine R_pI DX9_price_2 fl_RX9_92 es1 ?_
  refine R_aload DX9_price_5 0 rfl ?_
  refine R_iload DX9_price_6 1 rfl ?_
  obtain ⟨r2, er2, h⟩ := bind_some h
  refine R_cV1 [.int x1] DX9_price_7 kzvX9_isLayer ml_RX9_302 ⟨Nat.le_of_ble_eq_true rfl, Nat.le_of_ble_eq_true rfl⟩ rfl (Nat.le_of_ble_eq_true rfl) (kX9_isLayer er2) ?_
  by_cases c3 : r2.1 = 0
  · replace h := if_t h c3
    refine R_if_ne_f DX9_price_10 c3 ?_
    refine R_constI DX9_price_13 ci_m2 ?_
    refine R_goto DX9_price_15 ?_
    cases h
    exact R_ireturn rfl DX9_price_37
  · replace h := if_f h c3
    refine R_if_ne_t DX9_price_10 c3 ?_
    refine R_iload DX9_price_18 1 rfl ?_
    refine R_aload DX9_price_19 0 rfl ?_
    obtain ⟨v4, ev4, h⟩ := bind_some h
    refine R_gR DX9_price_20 fl_RX9_34 ev4 ?_
    refine R_constI DX9_price_23 ci_5 ?_
    obtain ⟨v5, ev5, h⟩ := bind_some h
    refine R_aI DX9_price_24 ev5 ?_
    by_cases c6 : x1 ≤ v5
    · replace h := if_t h c6
      refine R_icmp_le_t DX9_price_25 c6 ?_
      refine R_aload DX9_price_32 0 rfl ?_
      refine R_iload DX9_price_33 1 rfl ?_
      obtain ⟨r7, er7, h⟩ := bind_some h
      refine R_cV1 [.int x1] DX9_price_34 kzvX9_earns ml_RX9_377 ⟨Nat.le_of_ble_eq_true rfl, Nat.le_of_ble_eq_true rfl⟩ rfl (Nat.le_of_ble_eq_true rfl) (kX9_earns er7) ?_
      cases h
      exact R_ireturn rfl DX9_price_37
    · replace h := if_f h c6
      refine R_icmp_le_f DX9_price_25 c6 ?_
      refine R_constI DX9_price_28 ci_m1 ?_
      refine R_goto DX9_price_29 ?_
      cases h
      exact R_ireturn rfl DX9_price_37
set_option maxRecDepth 8000 in
theorem kX9_moneyBy {G : Gm} {x0 : Nat} {x1 : Int32} {x2 : Int32} {x3 : Int32} {s : Hp} {w : Int32 × Hp} (h : fX9_moneyBy x0 x1 x2 x3 s = some w) : (s.2.2 x0).1 = 9 ∧ Call G MX9_moneyBy [.ref x0, .int x1, .int x2, .int x3] s (some (.int w.1), w.2) := by
  unfold fX9_moneyBy at h
  obtain ⟨_, e0, h⟩ := bind_some h
  refine ⟨ck_some e0, Call.of_R pnRX9 (Nat.le_of_ble_eq_true rfl) ?_⟩
  clear e0
  show R G MX9_moneyBy 0 [(0, .ref x0), (1, .int x1), (2, .int x2), (3, .int x3)] [] s (some (.int w.1), w.2)
  refine R_aload DX9_moneyBy_0 0 rfl ?_
  obtain ⟨v1, ev1, h⟩ := bind_some h
  refine R_gR DX9_moneyBy_1 fl_RX9_49 ev1 ?_
  refine R_constI DX9_moneyBy_4 ci_24 ?_
  refine R_iload DX9_moneyBy_6 1 rfl ?_
  refine R_imul DX9_moneyBy_7 ?_
  refine R_iload DX9_moneyBy_8 2 rfl ?_
  refine R_iadd DX9_moneyBy_9 ?_
  obtain ⟨v2, ev2, h⟩ := bind_some h
  refine R_aI DX9_moneyBy_10 ev2 ?_
  refine R_istore [(4, .int v2), (0, .ref x0), (1, .int x1), (2, .int x2), (3, .int x3)] DX9_moneyBy_11 (by decide) rfl ?_
  refine R_aload DX9_moneyBy_13 1 rfl ?_
  obtain ⟨v3, ev3, h⟩ := bind_some h
  refine R_gR DX9_moneyBy_14 fl_RX9_49 ev3 ?_
  refine R_constI DX9_moneyBy_17 ci_24 ?_
  refine R_iload DX9_moneyBy_19 2 rfl ?_
  refine R_imul DX9_moneyBy_20 ?_
  refine R_iload DX9_moneyBy_21 3 rfl ?_
  refine R_iadd DX9_moneyBy_22 ?_
  refine R_iload DX9_moneyBy_23 4 rfl ?_
  obtain ⟨s4, es4, h⟩ := bind_some h
  refine R_sI DX9_moneyBy_24 es4 ?_
  refine R_aload DX9_moneyBy_25 1 rfl ?_
  obtain ⟨s5, es5, h⟩ := bind_some h
  refine R_cV0 [] DX9_moneyBy_26 kzvX9_asTold ml_RX9_389 ⟨Nat.le_of_ble_eq_true rfl, Nat.le_of_ble_eq_true rfl⟩ rfl (Nat.le_of_ble_eq_true rfl) (kX9_asTold es5) ?_
  refine R_aload DX9_moneyBy_29 1 rfl ?_
  obtain ⟨v6, ev6, h⟩ := bind_some h
  refine R_gR DX9_moneyBy_30 fl_RX9_49 ev6 ?_
  refine R_constI DX9_moneyBy_33 ci_24 ?_
  refine R_iload DX9_moneyBy_35 2 rfl ?_
  refine R_imul DX9_moneyBy_36 ?_
  refine R_iload DX9_moneyBy_37 3 rfl ?_
  refine R_iadd DX9_moneyBy_38 ?_
  refine R_iload DX9_moneyBy_39 0 rfl ?_
  obtain ⟨s7, es7, h⟩ := bind_some h
  refine R_sI DX9_moneyBy_41 es7 ?_
  refine R_aload DX9_moneyBy_42 1 rfl ?_
  obtain ⟨r8, er8, h⟩ := bind_some h
  refine R_cV1 [] DX9_moneyBy_43 kzvX9_moneyNow ml_RX9_398 ⟨Nat.le_of_ble_eq_true rfl, Nat.le_of_ble_eq_true rfl⟩ rfl (Nat.le_of_ble_eq_true rfl) (kX9_moneyNow er8) ?_
  cases h
  exact R_ireturn rfl DX9_moneyBy_46
set_option maxRecDepth 8000 in
theorem kX9_moneyPlain {G : Gm} {x0 : Nat} {s : Hp} {w : Int32 × Hp} (h : fX9_moneyPlain x0 s = some w) : (s.2.2 x0).1 = 9 ∧ Call G MX9_moneyPlain [.ref x0] s (some (.int w.1), w.2) := by
  unfold fX9_moneyPlain at h
  obtain ⟨_, e0, h⟩ := bind_some h
  refine ⟨ck_some e0, Call.of_R pnRX9 (Nat.le_of_ble_eq_true rfl) ?_⟩
  clear e0
  show R G MX9_moneyPlain 0 [(0, .ref x0)] [] s (some (.int w.1), w.2)
  refine R_aload DX9_moneyPlain_0 0 rfl ?_
  obtain ⟨s1, es1, h⟩ := bind_some h
  refine R_cV0 [] DX9_moneyPlain_1 kzvX9_asTold ml_RX9_389 ⟨Nat.le_of_ble_eq_true rfl, Nat.le_of_ble_eq_true rfl⟩ rfl (Nat.le_of_ble_eq_true rfl) (kX9_asTold es1) ?_
  refine R_aload DX9_moneyPlain_4 0 rfl ?_
  obtain ⟨r2, er2, h⟩ := bind_some h
  refine R_cV1 [] DX9_moneyPlain_5 kzvX9_moneyNow ml_RX9_398 ⟨Nat.le_of_ble_eq_true rfl, Nat.le_of_ble_eq_true rfl⟩ rfl (Nat.le_of_ble_eq_true rfl) (kX9_moneyNow er2) ?_
  cases h
  exact R_ireturn rfl DX9_moneyPlain_8
set_option maxRecDepth 8000 in
theorem tX9_worth_b29 {G : Gm} {s : Hp} {w : Int32 × Hp} (h : fX9_worth_b29 s = some w) : R G MX9_worth 29 [] [] s (some (.int w.1), w.2) := by
  unfold fX9_worth_b29 at h
  refine R_ldcwI DX9_worth_29 cw_RX9_545 ci_m1000000 ?_
  cases h
  exact R_ireturn rfl DX9_worth_32
set_option maxRecDepth 8000 in
theorem kX9_worth {G : Gm} {x0 : Nat} {x1 : Int32} {x2 : Int32} {x3 : Int32} {s : Hp} {w : Int32 × Hp} (h : fX9_worth x0 x1 x2 x3 s = some w) : (s.2.2 x0).1 = 9 ∧ Call G MX9_worth [.ref x0, .int x1, .int x2, .int x3] s (some (.int w.1), w.2) := by
  unfold fX9_worth at h
  obtain ⟨_, e0, h⟩ := bind_some h
  refine ⟨ck_some e0, Call.of_R pnRX9 (Nat.le_of_ble_eq_true rfl) ?_⟩
  clear e0
  show R G MX9_worth 0 [(0, .ref x0), (1, .int x1), (2, .int x2), (3, .int x3)] [] s (some (.int w.1), w.2)
  refine R_aload DX9_worth_0 0 rfl ?_
  refine R_constI DX9_worth_1 ci_0 ?_
  obtain ⟨s1, es1, h⟩ := bind_some h
  refine R_pI DX9_worth_2 fl_RX9_92 es1 ?_
  refine R_aload DX9_worth_5 0 rfl ?_
  refine R_iload DX9_worth_6 1 rfl ?_
  obtain ⟨r2, er2, h⟩ := bind_some h
  refine R_cV1 [.int x1] DX9_worth_7 kzvX9_isShop ml_RX9_314 ⟨Nat.le_of_ble_eq_true rfl, Nat.le_of_ble_eq_true rfl⟩ rfl (Nat.le_of_ble_eq_true rfl) (kX9_isShop er2) ?_
  by_cases c3 : r2.1 = 0
  · replace h := if_t h c3
    refine R_if_eq_t DX9_worth_10 c3 ?_
    refine R.sub (L' := []) [] rfl ?_
    exact tX9_worth_b29 h
  · replace h := if_f h c3
    refine R_if_eq_f DX9_worth_10 c3 ?_
    refine R_aload DX9_worth_13 0 rfl ?_
    refine R_iload DX9_worth_14 2 rfl ?_
    refine R_i2l DX9_worth_15 ?_
    obtain ⟨r4, er4, h⟩ := bind_some h
    refine R_cV1 [.long (Int32.toInt64 x2)] DX9_worth_16 kzvX9_isHour ml_RX9_305 ⟨Nat.le_of_ble_eq_true rfl, Nat.le_of_ble_eq_true rfl⟩ rfl (Nat.le_of_ble_eq_true rfl) (kX9_isHour er4) ?_
    by_cases c5 : r4.1 = 0
    · replace h := if_t h c5
      refine R_if_eq_t DX9_worth_19 c5 ?_
      refine R.sub (L' := []) [] rfl ?_
      exact tX9_worth_b29 h
    · replace h := if_f h c5
      refine R_if_eq_f DX9_worth_19 c5 ?_
      refine R_iload DX9_worth_22 3 rfl ?_
      obtain ⟨r6, er6, h⟩ := bind_some h
      refine R_cS1 [.int x3] DX9_worth_23 kzsX9_isAct ml_RX9_319 ⟨Nat.le_of_ble_eq_true rfl, Nat.le_of_ble_eq_true rfl⟩ rfl (Nat.le_of_ble_eq_true rfl) (kX9_isAct er6) ?_
      by_cases c7 : r6.1 = 0
      · replace h := if_t h c7
        refine R_if_ne_f DX9_worth_26 c7 ?_
        refine R.sub (L' := []) [] rfl ?_
        exact tX9_worth_b29 h
      · replace h := if_f h c7
        refine R_if_ne_t DX9_worth_26 c7 ?_
        refine R_aload DX9_worth_33 0 rfl ?_
        refine R_iload DX9_worth_34 1 rfl ?_
        refine R_iload DX9_worth_35 2 rfl ?_
        refine R_iload DX9_worth_36 3 rfl ?_
        obtain ⟨r8, er8, h⟩ := bind_some h
        refine R_cV1 [.int x1, .int x2, .int x3] DX9_worth_37 kzvX9_moneyBy ml_RX9_546 ⟨Nat.le_of_ble_eq_true rfl, Nat.le_of_ble_eq_true rfl⟩ rfl (Nat.le_of_ble_eq_true rfl) (kX9_moneyBy er8) ?_
        refine R_aload DX9_worth_40 0 rfl ?_
        obtain ⟨r9, er9, h⟩ := bind_some h
        refine R_cV1 [] DX9_worth_41 kzvX9_moneyPlain ml_RX9_549 ⟨Nat.le_of_ble_eq_true rfl, Nat.le_of_ble_eq_true rfl⟩ rfl (Nat.le_of_ble_eq_true rfl) (kX9_moneyPlain er9) ?_
        refine R_isub DX9_worth_44 ?_
        cases h
        exact R_ireturn rfl DX9_worth_45
set_option maxRecDepth 8000 in
theorem tX9_best_b96 {G : Gm} {x0 : Nat} {x1 : Int32} {x2 : Int32} {x3 : Int32} {x4 : Int32} {x5 : Int32} {s : Hp} {o : Option Value × Hp} {w : (Int32 × Int32 × Int32 × Hp) ⊕ ((Int32 × Int32 × Hp))} (h : fX9_best_b96 x0 x1 x2 x3 x4 x5 s = some w) (hc : ∀ (q1 : Int32) (q2 : Int32) (q5 : Int32) (qs : Hp), w = .inl (q1, q2, q5, qs) → R G MX9_best 52 [(0, .ref x0), (1, .int q1), (2, .int q2), (3, .int x3), (4, .int x4), (5, .int q5)] [] qs o) (he0 : ∀ (q1 : Int32) (q2 : Int32) (qs : Hp), w = .inr (q1, q2, qs) → R G MX9_best 102 [(0, .ref x0), (1, .int q1), (2, .int q2), (3, .int x3), (4, .int x4)] [] qs o) : R G MX9_best 96 [(0, .ref x0), (1, .int x1), (2, .int x2), (3, .int x3), (4, .int x4), (5, .int x5)] [] s o := by
  unfold fX9_best_b96 at h
  refine R_iinc [(5, .int (x5 + iI 1)), (0, .ref x0), (1, .int x1), (2, .int x2), (3, .int x3), (4, .int x4)] DX9_best_96 5 rfl (v := x5 + iI 1) (by rfl) (by decide) rfl ?_
  refine R_goto DX9_best_99 ?_
  refine R.sub (L' := [(0, .ref x0), (1, .int x1), (2, .int x2), (3, .int x3), (4, .int x4), (5, .int (x5 + iI 1))]) [1, 2, 3, 4, 5, 0] rfl ?_
  cases h
  exact hc _ _ _ _ rfl
set_option maxRecDepth 8000 in
theorem tX9_best_l52 {G : Gm} {x0 : Nat} {x3 : Int32} {x4 : Int32} {o : Option Value × Hp} {a : Int32 × Int32 × Int32 × Hp} {w : (Int32 × Int32 × Int32 × Hp) ⊕ ((Int32 × Int32 × Hp))} (h : fX9_best_l52 x0 x3 x4 a = some w) (hc : ∀ (q1 : Int32) (q2 : Int32) (q5 : Int32) (qs : Hp), w = .inl (q1, q2, q5, qs) → R G MX9_best 52 [(0, .ref x0), (1, .int q1), (2, .int q2), (3, .int x3), (4, .int x4), (5, .int q5)] [] qs o) (he0 : ∀ (q1 : Int32) (q2 : Int32) (qs : Hp), w = .inr (q1, q2, qs) → R G MX9_best 102 [(0, .ref x0), (1, .int q1), (2, .int q2), (3, .int x3), (4, .int x4)] [] qs o) : R G MX9_best 52 [(0, .ref x0), (1, .int a.1), (2, .int a.2.1), (3, .int x3), (4, .int x4), (5, .int a.2.2.1)] [] a.2.2.2 o := by
  unfold fX9_best_l52 at h
  refine R_iload DX9_best_52 5 rfl ?_
  refine R_constI DX9_best_54 ci_3 ?_
  by_cases c11 : (iI 3) ≤ a.2.2.1
  · replace h := if_t h c11
    refine R_icmp_ge_t DX9_best_55 c11 ?_
    refine R.sub (L' := [(0, .ref x0), (1, .int a.1), (2, .int a.2.1), (3, .int x3), (4, .int x4)]) [0, 1, 2, 3, 4] rfl ?_
    cases h
    exact he0 _ _ _ rfl
  · replace h := if_f h c11
    refine R_icmp_ge_f DX9_best_55 c11 ?_
    refine R_aload DX9_best_58 0 rfl ?_
    refine R_iload DX9_best_59 3 rfl ?_
    refine R_iload DX9_best_60 4 rfl ?_
    refine R_iload DX9_best_62 5 rfl ?_
    obtain ⟨r12, er12, h⟩ := bind_some h
    refine R_cV1 [.int x3, .int x4, .int a.2.2.1] DX9_best_64 kzvX9_moneyBy ml_RX9_546 ⟨Nat.le_of_ble_eq_true rfl, Nat.le_of_ble_eq_true rfl⟩ rfl (Nat.le_of_ble_eq_true rfl) (kX9_moneyBy er12) ?_
    refine R_istore [(6, .int r12.1), (0, .ref x0), (1, .int a.1), (2, .int a.2.1), (3, .int x3), (4, .int x4), (5, .int a.2.2.1)] DX9_best_67 (by decide) rfl ?_
    refine R_iload DX9_best_69 0 rfl ?_
    refine R_iload DX9_best_71 3 rfl ?_
    by_cases c13 : a.2.1 < r12.1
    · replace h := if_t h c13
      refine R_icmp_gt_t DX9_best_72 c13 ?_
      refine R_constI DX9_best_78 ci_1000 ?_
      refine R_iload DX9_best_81 4 rfl ?_
      refine R_imul DX9_best_82 ?_
      refine R_constI DX9_best_83 ci_10 ?_
      refine R_iload DX9_best_85 5 rfl ?_
      refine R_imul DX9_best_87 ?_
      refine R_iadd DX9_best_88 ?_
      refine R_iload DX9_best_89 6 rfl ?_
      refine R_iadd DX9_best_91 ?_
      obtain ⟨z14, ez14, h⟩ := lt_some h
      refine R_istoreE ez14 [(1, .int z14), (6, .int r12.1), (0, .ref x0), (2, .int a.2.1), (3, .int x3), (4, .int x4), (5, .int a.2.2.1)] DX9_best_92 (by decide) rfl ?_
      refine R_iload DX9_best_93 1 rfl ?_
      refine R_istore [(2, .int r12.1), (1, .int z14), (6, .int r12.1), (0, .ref x0), (3, .int x3), (4, .int x4), (5, .int a.2.2.1)] DX9_best_95 (by decide) rfl ?_
      refine R.sub (L' := [(0, .ref x0), (1, .int z14), (2, .int r12.1), (3, .int x3), (4, .int x4), (5, .int a.2.2.1)]) [3, 1, 0, 4, 5, 6] rfl ?_
      exact tX9_best_b96 h hc he0
    · replace h := if_f h c13
      refine R_icmp_gt_f DX9_best_72 c13 ?_
      refine R_goto DX9_best_75 ?_
      refine R.sub (L' := [(0, .ref x0), (1, .int a.1), (2, .int a.2.1), (3, .int x3), (4, .int x4), (5, .int a.2.2.1)]) [1, 2, 3, 4, 5, 6] rfl ?_
      exact tX9_best_b96 h hc he0
set_option maxRecDepth 8000 in
theorem tX9_best_l38 {G : Gm} {x0 : Nat} {x3 : Int32} {o : Option Value × Hp} {a : Int32 × Int32 × Int32 × Hp} {w : (Int32 × Int32 × Int32 × Hp) ⊕ ((Int32 × Int32 × Hp))} (h : fX9_best_l38 x0 x3 a = some w) (hc : ∀ (q1 : Int32) (q2 : Int32) (q4 : Int32) (qs : Hp), w = .inl (q1, q2, q4, qs) → R G MX9_best 38 [(0, .ref x0), (1, .int q1), (2, .int q2), (3, .int x3), (4, .int q4)] [] qs o) (he0 : ∀ (q1 : Int32) (q2 : Int32) (qs : Hp), w = .inr (q1, q2, qs) → R G MX9_best 108 [(0, .ref x0), (1, .int q1), (2, .int q2), (3, .int x3)] [] qs o) : R G MX9_best 38 [(0, .ref x0), (1, .int a.1), (2, .int a.2.1), (3, .int x3), (4, .int a.2.2.1)] [] a.2.2.2 o := by
  unfold fX9_best_l38 at h
  refine R_iload DX9_best_38 4 rfl ?_
  refine R_aload DX9_best_40 0 rfl ?_
  obtain ⟨v8, ev8, h⟩ := bind_some h
  refine R_gR DX9_best_41 fl_RX9_34 ev8 ?_
  refine R_constI DX9_best_44 ci_3 ?_
  obtain ⟨v9, ev9, h⟩ := bind_some h
  refine R_aI DX9_best_45 ev9 ?_
  by_cases c10 : v9 ≤ a.2.2.1
  · replace h := if_t h c10
    refine R_icmp_ge_t DX9_best_46 c10 ?_
    refine R.sub (L' := [(0, .ref x0), (1, .int a.1), (2, .int a.2.1), (3, .int x3)]) [0, 1, 2, 3] rfl ?_
    cases h
    exact he0 _ _ _ rfl
  · replace h := if_f h c10
    refine R_icmp_ge_f DX9_best_46 c10 ?_
    refine R_constI DX9_best_49 ci_0 ?_
    refine R_istore [(5, .int (iI 0)), (0, .ref x0), (1, .int a.1), (2, .int a.2.1), (3, .int x3), (4, .int a.2.2.1)] DX9_best_50 (by decide) rfl ?_
    refine R.sub (L' := [(0, .ref x0), (1, .int a.1), (2, .int a.2.1), (3, .int x3), (4, .int a.2.2.1), (5, .int (iI 0))]) [1, 2, 3, 4, 5, 0] rfl ?_
    obtain ⟨r15, hi, h⟩ := bind_some h
    have hE : (fun u52 : Int32 × Int32 × Hp => R G MX9_best 102 [(0, .ref x0), (1, .int u52.1), (2, .int u52.2.1), (3, .int x3), (4, .int a.2.2.1)] [] u52.2.2 o) r15 → ∀ (q1 : Int32) (q2 : Int32) (q5 : Int32) (qs : Hp), iter (fX9_best_l52 x0 x3 a.2.2.1) FU (q1, q2, q5, qs) = some r15 → R G MX9_best 52 [(0, .ref x0), (1, .int q1), (2, .int q2), (3, .int x3), (4, .int a.2.2.1), (5, .int q5)] [] qs o := fun hX q1 q2 q5 qs hj => loop_R (fX9_best_l52 x0 x3 a.2.2.1) (fun p52 : Int32 × Int32 × Int32 × Hp => R G MX9_best 52 [(0, .ref x0), (1, .int p52.1), (2, .int p52.2.1), (3, .int x3), (4, .int a.2.2.1), (5, .int p52.2.2.1)] [] p52.2.2.2 o) (fun u52 : Int32 × Int32 × Hp => R G MX9_best 102 [(0, .ref x0), (1, .int u52.1), (2, .int u52.2.1), (3, .int x3), (4, .int a.2.2.1)] [] u52.2.2 o) (fun a w hw hc he => tX9_best_l52 hw (fun q1 q2 q5 qs e => hc (q1, q2, q5, qs) e) (fun q1 q2 qs e => he (q1, q2, qs) e)) FU (q1, q2, q5, qs) r15 hj hX
    refine hE ?_ _ _ _ _ hi
    clear hE hi
    refine R_iinc [(4, .int (a.2.2.1 + iI 1)), (0, .ref x0), (1, .int r15.1), (2, .int r15.2.1), (3, .int x3)] DX9_best_102 4 rfl (v := a.2.2.1 + iI 1) (by rfl) (by decide) rfl ?_
    refine R_goto DX9_best_105 ?_
    refine R.sub (L' := [(0, .ref x0), (1, .int r15.1), (2, .int r15.2.1), (3, .int x3), (4, .int (a.2.2.1 + iI 1))]) [1, 2, 3, 4, 0] rfl ?_
    cases h
    exact hc _ _ _ _ rfl
set_option maxRecDepth 8000 in
theorem tX9_best_l24 {G : Gm} {x0 : Nat} {o : Option Value × Hp} {a : Int32 × Int32 × Int32 × Hp} {w : (Int32 × Int32 × Int32 × Hp) ⊕ ((Int32 × Hp))} (h : fX9_best_l24 x0 a = some w) (hc : ∀ (q1 : Int32) (q2 : Int32) (q3 : Int32) (qs : Hp), w = .inl (q1, q2, q3, qs) → R G MX9_best 24 [(0, .ref x0), (1, .int q1), (2, .int q2), (3, .int q3)] [] qs o) (he0 : ∀ (q1 : Int32) (qs : Hp), w = .inr (q1, qs) → R G MX9_best 114 [(1, .int q1)] [] qs o) : R G MX9_best 24 [(0, .ref x0), (1, .int a.1), (2, .int a.2.1), (3, .int a.2.2.1)] [] a.2.2.2 o := by
  unfold fX9_best_l24 at h
  refine R_iload DX9_best_24 3 rfl ?_
  refine R_aload DX9_best_25 0 rfl ?_
  obtain ⟨v5, ev5, h⟩ := bind_some h
  refine R_gR DX9_best_26 fl_RX9_34 ev5 ?_
  refine R_constI DX9_best_29 ci_7 ?_
  obtain ⟨v6, ev6, h⟩ := bind_some h
  refine R_aI DX9_best_31 ev6 ?_
  by_cases c7 : v6 ≤ a.2.2.1
  · replace h := if_t h c7
    refine R_icmp_ge_t DX9_best_32 c7 ?_
    refine R.sub (L' := [(1, .int a.1)]) [1] rfl ?_
    cases h
    exact he0 _ _ rfl
  · replace h := if_f h c7
    refine R_icmp_ge_f DX9_best_32 c7 ?_
    refine R_constI DX9_best_35 ci_0 ?_
    refine R_istore [(4, .int (iI 0)), (0, .ref x0), (1, .int a.1), (2, .int a.2.1), (3, .int a.2.2.1)] DX9_best_36 (by decide) rfl ?_
    refine R.sub (L' := [(0, .ref x0), (1, .int a.1), (2, .int a.2.1), (3, .int a.2.2.1), (4, .int (iI 0))]) [1, 2, 3, 4, 0] rfl ?_
    obtain ⟨r16, hi, h⟩ := bind_some h
    have hE : (fun u38 : Int32 × Int32 × Hp => R G MX9_best 108 [(0, .ref x0), (1, .int u38.1), (2, .int u38.2.1), (3, .int a.2.2.1)] [] u38.2.2 o) r16 → ∀ (q1 : Int32) (q2 : Int32) (q4 : Int32) (qs : Hp), iter (fX9_best_l38 x0 a.2.2.1) FU (q1, q2, q4, qs) = some r16 → R G MX9_best 38 [(0, .ref x0), (1, .int q1), (2, .int q2), (3, .int a.2.2.1), (4, .int q4)] [] qs o := fun hX q1 q2 q4 qs hj => loop_R (fX9_best_l38 x0 a.2.2.1) (fun p38 : Int32 × Int32 × Int32 × Hp => R G MX9_best 38 [(0, .ref x0), (1, .int p38.1), (2, .int p38.2.1), (3, .int a.2.2.1), (4, .int p38.2.2.1)] [] p38.2.2.2 o) (fun u38 : Int32 × Int32 × Hp => R G MX9_best 108 [(0, .ref x0), (1, .int u38.1), (2, .int u38.2.1), (3, .int a.2.2.1)] [] u38.2.2 o) (fun a w hw hc he => tX9_best_l38 hw (fun q1 q2 q4 qs e => hc (q1, q2, q4, qs) e) (fun q1 q2 qs e => he (q1, q2, qs) e)) FU (q1, q2, q4, qs) r16 hj hX
    refine hE ?_ _ _ _ _ hi
    clear hE hi
    refine R_iinc [(3, .int (a.2.2.1 + iI 1)), (0, .ref x0), (1, .int r16.1), (2, .int r16.2.1)] DX9_best_108 3 rfl (v := a.2.2.1 + iI 1) (by rfl) (by decide) rfl ?_
    refine R_goto DX9_best_111 ?_
    refine R.sub (L' := [(0, .ref x0), (1, .int r16.1), (2, .int r16.2.1), (3, .int (a.2.2.1 + iI 1))]) [1, 2, 3, 0] rfl ?_
    cases h
    exact hc _ _ _ _ rfl
set_option maxRecDepth 8000 in
theorem kX9_best {G : Gm} {x0 : Nat} {s : Hp} {w : Int32 × Hp} (h : fX9_best x0 s = some w) : (s.2.2 x0).1 = 9 ∧ Call G MX9_best [.ref x0] s (some (.int w.1), w.2) := by
  unfold fX9_best at h
  obtain ⟨_, e0, h⟩ := bind_some h
  refine ⟨ck_some e0, Call.of_R pnRX9 (Nat.le_of_ble_eq_true rfl) ?_⟩
  clear e0
  show R G MX9_best 0 [(0, .ref x0)] [] s (some (.int w.1), w.2)
  refine R_aload DX9_best_0 0 rfl ?_
  refine R_constI DX9_best_1 ci_0 ?_
  obtain ⟨s1, es1, h⟩ := bind_some h
  refine R_pI DX9_best_2 fl_RX9_92 es1 ?_
  refine R_aload DX9_best_5 0 rfl ?_
  obtain ⟨r2, er2, h⟩ := bind_some h
  refine R_cV1 [] DX9_best_6 kzvX9_isValley ml_RX9_322 ⟨Nat.le_of_ble_eq_true rfl, Nat.le_of_ble_eq_true rfl⟩ rfl (Nat.le_of_ble_eq_true rfl) (kX9_isValley er2) ?_
  by_cases c3 : r2.1 = 0
  · replace h := if_t h c3
    refine R_if_ne_f DX9_best_9 c3 ?_
    refine R_constI DX9_best_12 ci_m2 ?_
    cases h
    exact R_ireturn rfl DX9_best_14
  · replace h := if_f h c3
    refine R_if_ne_t DX9_best_9 c3 ?_
    refine R_constI DX9_best_15 ci_m1 ?_
    refine R_istore [(1, .int (iI (-1))), (0, .ref x0)] DX9_best_16 (by decide) rfl ?_
    refine R_aload DX9_best_17 1 rfl ?_
    obtain ⟨r4, er4, h⟩ := bind_some h
    refine R_cV1 [] DX9_best_18 kzvX9_moneyPlain ml_RX9_549 ⟨Nat.le_of_ble_eq_true rfl, Nat.le_of_ble_eq_true rfl⟩ rfl (Nat.le_of_ble_eq_true rfl) (kX9_moneyPlain er4) ?_
    refine R_istore [(2, .int r4.1), (1, .int (iI (-1))), (0, .ref x0)] DX9_best_21 (by decide) rfl ?_
    refine R_constI DX9_best_22 ci_0 ?_
    refine R_istore [(3, .int (iI 0)), (2, .int r4.1), (1, .int (iI (-1))), (0, .ref x0)] DX9_best_23 (by decide) rfl ?_
    refine R.sub (L' := [(0, .ref x0), (1, .int (iI (-1))), (2, .int r4.1), (3, .int (iI 0))]) [3, 2, 1, 0] rfl ?_
    obtain ⟨r17, hi, h⟩ := bind_some h
    have hE : (fun u24 : Int32 × Hp => R G MX9_best 114 [(1, .int u24.1)] [] u24.2 (some (.int w.1), w.2)) r17 → ∀ (q1 : Int32) (q2 : Int32) (q3 : Int32) (qs : Hp), iter (fX9_best_l24 x0) FU (q1, q2, q3, qs) = some r17 → R G MX9_best 24 [(0, .ref x0), (1, .int q1), (2, .int q2), (3, .int q3)] [] qs (some (.int w.1), w.2) := fun hX q1 q2 q3 qs hj => loop_R (fX9_best_l24 x0) (fun p24 : Int32 × Int32 × Int32 × Hp => R G MX9_best 24 [(0, .ref x0), (1, .int p24.1), (2, .int p24.2.1), (3, .int p24.2.2.1)] [] p24.2.2.2 (some (.int w.1), w.2)) (fun u24 : Int32 × Hp => R G MX9_best 114 [(1, .int u24.1)] [] u24.2 (some (.int w.1), w.2)) (fun a w hw hc he => tX9_best_l24 hw (fun q1 q2 q3 qs e => hc (q1, q2, q3, qs) e) (fun q1 qs e => he (q1, qs) e)) FU (q1, q2, q3, qs) r17 hj hX
    refine hE ?_ _ _ _ _ hi
    clear hE hi
    refine R_iload DX9_best_114 0 rfl ?_
    cases h
    exact R_ireturn rfl DX9_best_115
set_option maxRecDepth 8000 in
theorem tX9_other_b24 {G : Gm} {s : Hp} {w : Int32 × Hp} (h : fX9_other_b24 s = some w) : R G MX9_other 24 [] [] s (some (.int w.1), w.2) := by
  unfold fX9_other_b24 at h
  refine R_ldcwI DX9_other_24 cw_RX9_545 ci_m1000000 ?_
  cases h
  exact R_ireturn rfl DX9_other_27
set_option maxRecDepth 8000 in
theorem tX9_other_b99 {G : Gm} {x0 : Nat} {x2 : Int32} {y0 : Nat} {y1 : Int32} {s : Hp} {w : Int32 × Hp} (h : fX9_other_b99 x0 x2 y0 y1 s = some w) : R G MX9_other 99 [(0, .ref x0), (2, .int x2)] [.int y1, .ref y0] s (some (.int w.1), w.2) := by
  unfold fX9_other_b99 at h
  obtain ⟨s16, es16, h⟩ := bind_some h
  refine R_pI DX9_other_99 fl_RX9_351 es16 ?_
  refine R_aload DX9_other_102 0 rfl ?_
  obtain ⟨s17, es17, h⟩ := bind_some h
  refine R_cV0 [] DX9_other_103 kzvX9_goes ml_RX9_383 ⟨Nat.le_of_ble_eq_true rfl, Nat.le_of_ble_eq_true rfl⟩ rfl (Nat.le_of_ble_eq_true rfl) (kX9_goes es17) ?_
  refine R_aload DX9_other_106 0 rfl ?_
  obtain ⟨r18, er18, h⟩ := bind_some h
  refine R_cV1 [] DX9_other_107 kzvX9_moneyNow ml_RX9_398 ⟨Nat.le_of_ble_eq_true rfl, Nat.le_of_ble_eq_true rfl⟩ rfl (Nat.le_of_ble_eq_true rfl) (kX9_moneyNow er18) ?_
  refine R_iload DX9_other_110 1 rfl ?_
  refine R_isub DX9_other_111 ?_
  cases h
  exact R_ireturn rfl DX9_other_112
set_option maxRecDepth 8000 in
theorem tX9_other_b85 {G : Gm} {x0 : Nat} {x1 : Int32} {x2 : Int32} {y0 : Nat} {y1 : Int32} {s : Hp} {w : Int32 × Hp} (h : fX9_other_b85 x0 x1 x2 y0 y1 s = some w) : R G MX9_other 85 [(0, .ref x0), (1, .int x1), (2, .int x2)] [.int y1, .ref y0] s (some (.int w.1), w.2) := by
  unfold fX9_other_b85 at h
  obtain ⟨s14, es14, h⟩ := bind_some h
  refine R_pI DX9_other_85 fl_RX9_348 es14 ?_
  refine R_aload DX9_other_88 0 rfl ?_
  refine R_iload DX9_other_89 1 rfl ?_
  refine R_constI DX9_other_90 ci_4 ?_
  by_cases c15 : x1 = (iI 4)
  · replace h := if_t h c15
    refine R_icmp_ne_f DX9_other_91 c15 ?_
    refine R_constI DX9_other_94 ci_1 ?_
    refine R_goto DX9_other_95 ?_
    refine R.sub (L' := [(0, .ref x0), (2, .int x2)]) [0, 2] rfl ?_
    exact tX9_other_b99 h
  · replace h := if_f h c15
    refine R_icmp_ne_t DX9_other_91 c15 ?_
    refine R_constI DX9_other_98 ci_0 ?_
    refine R.sub (L' := [(0, .ref x0), (2, .int x2)]) [0, 2] rfl ?_
    exact tX9_other_b99 h
set_option maxRecDepth 8000 in
theorem tX9_other_b71 {G : Gm} {x0 : Nat} {x1 : Int32} {x2 : Int32} {y0 : Nat} {y1 : Int32} {s : Hp} {w : Int32 × Hp} (h : fX9_other_b71 x0 x1 x2 y0 y1 s = some w) : R G MX9_other 71 [(0, .ref x0), (1, .int x1), (2, .int x2)] [.int y1, .ref y0] s (some (.int w.1), w.2) := by
  unfold fX9_other_b71 at h
  obtain ⟨s12, es12, h⟩ := bind_some h
  refine R_pI DX9_other_71 fl_RX9_345 es12 ?_
  refine R_aload DX9_other_74 0 rfl ?_
  refine R_iload DX9_other_75 1 rfl ?_
  refine R_constI DX9_other_76 ci_3 ?_
  by_cases c13 : x1 = (iI 3)
  · replace h := if_t h c13
    refine R_icmp_ne_f DX9_other_77 c13 ?_
    refine R_constI DX9_other_80 ci_1 ?_
    refine R_goto DX9_other_81 ?_
    exact tX9_other_b85 h
  · replace h := if_f h c13
    refine R_icmp_ne_t DX9_other_77 c13 ?_
    refine R_constI DX9_other_84 ci_0 ?_
    exact tX9_other_b85 h
set_option maxRecDepth 8000 in
theorem tX9_other_b57 {G : Gm} {x0 : Nat} {x1 : Int32} {x2 : Int32} {y0 : Nat} {y1 : Int32} {s : Hp} {w : Int32 × Hp} (h : fX9_other_b57 x0 x1 x2 y0 y1 s = some w) : R G MX9_other 57 [(0, .ref x0), (1, .int x1), (2, .int x2)] [.int y1, .ref y0] s (some (.int w.1), w.2) := by
  unfold fX9_other_b57 at h
  obtain ⟨s10, es10, h⟩ := bind_some h
  refine R_pZ DX9_other_57 fl_RX9_339 es10 ?_
  refine R_aload DX9_other_60 0 rfl ?_
  refine R_iload DX9_other_61 1 rfl ?_
  refine R_constI DX9_other_62 ci_2 ?_
  by_cases c11 : x1 = (iI 2)
  · replace h := if_t h c11
    refine R_icmp_ne_f DX9_other_63 c11 ?_
    refine R_constI DX9_other_66 ci_1 ?_
    refine R_goto DX9_other_67 ?_
    exact tX9_other_b71 h
  · replace h := if_f h c11
    refine R_icmp_ne_t DX9_other_63 c11 ?_
    refine R_constI DX9_other_70 ci_0 ?_
    exact tX9_other_b71 h
set_option maxRecDepth 8000 in
theorem tX9_other_b43 {G : Gm} {x0 : Nat} {x1 : Int32} {x2 : Int32} {y0 : Nat} {y1 : Int32} {s : Hp} {w : Int32 × Hp} (h : fX9_other_b43 x0 x1 x2 y0 y1 s = some w) : R G MX9_other 43 [(0, .ref x0), (1, .int x1), (2, .int x2)] [.int y1, .ref y0] s (some (.int w.1), w.2) := by
  unfold fX9_other_b43 at h
  obtain ⟨s8, es8, h⟩ := bind_some h
  refine R_pZ DX9_other_43 fl_RX9_335 es8 ?_
  refine R_aload DX9_other_46 0 rfl ?_
  refine R_iload DX9_other_47 1 rfl ?_
  refine R_constI DX9_other_48 ci_1 ?_
  by_cases c9 : x1 = (iI 1)
  · replace h := if_t h c9
    refine R_icmp_ne_f DX9_other_49 c9 ?_
    refine R_constI DX9_other_52 ci_1 ?_
    refine R_goto DX9_other_53 ?_
    exact tX9_other_b57 h
  · replace h := if_f h c9
    refine R_icmp_ne_t DX9_other_49 c9 ?_
    refine R_constI DX9_other_56 ci_0 ?_
    exact tX9_other_b57 h
set_option maxRecDepth 8000 in
theorem kX9_other {G : Gm} {x0 : Nat} {x1 : Int32} {s : Hp} {w : Int32 × Hp} (h : fX9_other x0 x1 s = some w) : (s.2.2 x0).1 = 9 ∧ Call G MX9_other [.ref x0, .int x1] s (some (.int w.1), w.2) := by
  unfold fX9_other at h
  obtain ⟨_, e0, h⟩ := bind_some h
  refine ⟨ck_some e0, Call.of_R pnRX9 (Nat.le_of_ble_eq_true rfl) ?_⟩
  clear e0
  show R G MX9_other 0 [(0, .ref x0), (1, .int x1)] [] s (some (.int w.1), w.2)
  refine R_aload DX9_other_0 0 rfl ?_
  refine R_constI DX9_other_1 ci_0 ?_
  obtain ⟨s1, es1, h⟩ := bind_some h
  refine R_pI DX9_other_2 fl_RX9_92 es1 ?_
  refine R_aload DX9_other_5 0 rfl ?_
  obtain ⟨r2, er2, h⟩ := bind_some h
  refine R_cV1 [] DX9_other_6 kzvX9_isValley ml_RX9_322 ⟨Nat.le_of_ble_eq_true rfl, Nat.le_of_ble_eq_true rfl⟩ rfl (Nat.le_of_ble_eq_true rfl) (kX9_isValley er2) ?_
  by_cases c3 : r2.1 = 0
  · replace h := if_t h c3
    refine R_if_eq_t DX9_other_9 c3 ?_
    refine R.sub (L' := []) [] rfl ?_
    exact tX9_other_b24 h
  · replace h := if_f h c3
    refine R_if_eq_f DX9_other_9 c3 ?_
    refine R_iload DX9_other_12 1 rfl ?_
    refine R_i2l DX9_other_13 ?_
    refine R_lconst DX9_other_14 ?_
    refine R_ldc2 DX9_other_15 cw_RX9_298 ?_
    obtain ⟨r4, er4, h⟩ := bind_some h
    refine R_cS1 [.long (Int32.toInt64 x1), .long 0, .long 4] DX9_other_18 kzsX9_in ml_RX9_97 ⟨Nat.le_of_ble_eq_true rfl, Nat.le_of_ble_eq_true rfl⟩ rfl (Nat.le_of_ble_eq_true rfl) (kX9_in er4) ?_
    by_cases c5 : r4.1 = 0
    · replace h := if_t h c5
      refine R_if_ne_f DX9_other_21 c5 ?_
      refine R.sub (L' := []) [] rfl ?_
      exact tX9_other_b24 h
    · replace h := if_f h c5
      refine R_if_ne_t DX9_other_21 c5 ?_
      refine R_aload DX9_other_28 0 rfl ?_
      obtain ⟨r6, er6, h⟩ := bind_some h
      refine R_cV1 [] DX9_other_29 kzvX9_moneyPlain ml_RX9_549 ⟨Nat.le_of_ble_eq_true rfl, Nat.le_of_ble_eq_true rfl⟩ rfl (Nat.le_of_ble_eq_true rfl) (kX9_moneyPlain er6) ?_
      refine R_istore [(2, .int r6.1), (0, .ref x0), (1, .int x1)] DX9_other_32 (by decide) rfl ?_
      refine R_aload DX9_other_33 1 rfl ?_
      refine R_iload DX9_other_34 2 rfl ?_
      by_cases c7 : x1 = 0
      · replace h := if_t h c7
        refine R_if_ne_f DX9_other_35 c7 ?_
        refine R_constI DX9_other_38 ci_1 ?_
        refine R_goto DX9_other_39 ?_
        refine R.sub (L' := [(0, .ref x0), (1, .int x1), (2, .int r6.1)]) [1, 2, 0] rfl ?_
        exact tX9_other_b43 h
      · replace h := if_f h c7
        refine R_if_ne_t DX9_other_35 c7 ?_
        refine R_constI DX9_other_42 ci_0 ?_
        refine R.sub (L' := [(0, .ref x0), (1, .int x1), (2, .int r6.1)]) [1, 2, 0] rfl ?_
        exact tX9_other_b43 h
set_option maxRecDepth 8000 in
theorem tX9_load_b39 {G : Gm} {s : Hp} {w : Int32 × Hp} (h : fX9_load_b39 s = some w) : R G MX9_load 39 [] [] s (some (.int w.1), w.2) := by
  unfold fX9_load_b39 at h
  refine R_constI DX9_load_39 ci_m2 ?_
  cases h
  exact R_ireturn rfl DX9_load_41
set_option maxRecDepth 8000 in
theorem kX9_load {G : Gm} {x0 : Nat} {x1 : Int32} {x2 : Int32} {x3 : Int32} {s : Hp} {w : Int32 × Hp} (h : fX9_load x0 x1 x2 x3 s = some w) : (s.2.2 x0).1 = 9 ∧ Call G MX9_load [.ref x0, .int x1, .int x2, .int x3] s (some (.int w.1), w.2) := by
  unfold fX9_load at h
  obtain ⟨_, e0, h⟩ := bind_some h
  refine ⟨ck_some e0, Call.of_R pnRX9 (Nat.le_of_ble_eq_true rfl) ?_⟩
  clear e0
  show R G MX9_load 0 [(0, .ref x0), (1, .int x1), (2, .int x2), (3, .int x3)] [] s (some (.int w.1), w.2)
  refine R_aload DX9_load_0 0 rfl ?_
  refine R_constI DX9_load_1 ci_0 ?_
  obtain ⟨s1, es1, h⟩ := bind_some h
  refine R_pI DX9_load_2 fl_RX9_92 es1 ?_
  refine R_aload DX9_load_5 0 rfl ?_
  refine R_iload DX9_load_6 1 rfl ?_
  obtain ⟨r2, er2, h⟩ := bind_some h
  refine R_cV1 [.int x1] DX9_load_7 kzvX9_isShop ml_RX9_314 ⟨Nat.le_of_ble_eq_true rfl, Nat.le_of_ble_eq_true rfl⟩ rfl (Nat.le_of_ble_eq_true rfl) (kX9_isShop er2) ?_
  by_cases c3 : r2.1 = 0
  · replace h := if_t h c3
    refine R_if_eq_t DX9_load_10 c3 ?_
    refine R.sub (L' := []) [] rfl ?_
    exact tX9_load_b39 h
  · replace h := if_f h c3
    refine R_if_eq_f DX9_load_10 c3 ?_
    refine R_iload DX9_load_13 2 rfl ?_
    refine R_i2l DX9_load_14 ?_
    refine R_ldc2 DX9_load_15 cw_RX9_95 ?_
    refine R_ldc2 DX9_load_18 cw_RX9_317 ?_
    obtain ⟨r4, er4, h⟩ := bind_some h
    refine R_cS1 [.long (Int32.toInt64 x2), .long 3, .long 5] DX9_load_21 kzsX9_in ml_RX9_97 ⟨Nat.le_of_ble_eq_true rfl, Nat.le_of_ble_eq_true rfl⟩ rfl (Nat.le_of_ble_eq_true rfl) (kX9_in er4) ?_
    by_cases c5 : r4.1 = 0
    · replace h := if_t h c5
      refine R_if_eq_t DX9_load_24 c5 ?_
      refine R.sub (L' := []) [] rfl ?_
      exact tX9_load_b39 h
    · replace h := if_f h c5
      refine R_if_eq_f DX9_load_24 c5 ?_
      refine R_iload DX9_load_27 3 rfl ?_
      refine R_i2l DX9_load_28 ?_
      refine R_lconst DX9_load_29 ?_
      refine R_ldc2 DX9_load_30 cw_RX9_501 ?_
      obtain ⟨r6, er6, h⟩ := bind_some h
      refine R_cS1 [.long (Int32.toInt64 x3), .long 0, .long 9] DX9_load_33 kzsX9_in ml_RX9_97 ⟨Nat.le_of_ble_eq_true rfl, Nat.le_of_ble_eq_true rfl⟩ rfl (Nat.le_of_ble_eq_true rfl) (kX9_in er6) ?_
      by_cases c7 : r6.1 = 0
      · replace h := if_t h c7
        refine R_if_ne_f DX9_load_36 c7 ?_
        refine R.sub (L' := []) [] rfl ?_
        exact tX9_load_b39 h
      · replace h := if_f h c7
        refine R_if_ne_t DX9_load_36 c7 ?_
        refine R_aload DX9_load_42 0 rfl ?_
        obtain ⟨v8, ev8, h⟩ := bind_some h
        refine R_gR DX9_load_43 fl_RX9_43 ev8 ?_
        refine R_constI DX9_load_46 ci_6 ?_
        refine R_iload DX9_load_48 1 rfl ?_
        refine R_imul DX9_load_49 ?_
        refine R_iload DX9_load_50 2 rfl ?_
        refine R_iadd DX9_load_51 ?_
        obtain ⟨v9, ev9, h⟩ := bind_some h
        refine R_aI DX9_load_52 ev9 ?_
        refine R_istore [(4, .int v9), (0, .ref x0), (1, .int x1), (2, .int x2), (3, .int x3)] DX9_load_53 (by decide) rfl ?_
        refine R_aload DX9_load_55 1 rfl ?_
        obtain ⟨v10, ev10, h⟩ := bind_some h
        refine R_gR DX9_load_56 fl_RX9_43 ev10 ?_
        refine R_constI DX9_load_59 ci_6 ?_
        refine R_iload DX9_load_61 2 rfl ?_
        refine R_imul DX9_load_62 ?_
        refine R_iload DX9_load_63 3 rfl ?_
        refine R_iadd DX9_load_64 ?_
        refine R_iload DX9_load_65 4 rfl ?_
        obtain ⟨s11, es11, h⟩ := bind_some h
        refine R_sI DX9_load_66 es11 ?_
        refine R_iload DX9_load_67 0 rfl ?_
        cases h
        exact R_ireturn rfl DX9_load_69
set_option maxRecDepth 8000 in
theorem tX9_turn_b34 {G : Gm} {s : Hp} {w : Int32 × Hp} (h : fX9_turn_b34 s = some w) : R G MX9_turn 34 [] [] s (some (.int w.1), w.2) := by
  unfold fX9_turn_b34 at h
  refine R_constI DX9_turn_34 ci_m2 ?_
  cases h
  exact R_ireturn rfl DX9_turn_36
set_option maxRecDepth 8000 in
theorem kX9_turn {G : Gm} {x0 : Nat} {x1 : Int32} {x2 : Int32} {x3 : Int32} {s : Hp} {w : Int32 × Hp} (h : fX9_turn x0 x1 x2 x3 s = some w) : (s.2.2 x0).1 = 9 ∧ Call G MX9_turn [.ref x0, .int x1, .int x2, .int x3] s (some (.int w.1), w.2) := by
  unfold fX9_turn at h
  obtain ⟨_, e0, h⟩ := bind_some h
  refine ⟨ck_some e0, Call.of_R pnRX9 (Nat.le_of_ble_eq_true rfl) ?_⟩
  clear e0
  show R G MX9_turn 0 [(0, .ref x0), (1, .int x1), (2, .int x2), (3, .int x3)] [] s (some (.int w.1), w.2)
  refine R_aload DX9_turn_0 0 rfl ?_
  refine R_constI DX9_turn_1 ci_0 ?_
  obtain ⟨s1, es1, h⟩ := bind_some h
  refine R_pI DX9_turn_2 fl_RX9_92 es1 ?_
  refine R_aload DX9_turn_5 0 rfl ?_
  refine R_iload DX9_turn_6 1 rfl ?_
  obtain ⟨r2, er2, h⟩ := bind_some h
  refine R_cV1 [.int x1] DX9_turn_7 kzvX9_isLayer ml_RX9_302 ⟨Nat.le_of_ble_eq_true rfl, Nat.le_of_ble_eq_true rfl⟩ rfl (Nat.le_of_ble_eq_true rfl) (kX9_isLayer er2) ?_
  by_cases c3 : r2.1 = 0
  · replace h := if_t h c3
    refine R_if_eq_t DX9_turn_10 c3 ?_
    refine R.sub (L' := []) [] rfl ?_
    exact tX9_turn_b34 h
  · replace h := if_f h c3
    refine R_if_eq_f DX9_turn_10 c3 ?_
    refine R_iload DX9_turn_13 1 rfl ?_
    by_cases c4 : x1 = 0
    · replace h := if_t h c4
      refine R_if_eq_t DX9_turn_14 c4 ?_
      refine R.sub (L' := []) [] rfl ?_
      exact tX9_turn_b34 h
    · replace h := if_f h c4
      refine R_if_eq_f DX9_turn_14 c4 ?_
      refine R_aload DX9_turn_17 0 rfl ?_
      refine R_iload DX9_turn_18 2 rfl ?_
      refine R_i2l DX9_turn_19 ?_
      obtain ⟨r5, er5, h⟩ := bind_some h
      refine R_cV1 [.long (Int32.toInt64 x2)] DX9_turn_20 kzvX9_isHour ml_RX9_305 ⟨Nat.le_of_ble_eq_true rfl, Nat.le_of_ble_eq_true rfl⟩ rfl (Nat.le_of_ble_eq_true rfl) (kX9_isHour er5) ?_
      by_cases c6 : r5.1 = 0
      · replace h := if_t h c6
        refine R_if_eq_t DX9_turn_23 c6 ?_
        refine R.sub (L' := []) [] rfl ?_
        exact tX9_turn_b34 h
      · replace h := if_f h c6
        refine R_if_eq_f DX9_turn_23 c6 ?_
        refine R_iload DX9_turn_26 3 rfl ?_
        refine R_i2l DX9_turn_27 ?_
        obtain ⟨r7, er7, h⟩ := bind_some h
        refine R_cS1 [.long (Int32.toInt64 x3)] DX9_turn_28 kzsX9_isWind ml_RX9_311 ⟨Nat.le_of_ble_eq_true rfl, Nat.le_of_ble_eq_true rfl⟩ rfl (Nat.le_of_ble_eq_true rfl) (kX9_isWind er7) ?_
        by_cases c8 : r7.1 = 0
        · replace h := if_t h c8
          refine R_if_ne_f DX9_turn_31 c8 ?_
          refine R.sub (L' := []) [] rfl ?_
          exact tX9_turn_b34 h
        · replace h := if_f h c8
          refine R_if_ne_t DX9_turn_31 c8 ?_
          refine R_aload DX9_turn_37 0 rfl ?_
          refine R_iload DX9_turn_38 1 rfl ?_
          refine R_iload DX9_turn_39 2 rfl ?_
          obtain ⟨r9, er9, h⟩ := bind_some h
          refine R_cV1 [.int x1, .int x2] DX9_turn_40 kzvX9_windOf ml_RX9_308 ⟨Nat.le_of_ble_eq_true rfl, Nat.le_of_ble_eq_true rfl⟩ rfl (Nat.le_of_ble_eq_true rfl) (kX9_windOf er9) ?_
          refine R_istore [(4, .int r9.1), (0, .ref x0), (1, .int x1), (2, .int x2), (3, .int x3)] DX9_turn_43 (by decide) rfl ?_
          refine R_aload DX9_turn_45 1 rfl ?_
          obtain ⟨v10, ev10, h⟩ := bind_some h
          refine R_gR DX9_turn_46 fl_RX9_37 ev10 ?_
          refine R_constI DX9_turn_49 ci_24 ?_
          refine R_iload DX9_turn_51 2 rfl ?_
          refine R_imul DX9_turn_52 ?_
          refine R_iload DX9_turn_53 3 rfl ?_
          refine R_iadd DX9_turn_54 ?_
          refine R_iload DX9_turn_55 4 rfl ?_
          obtain ⟨s11, es11, h⟩ := bind_some h
          refine R_sI DX9_turn_56 es11 ?_
          refine R_iload DX9_turn_57 0 rfl ?_
          cases h
          exact R_ireturn rfl DX9_turn_59
set_option maxRecDepth 8000 in
theorem tX9_draws_b92 {G : Gm} {x0 : Nat} {x3 : Int32} {x4 : Int64} {x6 : Int32} {x7 : Int32} {y0 : Nat} {y1 : Int32} {y2 : Int32} {s : Hp} {o : Option Value × Hp} {w : (Int64 × Int32 × Hp) ⊕ ((Int64 × Hp))} (h : fX9_draws_b92 x0 x3 x4 x6 x7 y0 y1 y2 s = some w) (hc : ∀ (q4 : Int64) (q7 : Int32) (qs : Hp), w = .inl (q4, q7, qs) → R G MX9_draws 32 [(0, .ref x0), (3, .int x3), (4, .long q4), (6, .int x6), (7, .int q7)] [] qs o) (he0 : ∀ (q4 : Int64) (qs : Hp), w = .inr (q4, qs) → R G MX9_draws 99 [(0, .ref x0), (3, .int x3), (4, .long q4), (6, .int x6)] [] qs o) : R G MX9_draws 92 [(0, .ref x0), (3, .int x3), (4, .long x4), (6, .int x6), (7, .int x7)] [.int y2, .int y1, .ref y0] s o := by
  unfold fX9_draws_b92 at h
  obtain ⟨s15, es15, h⟩ := bind_some h
  refine R_sZ DX9_draws_92 es15 ?_
  refine R_iinc [(7, .int (x7 + iI 1)), (0, .ref x0), (3, .int x3), (4, .long x4), (6, .int x6)] DX9_draws_93 4 rfl (v := x7 + iI 1) (by rfl) (by decide) rfl ?_
  refine R_goto DX9_draws_96 ?_
  refine R.sub (L' := [(0, .ref x0), (3, .int x3), (4, .long x4), (6, .int x6), (7, .int (x7 + iI 1))]) [1, 2, 3, 4, 0] rfl ?_
  cases h
  exact hc _ _ _ rfl
set_option maxRecDepth 8000 in
theorem tX9_draws_l32 {G : Gm} {x0 : Nat} {x3 : Int32} {x6 : Int32} {o : Option Value × Hp} {a : Int64 × Int32 × Hp} {w : (Int64 × Int32 × Hp) ⊕ ((Int64 × Hp))} (h : fX9_draws_l32 x0 x3 x6 a = some w) (hc : ∀ (q4 : Int64) (q7 : Int32) (qs : Hp), w = .inl (q4, q7, qs) → R G MX9_draws 32 [(0, .ref x0), (3, .int x3), (4, .long q4), (6, .int x6), (7, .int q7)] [] qs o) (he0 : ∀ (q4 : Int64) (qs : Hp), w = .inr (q4, qs) → R G MX9_draws 99 [(0, .ref x0), (3, .int x3), (4, .long q4), (6, .int x6)] [] qs o) : R G MX9_draws 32 [(0, .ref x0), (3, .int x3), (4, .long a.1), (6, .int x6), (7, .int a.2.1)] [] a.2.2 o := by
  unfold fX9_draws_l32 at h
  refine R_iload DX9_draws_32 4 rfl ?_
  refine R_aload DX9_draws_34 0 rfl ?_
  obtain ⟨v7, ev7, h⟩ := bind_some h
  refine R_gR DX9_draws_35 fl_RX9_34 ev7 ?_
  refine R_constI DX9_draws_38 ci_2 ?_
  obtain ⟨v8, ev8, h⟩ := bind_some h
  refine R_aI DX9_draws_39 ev8 ?_
  by_cases c9 : v8 ≤ a.2.1
  · replace h := if_t h c9
    refine R_icmp_ge_t DX9_draws_40 c9 ?_
    refine R.sub (L' := [(0, .ref x0), (3, .int x3), (4, .long a.1), (6, .int x6)]) [0, 1, 2, 3] rfl ?_
    cases h
    exact he0 _ _ rfl
  · replace h := if_f h c9
    refine R_icmp_ge_f DX9_draws_40 c9 ?_
    refine R_ldc2 DX9_draws_43 cw_RX9_552 ?_
    refine R_lload DX9_draws_46 2 rfl ?_
    refine R_lmul DX9_draws_48 ?_
    refine R_ldc2 DX9_draws_49 cw_RX9_554 ?_
    refine R_ladd DX9_draws_52 ?_
    refine R_ldc2 DX9_draws_53 cw_RX9_556 ?_
    obtain ⟨v10, ev10, h⟩ := bind_some h
    refine R_mL DX9_draws_56 ev10 ?_
    refine R_lstore [(4, .long v10), (0, .ref x0), (3, .int x3), (6, .int x6), (7, .int a.2.1)] DX9_draws_57 (by decide) rfl ?_
    refine R_aload DX9_draws_59 1 rfl ?_
    obtain ⟨v11, ev11, h⟩ := bind_some h
    refine R_gR DX9_draws_60 fl_RX9_74 ev11 ?_
    refine R_constI DX9_draws_63 ci_24 ?_
    refine R_iload DX9_draws_65 4 rfl ?_
    refine R_imul DX9_draws_67 ?_
    refine R_iload DX9_draws_68 3 rfl ?_
    refine R_iadd DX9_draws_70 ?_
    refine R_lload DX9_draws_71 0 rfl ?_
    refine R_ldc2 DX9_draws_73 cw_RX9_558 ?_
    obtain ⟨v12, ev12, h⟩ := bind_some h
    refine R_dL DX9_draws_76 ev12 ?_
    refine R_ldc2 DX9_draws_77 cw_RX9_534 ?_
    obtain ⟨v13, ev13, h⟩ := bind_some h
    refine R_mL DX9_draws_80 ev13 ?_
    refine R_iload DX9_draws_81 2 rfl ?_
    refine R_i2l DX9_draws_82 ?_
    refine R_lcmp DX9_draws_83 ?_
    by_cases c14 : 0 ≤ (lg_cmp v13 (Int32.toInt64 x3))
    · replace h := if_t h c14
      refine R_if_ge_t DX9_draws_84 c14 ?_
      refine R_constI DX9_draws_91 ci_0 ?_
      refine R.sub (L' := [(0, .ref x0), (3, .int x3), (4, .long v10), (6, .int x6), (7, .int a.2.1)]) [1, 2, 0, 3, 4] rfl ?_
      exact tX9_draws_b92 h hc he0
    · replace h := if_f h c14
      refine R_if_ge_f DX9_draws_84 c14 ?_
      refine R_constI DX9_draws_87 ci_1 ?_
      refine R_goto DX9_draws_88 ?_
      refine R.sub (L' := [(0, .ref x0), (3, .int x3), (4, .long v10), (6, .int x6), (7, .int a.2.1)]) [1, 2, 0, 3, 4] rfl ?_
      exact tX9_draws_b92 h hc he0
set_option maxRecDepth 8000 in
theorem tX9_draws_l10 {G : Gm} {x0 : Nat} {x3 : Int32} {o : Option Value × Hp} {a : Int64 × Int32 × Hp} {w : (Int64 × Int32 × Hp) ⊕ ((Hp))} (h : fX9_draws_l10 x0 x3 a = some w) (hc : ∀ (q4 : Int64) (q6 : Int32) (qs : Hp), w = .inl (q4, q6, qs) → R G MX9_draws 10 [(0, .ref x0), (3, .int x3), (4, .long q4), (6, .int q6)] [] qs o) (he0 : ∀ (qs : Hp), w = .inr qs → R G MX9_draws 105 [(0, .ref x0)] [] qs o) : R G MX9_draws 10 [(0, .ref x0), (3, .int x3), (4, .long a.1), (6, .int a.2.1)] [] a.2.2 o := by
  unfold fX9_draws_l10 at h
  refine R_iload DX9_draws_10 3 rfl ?_
  refine R_aload DX9_draws_12 0 rfl ?_
  obtain ⟨v2, ev2, h⟩ := bind_some h
  refine R_gR DX9_draws_13 fl_RX9_34 ev2 ?_
  refine R_constI DX9_draws_16 ci_3 ?_
  obtain ⟨v3, ev3, h⟩ := bind_some h
  refine R_aI DX9_draws_17 ev3 ?_
  by_cases c4 : v3 ≤ a.2.1
  · replace h := if_t h c4
    refine R_icmp_ge_t DX9_draws_18 c4 ?_
    refine R.sub (L' := [(0, .ref x0)]) [0] rfl ?_
    cases h
    exact he0 _ rfl
  · replace h := if_f h c4
    refine R_icmp_ge_f DX9_draws_18 c4 ?_
    refine R_aload DX9_draws_21 0 rfl ?_
    obtain ⟨v5, ev5, h⟩ := bind_some h
    refine R_gR DX9_draws_22 fl_RX9_74 ev5 ?_
    refine R_iload DX9_draws_25 3 rfl ?_
    refine R_constI DX9_draws_27 ci_0 ?_
    obtain ⟨s6, es6, h⟩ := bind_some h
    refine R_sZ DX9_draws_28 es6 ?_
    refine R_constI DX9_draws_29 ci_1 ?_
    refine R_istore [(7, .int (iI 1)), (0, .ref x0), (3, .int x3), (4, .long a.1), (6, .int a.2.1)] DX9_draws_30 (by decide) rfl ?_
    refine R.sub (L' := [(0, .ref x0), (3, .int x3), (4, .long a.1), (6, .int a.2.1), (7, .int (iI 1))]) [1, 2, 3, 4, 0] rfl ?_
    obtain ⟨r16, hi, h⟩ := bind_some h
    have hE : (fun u32 : Int64 × Hp => R G MX9_draws 99 [(0, .ref x0), (3, .int x3), (4, .long u32.1), (6, .int a.2.1)] [] u32.2 o) r16 → ∀ (q4 : Int64) (q7 : Int32) (qs : Hp), iter (fX9_draws_l32 x0 x3 a.2.1) FU (q4, q7, qs) = some r16 → R G MX9_draws 32 [(0, .ref x0), (3, .int x3), (4, .long q4), (6, .int a.2.1), (7, .int q7)] [] qs o := fun hX q4 q7 qs hj => loop_R (fX9_draws_l32 x0 x3 a.2.1) (fun p32 : Int64 × Int32 × Hp => R G MX9_draws 32 [(0, .ref x0), (3, .int x3), (4, .long p32.1), (6, .int a.2.1), (7, .int p32.2.1)] [] p32.2.2 o) (fun u32 : Int64 × Hp => R G MX9_draws 99 [(0, .ref x0), (3, .int x3), (4, .long u32.1), (6, .int a.2.1)] [] u32.2 o) (fun a w hw hc he => tX9_draws_l32 hw (fun q4 q7 qs e => hc (q4, q7, qs) e) (fun q4 qs e => he (q4, qs) e)) FU (q4, q7, qs) r16 hj hX
    refine hE ?_ _ _ _ hi
    clear hE hi
    refine R_iinc [(6, .int (a.2.1 + iI 1)), (0, .ref x0), (3, .int x3), (4, .long r16.1)] DX9_draws_99 3 rfl (v := a.2.1 + iI 1) (by rfl) (by decide) rfl ?_
    refine R_goto DX9_draws_102 ?_
    refine R.sub (L' := [(0, .ref x0), (3, .int x3), (4, .long r16.1), (6, .int (a.2.1 + iI 1))]) [1, 2, 3, 0] rfl ?_
    cases h
    exact hc _ _ _ rfl
set_option maxRecDepth 8000 in
theorem kX9_draws {G : Gm} {x0 : Nat} {x1 : Int64} {x3 : Int32} {s : Hp} {w : Hp} (h : fX9_draws x0 x1 x3 s = some w) : (s.2.2 x0).1 = 9 ∧ Call G MX9_draws [.ref x0, .long x1, .int x3] s (none, w) := by
  unfold fX9_draws at h
  obtain ⟨_, e0, h⟩ := bind_some h
  refine ⟨ck_some e0, Call.of_R pnRX9 (Nat.le_of_ble_eq_true rfl) ?_⟩
  clear e0
  show R G MX9_draws 0 [(0, .ref x0), (1, .long x1), (3, .int x3)] [] s (none, w)
  refine R_aload DX9_draws_0 0 rfl ?_
  obtain ⟨s1, es1, h⟩ := bind_some h
  refine R_cV0 [] DX9_draws_1 kzvX9_plainly ml_RX9_380 ⟨Nat.le_of_ble_eq_true rfl, Nat.le_of_ble_eq_true rfl⟩ rfl (Nat.le_of_ble_eq_true rfl) (kX9_plainly es1) ?_
  refine R_lload DX9_draws_4 1 rfl ?_
  refine R_lstore [(4, .long x1), (0, .ref x0), (1, .long x1), (3, .int x3)] DX9_draws_5 (by decide) rfl ?_
  refine R_constI DX9_draws_7 ci_0 ?_
  refine R_istore [(6, .int (iI 0)), (4, .long x1), (0, .ref x0), (1, .long x1), (3, .int x3)] DX9_draws_8 (by decide) rfl ?_
  refine R.sub (L' := [(0, .ref x0), (3, .int x3), (4, .long x1), (6, .int (iI 0))]) [2, 4, 1, 0] rfl ?_
  obtain ⟨r17, hi, h⟩ := bind_some h
  have hE : (fun u10 : Hp => R G MX9_draws 105 [(0, .ref x0)] [] u10 (none, w)) r17 → ∀ (q4 : Int64) (q6 : Int32) (qs : Hp), iter (fX9_draws_l10 x0 x3) FU (q4, q6, qs) = some r17 → R G MX9_draws 10 [(0, .ref x0), (3, .int x3), (4, .long q4), (6, .int q6)] [] qs (none, w) := fun hX q4 q6 qs hj => loop_R (fX9_draws_l10 x0 x3) (fun p10 : Int64 × Int32 × Hp => R G MX9_draws 10 [(0, .ref x0), (3, .int x3), (4, .long p10.1), (6, .int p10.2.1)] [] p10.2.2 (none, w)) (fun u10 : Hp => R G MX9_draws 105 [(0, .ref x0)] [] u10 (none, w)) (fun a w hw hc he => tX9_draws_l10 hw (fun q4 q6 qs e => hc (q4, q6, qs) e) (fun qs e => he qs e)) FU (q4, q6, qs) r17 hj hX
  refine hE ?_ _ _ _ hi
  clear hE hi
  refine R_aload DX9_draws_105 0 rfl ?_
  refine R_constI DX9_draws_106 ci_1 ?_
  obtain ⟨s18, es18, h⟩ := bind_some h
  refine R_pZ DX9_draws_107 fl_RX9_342 es18 ?_
  refine R_aload DX9_draws_110 0 rfl ?_
  obtain ⟨s19, es19, h⟩ := bind_some h
  refine R_cV0 [] DX9_draws_111 kzvX9_goes ml_RX9_383 ⟨Nat.le_of_ble_eq_true rfl, Nat.le_of_ble_eq_true rfl⟩ rfl (Nat.le_of_ble_eq_true rfl) (kX9_goes es19) ?_
  cases h
  exact R_return rfl DX9_draws_114
set_option maxRecDepth 8000 in
theorem tX9_isDraw_b35 {G : Gm} {s : Hp} {w : Int32 × Hp} (h : fX9_isDraw_b35 s = some w) : R G MX9_isDraw 35 [] [] s (some (.int w.1), w.2) := by
  unfold fX9_isDraw_b35 at h
  refine R_constI DX9_isDraw_35 ci_0 ?_
  cases h
  exact R_zreturn rfl DX9_isDraw_36 (by decide)
set_option maxRecDepth 8000 in
theorem kX9_isDraw {G : Gm} {x0 : Nat} {x1 : Int32} {x2 : Int32} {s : Hp} {w : Int32 × Hp} (h : fX9_isDraw x0 x1 x2 s = some w) : (s.2.2 x0).1 = 9 ∧ Call G MX9_isDraw [.ref x0, .int x1, .int x2] s (some (.int w.1), w.2) := by
  unfold fX9_isDraw at h
  obtain ⟨_, e0, h⟩ := bind_some h
  refine ⟨ck_some e0, Call.of_R pnRX9 (Nat.le_of_ble_eq_true rfl) ?_⟩
  clear e0
  show R G MX9_isDraw 0 [(0, .ref x0), (1, .int x1), (2, .int x2)] [] s (some (.int w.1), w.2)
  refine R_aload DX9_isDraw_0 0 rfl ?_
  obtain ⟨r1, er1, h⟩ := bind_some h
  refine R_cV1 [] DX9_isDraw_1 kzvX9_isValley ml_RX9_322 ⟨Nat.le_of_ble_eq_true rfl, Nat.le_of_ble_eq_true rfl⟩ rfl (Nat.le_of_ble_eq_true rfl) (kX9_isValley er1) ?_
  by_cases c2 : r1.1 = 0
  · replace h := if_t h c2
    refine R_if_eq_t DX9_isDraw_4 c2 ?_
    refine R.sub (L' := []) [] rfl ?_
    exact tX9_isDraw_b35 h
  · replace h := if_f h c2
    refine R_if_eq_f DX9_isDraw_4 c2 ?_
    refine R_iload DX9_isDraw_7 1 rfl ?_
    refine R_i2l DX9_isDraw_8 ?_
    refine R_lconst DX9_isDraw_9 ?_
    refine R_ldc2 DX9_isDraw_10 cw_RX9_560 ?_
    obtain ⟨r3, er3, h⟩ := bind_some h
    refine R_cS1 [.long (Int32.toInt64 x1), .long 0, .long 2000000000] DX9_isDraw_13 kzsX9_in ml_RX9_97 ⟨Nat.le_of_ble_eq_true rfl, Nat.le_of_ble_eq_true rfl⟩ rfl (Nat.le_of_ble_eq_true rfl) (kX9_in er3) ?_
    by_cases c4 : r3.1 = 0
    · replace h := if_t h c4
      refine R_if_eq_t DX9_isDraw_16 c4 ?_
      refine R.sub (L' := []) [] rfl ?_
      exact tX9_isDraw_b35 h
    · replace h := if_f h c4
      refine R_if_eq_f DX9_isDraw_16 c4 ?_
      refine R_iload DX9_isDraw_19 2 rfl ?_
      refine R_i2l DX9_isDraw_20 ?_
      refine R_lconst DX9_isDraw_21 ?_
      refine R_ldc2 DX9_isDraw_22 cw_RX9_534 ?_
      obtain ⟨r5, er5, h⟩ := bind_some h
      refine R_cS1 [.long (Int32.toInt64 x2), .long 0, .long 100] DX9_isDraw_25 kzsX9_in ml_RX9_97 ⟨Nat.le_of_ble_eq_true rfl, Nat.le_of_ble_eq_true rfl⟩ rfl (Nat.le_of_ble_eq_true rfl) (kX9_in er5) ?_
      by_cases c6 : r5.1 = 0
      · replace h := if_t h c6
        refine R_if_eq_t DX9_isDraw_28 c6 ?_
        refine R.sub (L' := []) [] rfl ?_
        exact tX9_isDraw_b35 h
      · replace h := if_f h c6
        refine R_if_eq_f DX9_isDraw_28 c6 ?_
        refine R_constI DX9_isDraw_31 ci_1 ?_
        refine R_goto DX9_isDraw_32 ?_
        cases h
        exact R_zreturn rfl DX9_isDraw_36 (by decide)
set_option maxRecDepth 8000 in
theorem tX9_gust_b32 {G : Gm} {s : Hp} {w : Int32 × Hp} (h : fX9_gust_b32 s = some w) : R G MX9_gust 32 [] [] s (some (.int w.1), w.2) := by
  unfold fX9_gust_b32 at h
  refine R_constI DX9_gust_32 ci_m2 ?_
  cases h
  exact R_ireturn rfl DX9_gust_34
set_option maxRecDepth 8000 in
theorem kX9_gust {G : Gm} {x0 : Nat} {x1 : Int32} {x2 : Int32} {x3 : Int32} {x4 : Int32} {s : Hp} {w : Int32 × Hp} (h : fX9_gust x0 x1 x2 x3 x4 s = some w) : (s.2.2 x0).1 = 9 ∧ Call G MX9_gust [.ref x0, .int x1, .int x2, .int x3, .int x4] s (some (.int w.1), w.2) := by
  unfold fX9_gust at h
  obtain ⟨_, e0, h⟩ := bind_some h
  refine ⟨ck_some e0, Call.of_R pnRX9 (Nat.le_of_ble_eq_true rfl) ?_⟩
  clear e0
  show R G MX9_gust 0 [(0, .ref x0), (1, .int x1), (2, .int x2), (3, .int x3), (4, .int x4)] [] s (some (.int w.1), w.2)
  refine R_aload DX9_gust_0 0 rfl ?_
  refine R_constI DX9_gust_1 ci_0 ?_
  obtain ⟨s1, es1, h⟩ := bind_some h
  refine R_pI DX9_gust_2 fl_RX9_92 es1 ?_
  refine R_aload DX9_gust_5 0 rfl ?_
  refine R_iload DX9_gust_6 1 rfl ?_
  refine R_iload DX9_gust_7 2 rfl ?_
  obtain ⟨r2, er2, h⟩ := bind_some h
  refine R_cV1 [.int x1, .int x2] DX9_gust_8 kzvX9_isDraw ml_RX9_562 ⟨Nat.le_of_ble_eq_true rfl, Nat.le_of_ble_eq_true rfl⟩ rfl (Nat.le_of_ble_eq_true rfl) (kX9_isDraw er2) ?_
  by_cases c3 : r2.1 = 0
  · replace h := if_t h c3
    refine R_if_eq_t DX9_gust_11 c3 ?_
    refine R.sub (L' := []) [] rfl ?_
    exact tX9_gust_b32 h
  · replace h := if_f h c3
    refine R_if_eq_f DX9_gust_11 c3 ?_
    refine R_aload DX9_gust_14 0 rfl ?_
    refine R_iload DX9_gust_15 3 rfl ?_
    obtain ⟨r4, er4, h⟩ := bind_some h
    refine R_cV1 [.int x3] DX9_gust_16 kzvX9_isShop ml_RX9_314 ⟨Nat.le_of_ble_eq_true rfl, Nat.le_of_ble_eq_true rfl⟩ rfl (Nat.le_of_ble_eq_true rfl) (kX9_isShop er4) ?_
    by_cases c5 : r4.1 = 0
    · replace h := if_t h c5
      refine R_if_eq_t DX9_gust_19 c5 ?_
      refine R.sub (L' := []) [] rfl ?_
      exact tX9_gust_b32 h
    · replace h := if_f h c5
      refine R_if_eq_f DX9_gust_19 c5 ?_
      refine R_aload DX9_gust_22 0 rfl ?_
      refine R_iload DX9_gust_23 4 rfl ?_
      refine R_i2l DX9_gust_25 ?_
      obtain ⟨r6, er6, h⟩ := bind_some h
      refine R_cV1 [.long (Int32.toInt64 x4)] DX9_gust_26 kzvX9_isHour ml_RX9_305 ⟨Nat.le_of_ble_eq_true rfl, Nat.le_of_ble_eq_true rfl⟩ rfl (Nat.le_of_ble_eq_true rfl) (kX9_isHour er6) ?_
      by_cases c7 : r6.1 = 0
      · replace h := if_t h c7
        refine R_if_ne_f DX9_gust_29 c7 ?_
        refine R.sub (L' := []) [] rfl ?_
        exact tX9_gust_b32 h
      · replace h := if_f h c7
        refine R_if_ne_t DX9_gust_29 c7 ?_
        refine R_aload DX9_gust_35 0 rfl ?_
        refine R_iload DX9_gust_36 1 rfl ?_
        refine R_i2l DX9_gust_37 ?_
        refine R_iload DX9_gust_38 2 rfl ?_
        obtain ⟨s8, es8, h⟩ := bind_some h
        refine R_cV0 [.long (Int32.toInt64 x1), .int x2] DX9_gust_39 kzvX9_draws ml_RX9_565 ⟨Nat.le_of_ble_eq_true rfl, Nat.le_of_ble_eq_true rfl⟩ rfl (Nat.le_of_ble_eq_true rfl) (kX9_draws es8) ?_
        refine R_constI DX9_gust_42 ci_100 ?_
        refine R_aload DX9_gust_44 0 rfl ?_
        refine R_iload DX9_gust_45 3 rfl ?_
        refine R_iload DX9_gust_46 4 rfl ?_
        refine R_constI DX9_gust_48 ci_0 ?_
        obtain ⟨r9, er9, h⟩ := bind_some h
        refine R_cV1 [.int x3, .int x4, .int (iI 0)] DX9_gust_49 kzvX9_spotOf ml_RX9_394 ⟨Nat.le_of_ble_eq_true rfl, Nat.le_of_ble_eq_true rfl⟩ rfl (Nat.le_of_ble_eq_true rfl) (kX9_spotOf er9) ?_
        refine R_imul DX9_gust_52 ?_
        refine R_constI DX9_gust_53 ci_10 ?_
        refine R_aload DX9_gust_55 0 rfl ?_
        refine R_iload DX9_gust_56 3 rfl ?_
        refine R_iload DX9_gust_57 4 rfl ?_
        refine R_constI DX9_gust_59 ci_1 ?_
        obtain ⟨r10, er10, h⟩ := bind_some h
        refine R_cV1 [.int x3, .int x4, .int (iI 1)] DX9_gust_60 kzvX9_spotOf ml_RX9_394 ⟨Nat.le_of_ble_eq_true rfl, Nat.le_of_ble_eq_true rfl⟩ rfl (Nat.le_of_ble_eq_true rfl) (kX9_spotOf er10) ?_
        refine R_imul DX9_gust_63 ?_
        refine R_iadd DX9_gust_64 ?_
        refine R_aload DX9_gust_65 0 rfl ?_
        refine R_iload DX9_gust_66 3 rfl ?_
        refine R_iload DX9_gust_67 4 rfl ?_
        refine R_constI DX9_gust_69 ci_2 ?_
        obtain ⟨r11, er11, h⟩ := bind_some h
        refine R_cV1 [.int x3, .int x4, .int (iI 2)] DX9_gust_70 kzvX9_spotOf ml_RX9_394 ⟨Nat.le_of_ble_eq_true rfl, Nat.le_of_ble_eq_true rfl⟩ rfl (Nat.le_of_ble_eq_true rfl) (kX9_spotOf er11) ?_
        refine R_iadd DX9_gust_73 ?_
        cases h
        exact R_ireturn rfl DX9_gust_74
