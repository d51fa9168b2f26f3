set_option maxRecDepth 8000 in
theorem kX9_asTold {G : Gm} {x0 : Nat} {s : Hp} {w : Hp} (h : fX9_asTold x0 s = some w) : (s.2.2 x0).1 = 9 ∧ Call G MX9_asTold [.ref x0] s (none, w) := by
  unfold fX9_asTold at h
  obtain ⟨_, e0, h⟩ := bind_some h
  refine ⟨ck_some e0, Call.of_R pnRX9 (Nat.le_of_ble_eq_true rfl) ?_⟩
  clear e0
  show R G MX9_asTold 0 [(0, .ref x0)] [] s (none, w)
  refine R_aload DX9_asTold_0 0 rfl ?_
  obtain ⟨s1, es1, h⟩ := bind_some h
  refine R_cV0 [] DX9_asTold_1 kzvX9_plainly ml_RX9_380 ⟨Nat.le_of_ble_eq_true rfl, Nat.le_of_ble_eq_true rfl⟩ rfl (Nat.le_of_ble_eq_true rfl) (kX9_plainly es1) ?_
  refine R_aload DX9_asTold_4 0 rfl ?_
  obtain ⟨s2, es2, h⟩ := bind_some h
  refine R_cV0 [] DX9_asTold_5 kzvX9_goes ml_RX9_383 ⟨Nat.le_of_ble_eq_true rfl, Nat.le_of_ble_eq_true rfl⟩ rfl (Nat.le_of_ble_eq_true rfl) (kX9_goes es2) ?_
  cases h
  exact R_return rfl DX9_asTold_8
set_option maxRecDepth 8000 in
theorem kX9_spotOf {G : Gm} {x0 : Nat} {x1 : Int32} {x2 : Int32} {x3 : Int32} {s : Hp} {w : Int32 × Hp} (h : fX9_spotOf x0 x1 x2 x3 s = some w) : (s.2.2 x0).1 = 9 ∧ Call G MX9_spotOf [.ref x0, .int x1, .int x2, .int x3] s (some (.int w.1), w.2) := by
  unfold fX9_spotOf at h
  obtain ⟨_, e0, h⟩ := bind_some h
  refine ⟨ck_some e0, Call.of_R pnRX9 (Nat.le_of_ble_eq_true rfl) ?_⟩
  clear e0
  show R G MX9_spotOf 0 [(0, .ref x0), (1, .int x1), (2, .int x2), (3, .int x3)] [] s (some (.int w.1), w.2)
  refine R_aload DX9_spotOf_0 0 rfl ?_
  obtain ⟨v1, ev1, h⟩ := bind_some h
  refine R_gR DX9_spotOf_1 fl_RX9_59 ev1 ?_
  refine R_constI DX9_spotOf_4 ci_28 ?_
  refine R_iload DX9_spotOf_6 2 rfl ?_
  refine R_constI DX9_spotOf_7 ci_1 ?_
  refine R_iadd DX9_spotOf_8 ?_
  refine R_imul DX9_spotOf_9 ?_
  refine R_constI DX9_spotOf_10 ci_7 ?_
  refine R_iload DX9_spotOf_12 1 rfl ?_
  refine R_imul DX9_spotOf_13 ?_
  refine R_iadd DX9_spotOf_14 ?_
  refine R_iload DX9_spotOf_15 3 rfl ?_
  refine R_iadd DX9_spotOf_16 ?_
  obtain ⟨v2, ev2, h⟩ := bind_some h
  refine R_aI DX9_spotOf_17 ev2 ?_
  cases h
  exact R_ireturn rfl DX9_spotOf_18
set_option maxRecDepth 8000 in
theorem tX9_door_b25 {G : Gm} {s : Hp} {w : Int32 × Hp} (h : fX9_door_b25 s = some w) : R G MX9_door 25 [] [] s (some (.int w.1), w.2) := by
  unfold fX9_door_b25 at h
  refine R_constI DX9_door_25 ci_m2 ?_
  cases h
  exact R_ireturn rfl DX9_door_27
set_option maxRecDepth 8000 in
theorem kX9_door {G : Gm} {x0 : Nat} {x1 : Int32} {x2 : Int32} {s : Hp} {w : Int32 × Hp} (h : fX9_door x0 x1 x2 s = some w) : (s.2.2 x0).1 = 9 ∧ Call G MX9_door [.ref x0, .int x1, .int x2] s (some (.int w.1), w.2) := by
  unfold fX9_door at h
  obtain ⟨_, e0, h⟩ := bind_some h
  refine ⟨ck_some e0, Call.of_R pnRX9 (Nat.le_of_ble_eq_true rfl) ?_⟩
  clear e0
  show R G MX9_door 0 [(0, .ref x0), (1, .int x1), (2, .int x2)] [] s (some (.int w.1), w.2)
  refine R_aload DX9_door_0 0 rfl ?_
  refine R_constI DX9_door_1 ci_0 ?_
  obtain ⟨s1, es1, h⟩ := bind_some h
  refine R_pI DX9_door_2 fl_RX9_92 es1 ?_
  refine R_aload DX9_door_5 0 rfl ?_
  refine R_iload DX9_door_6 1 rfl ?_
  obtain ⟨r2, er2, h⟩ := bind_some h
  refine R_cV1 [.int x1] DX9_door_7 kzvX9_isDoor ml_RX9_386 ⟨Nat.le_of_ble_eq_true rfl, Nat.le_of_ble_eq_true rfl⟩ rfl (Nat.le_of_ble_eq_true rfl) (kX9_isDoor er2) ?_
  by_cases c3 : r2.1 = 0
  · replace h := if_t h c3
    refine R_if_eq_t DX9_door_10 c3 ?_
    refine R.sub (L' := []) [] rfl ?_
    exact tX9_door_b25 h
  · replace h := if_f h c3
    refine R_if_eq_f DX9_door_10 c3 ?_
    refine R_iload DX9_door_13 2 rfl ?_
    refine R_i2l DX9_door_14 ?_
    refine R_lconst DX9_door_15 ?_
    refine R_ldc2 DX9_door_16 cw_RX9_95 ?_
    obtain ⟨r4, er4, h⟩ := bind_some h
    refine R_cS1 [.long (Int32.toInt64 x2), .long 0, .long 3] DX9_door_19 kzsX9_in ml_RX9_97 ⟨Nat.le_of_ble_eq_true rfl, Nat.le_of_ble_eq_true rfl⟩ rfl (Nat.le_of_ble_eq_true rfl) (kX9_in er4) ?_
    by_cases c5 : r4.1 = 0
    · replace h := if_t h c5
      refine R_if_ne_f DX9_door_22 c5 ?_
      refine R.sub (L' := []) [] rfl ?_
      exact tX9_door_b25 h
    · replace h := if_f h c5
      refine R_if_ne_t DX9_door_22 c5 ?_
      refine R_aload DX9_door_28 0 rfl ?_
      obtain ⟨s6, es6, h⟩ := bind_some h
      refine R_cV0 [] DX9_door_29 kzvX9_asTold ml_RX9_389 ⟨Nat.le_of_ble_eq_true rfl, Nat.le_of_ble_eq_true rfl⟩ rfl (Nat.le_of_ble_eq_true rfl) (kX9_asTold es6) ?_
      refine R_iload DX9_door_32 2 rfl ?_
      refine R_constI DX9_door_33 ci_3 ?_
      by_cases c7 : (iI 3) ≤ x2
      · replace h := if_t h c7
        refine R_icmp_ge_t DX9_door_34 c7 ?_
        refine R_aload DX9_door_50 0 rfl ?_
        obtain ⟨v8, ev8, h⟩ := bind_some h
        refine R_gR DX9_door_51 fl_RX9_71 ev8 ?_
        refine R_iload DX9_door_54 1 rfl ?_
        obtain ⟨v9, ev9, h⟩ := bind_some h
        refine R_aI DX9_door_55 ev9 ?_
        cases h
        exact R_ireturn rfl DX9_door_56
      · replace h := if_f h c7
        refine R_icmp_ge_f DX9_door_34 c7 ?_
        refine R_aload DX9_door_37 0 rfl ?_
        obtain ⟨v10, ev10, h⟩ := bind_some h
        refine R_gR DX9_door_38 fl_RX9_46 ev10 ?_
        refine R_constI DX9_door_41 ci_3 ?_
        refine R_iload DX9_door_42 1 rfl ?_
        refine R_imul DX9_door_43 ?_
        refine R_iload DX9_door_44 2 rfl ?_
        refine R_iadd DX9_door_45 ?_
        obtain ⟨v11, ev11, h⟩ := bind_some h
        refine R_aI DX9_door_46 ev11 ?_
        refine R_goto DX9_door_47 ?_
        cases h
        exact R_ireturn rfl DX9_door_56
set_option maxRecDepth 8000 in
theorem tX9_where_b34 {G : Gm} {s : Hp} {w : Int32 × Hp} (h : fX9_where_b34 s = some w) : R G MX9_where 34 [] [] s (some (.int w.1), w.2) := by
  unfold fX9_where_b34 at h
  refine R_constI DX9_where_34 ci_m2 ?_
  cases h
  exact R_ireturn rfl DX9_where_36
set_option maxRecDepth 8000 in
theorem kX9_where {G : Gm} {x0 : Nat} {x1 : Int32} {x2 : Int32} {x3 : Int32} {s : Hp} {w : Int32 × Hp} (h : fX9_where x0 x1 x2 x3 s = some w) : (s.2.2 x0).1 = 9 ∧ Call G MX9_where [.ref x0, .int x1, .int x2, .int x3] s (some (.int w.1), w.2) := by
  unfold fX9_where at h
  obtain ⟨_, e0, h⟩ := bind_some h
  refine ⟨ck_some e0, Call.of_R pnRX9 (Nat.le_of_ble_eq_true rfl) ?_⟩
  clear e0
  show R G MX9_where 0 [(0, .ref x0), (1, .int x1), (2, .int x2), (3, .int x3)] [] s (some (.int w.1), w.2)
  refine R_aload DX9_where_0 0 rfl ?_
  refine R_constI DX9_where_1 ci_0 ?_
  obtain ⟨s1, es1, h⟩ := bind_some h
  refine R_pI DX9_where_2 fl_RX9_92 es1 ?_
  refine R_aload DX9_where_5 0 rfl ?_
  refine R_iload DX9_where_6 1 rfl ?_
  obtain ⟨r2, er2, h⟩ := bind_some h
  refine R_cV1 [.int x1] DX9_where_7 kzvX9_isShop ml_RX9_314 ⟨Nat.le_of_ble_eq_true rfl, Nat.le_of_ble_eq_true rfl⟩ rfl (Nat.le_of_ble_eq_true rfl) (kX9_isShop er2) ?_
  by_cases c3 : r2.1 = 0
  · replace h := if_t h c3
    refine R_if_eq_t DX9_where_10 c3 ?_
    refine R.sub (L' := []) [] rfl ?_
    exact tX9_where_b34 h
  · replace h := if_f h c3
    refine R_if_eq_f DX9_where_10 c3 ?_
    refine R_aload DX9_where_13 0 rfl ?_
    refine R_iload DX9_where_14 2 rfl ?_
    refine R_i2l DX9_where_15 ?_
    obtain ⟨r4, er4, h⟩ := bind_some h
    refine R_cV1 [.long (Int32.toInt64 x2)] DX9_where_16 kzvX9_isHour ml_RX9_305 ⟨Nat.le_of_ble_eq_true rfl, Nat.le_of_ble_eq_true rfl⟩ rfl (Nat.le_of_ble_eq_true rfl) (kX9_isHour er4) ?_
    by_cases c5 : r4.1 = 0
    · replace h := if_t h c5
      refine R_if_eq_t DX9_where_19 c5 ?_
      refine R.sub (L' := []) [] rfl ?_
      exact tX9_where_b34 h
    · replace h := if_f h c5
      refine R_if_eq_f DX9_where_19 c5 ?_
      refine R_iload DX9_where_22 3 rfl ?_
      refine R_i2l DX9_where_23 ?_
      refine R_lconst DX9_where_24 ?_
      refine R_ldc2 DX9_where_25 cw_RX9_392 ?_
      obtain ⟨r6, er6, h⟩ := bind_some h
      refine R_cS1 [.long (Int32.toInt64 x3), .long 0, .long 6] DX9_where_28 kzsX9_in ml_RX9_97 ⟨Nat.le_of_ble_eq_true rfl, Nat.le_of_ble_eq_true rfl⟩ rfl (Nat.le_of_ble_eq_true rfl) (kX9_in er6) ?_
      by_cases c7 : r6.1 = 0
      · replace h := if_t h c7
        refine R_if_ne_f DX9_where_31 c7 ?_
        refine R.sub (L' := []) [] rfl ?_
        exact tX9_where_b34 h
      · replace h := if_f h c7
        refine R_if_ne_t DX9_where_31 c7 ?_
        refine R_aload DX9_where_37 0 rfl ?_
        obtain ⟨s8, es8, h⟩ := bind_some h
        refine R_cV0 [] DX9_where_38 kzvX9_asTold ml_RX9_389 ⟨Nat.le_of_ble_eq_true rfl, Nat.le_of_ble_eq_true rfl⟩ rfl (Nat.le_of_ble_eq_true rfl) (kX9_asTold es8) ?_
        refine R_aload DX9_where_41 0 rfl ?_
        refine R_iload DX9_where_42 1 rfl ?_
        refine R_iload DX9_where_43 2 rfl ?_
        refine R_iload DX9_where_44 3 rfl ?_
        obtain ⟨r9, er9, h⟩ := bind_some h
        refine R_cV1 [.int x1, .int x2, .int x3] DX9_where_45 kzvX9_spotOf ml_RX9_394 ⟨Nat.le_of_ble_eq_true rfl, Nat.le_of_ble_eq_true rfl⟩ rfl (Nat.le_of_ble_eq_true rfl) (kX9_spotOf er9) ?_
        cases h
        exact R_ireturn rfl DX9_where_48
set_option maxRecDepth 8000 in
theorem tX9_why_b22 {G : Gm} {s : Hp} {w : Int32 × Hp} (h : fX9_why_b22 s = some w) : R G MX9_why 22 [] [] s (some (.int w.1), w.2) := by
  unfold fX9_why_b22 at h
  refine R_constI DX9_why_22 ci_m2 ?_
  cases h
  exact R_ireturn rfl DX9_why_24
set_option maxRecDepth 8000 in
theorem kX9_why {G : Gm} {x0 : Nat} {x1 : Int32} {x2 : Int32} {s : Hp} {w : Int32 × Hp} (h : fX9_why x0 x1 x2 s = some w) : (s.2.2 x0).1 = 9 ∧ Call G MX9_why [.ref x0, .int x1, .int x2] s (some (.int w.1), w.2) := by
  unfold fX9_why at h
  obtain ⟨_, e0, h⟩ := bind_some h
  refine ⟨ck_some e0, Call.of_R pnRX9 (Nat.le_of_ble_eq_true rfl) ?_⟩
  clear e0
  show R G MX9_why 0 [(0, .ref x0), (1, .int x1), (2, .int x2)] [] s (some (.int w.1), w.2)
  refine R_aload DX9_why_0 0 rfl ?_
  refine R_constI DX9_why_1 ci_0 ?_
  obtain ⟨s1, es1, h⟩ := bind_some h
  refine R_pI DX9_why_2 fl_RX9_92 es1 ?_
  refine R_aload DX9_why_5 0 rfl ?_
  refine R_iload DX9_why_6 1 rfl ?_
  obtain ⟨r2, er2, h⟩ := bind_some h
  refine R_cV1 [.int x1] DX9_why_7 kzvX9_isShop ml_RX9_314 ⟨Nat.le_of_ble_eq_true rfl, Nat.le_of_ble_eq_true rfl⟩ rfl (Nat.le_of_ble_eq_true rfl) (kX9_isShop er2) ?_
  by_cases c3 : r2.1 = 0
  · replace h := if_t h c3
    refine R_if_eq_t DX9_why_10 c3 ?_
    refine R.sub (L' := []) [] rfl ?_
    exact tX9_why_b22 h
  · replace h := if_f h c3
    refine R_if_eq_f DX9_why_10 c3 ?_
    refine R_aload DX9_why_13 0 rfl ?_
    refine R_iload DX9_why_14 2 rfl ?_
    refine R_i2l DX9_why_15 ?_
    obtain ⟨r4, er4, h⟩ := bind_some h
    refine R_cV1 [.long (Int32.toInt64 x2)] DX9_why_16 kzvX9_isHour ml_RX9_305 ⟨Nat.le_of_ble_eq_true rfl, Nat.le_of_ble_eq_true rfl⟩ rfl (Nat.le_of_ble_eq_true rfl) (kX9_isHour er4) ?_
    by_cases c5 : r4.1 = 0
    · replace h := if_t h c5
      refine R_if_ne_f DX9_why_19 c5 ?_
      refine R.sub (L' := []) [] rfl ?_
      exact tX9_why_b22 h
    · replace h := if_f h c5
      refine R_if_ne_t DX9_why_19 c5 ?_
      refine R_aload DX9_why_25 0 rfl ?_
      obtain ⟨s6, es6, h⟩ := bind_some h
      refine R_cV0 [] DX9_why_26 kzvX9_asTold ml_RX9_389 ⟨Nat.le_of_ble_eq_true rfl, Nat.le_of_ble_eq_true rfl⟩ rfl (Nat.le_of_ble_eq_true rfl) (kX9_asTold es6) ?_
      refine R_aload DX9_why_29 0 rfl ?_
      obtain ⟨v7, ev7, h⟩ := bind_some h
      refine R_gR DX9_why_30 fl_RX9_62 ev7 ?_
      refine R_constI DX9_why_33 ci_24 ?_
      refine R_iload DX9_why_35 1 rfl ?_
      refine R_imul DX9_why_36 ?_
      refine R_iload DX9_why_37 2 rfl ?_
      refine R_iadd DX9_why_38 ?_
      obtain ⟨v8, ev8, h⟩ := bind_some h
      refine R_aI DX9_why_39 ev8 ?_
      cases h
      exact R_ireturn rfl DX9_why_40
set_option maxRecDepth 8000 in
theorem tX9_vain_b54 {G : Gm} {x0 : Nat} {x1 : Int32} {x3 : Int32} {y0 : Int32} {y1 : Int32} {s : Hp} {o : Option Value × Hp} {w : (Int32 × Int32 × Hp) ⊕ ((Int32 × Hp))} (h : fX9_vain_b54 x0 x1 x3 y0 y1 s = some w) (hc : ∀ (q2 : Int32) (q3 : Int32) (qs : Hp), w = .inl (q2, q3, qs) → R G MX9_vain 24 [(0, .ref x0), (1, .int x1), (2, .int q2), (3, .int q3)] [] qs o) (he0 : ∀ (q2 : Int32) (qs : Hp), w = .inr (q2, qs) → R G MX9_vain 62 [(2, .int q2)] [] qs o) : R G MX9_vain 54 [(0, .ref x0), (1, .int x1), (3, .int x3)] [.int y1, .int y0] s o := by
  unfold fX9_vain_b54 at h
  refine R_iadd DX9_vain_54 ?_
  obtain ⟨z11, ez11, h⟩ := lt_some h
  refine R_istoreE ez11 [(2, .int z11), (0, .ref x0), (1, .int x1), (3, .int x3)] DX9_vain_55 (by decide) rfl ?_
  refine R_iinc [(3, .int (x3 + iI 1)), (2, .int z11), (0, .ref x0), (1, .int x1)] DX9_vain_56 3 rfl (v := x3 + iI 1) (by rfl) (by decide) rfl ?_
  refine R_goto DX9_vain_59 ?_
  refine R.sub (L' := [(0, .ref x0), (1, .int x1), (2, .int z11), (3, .int (x3 + iI 1))]) [2, 3, 1, 0] rfl ?_
  cases h
  exact hc _ _ _ rfl
set_option maxRecDepth 8000 in
theorem tX9_vain_l24 {G : Gm} {x0 : Nat} {x1 : Int32} {o : Option Value × Hp} {a : Int32 × Int32 × Hp} {w : (Int32 × Int32 × Hp) ⊕ ((Int32 × Hp))} (h : fX9_vain_l24 x0 x1 a = some w) (hc : ∀ (q2 : Int32) (q3 : Int32) (qs : Hp), w = .inl (q2, q3, qs) → R G MX9_vain 24 [(0, .ref x0), (1, .int x1), (2, .int q2), (3, .int q3)] [] qs o) (he0 : ∀ (q2 : Int32) (qs : Hp), w = .inr (q2, qs) → R G MX9_vain 62 [(2, .int q2)] [] qs o) : R G MX9_vain 24 [(0, .ref x0), (1, .int x1), (2, .int a.1), (3, .int a.2.1)] [] a.2.2 o := by
  unfold fX9_vain_l24 at h
  refine R_iload DX9_vain_24 3 rfl ?_
  refine R_aload DX9_vain_25 0 rfl ?_
  obtain ⟨v5, ev5, h⟩ := bind_some h
  refine R_gR DX9_vain_26 fl_RX9_34 ev5 ?_
  refine R_constI DX9_vain_29 ci_3 ?_
  obtain ⟨v6, ev6, h⟩ := bind_some h
  refine R_aI DX9_vain_30 ev6 ?_
  by_cases c7 : v6 ≤ a.2.1
  · replace h := if_t h c7
    refine R_icmp_ge_t DX9_vain_31 c7 ?_
    refine R.sub (L' := [(2, .int a.1)]) [2] rfl ?_
    cases h
    exact he0 _ _ rfl
  · replace h := if_f h c7
    refine R_icmp_ge_f DX9_vain_31 c7 ?_
    refine R_iload DX9_vain_34 2 rfl ?_
    refine R_aload DX9_vain_35 0 rfl ?_
    obtain ⟨v8, ev8, h⟩ := bind_some h
    refine R_gR DX9_vain_36 fl_RX9_62 ev8 ?_
    refine R_constI DX9_vain_39 ci_24 ?_
    refine R_iload DX9_vain_41 1 rfl ?_
    refine R_imul DX9_vain_42 ?_
    refine R_iload DX9_vain_43 3 rfl ?_
    refine R_iadd DX9_vain_44 ?_
    obtain ⟨v9, ev9, h⟩ := bind_some h
    refine R_aI DX9_vain_45 ev9 ?_
    by_cases c10 : v9 = 0
    · replace h := if_t h c10
      refine R_if_ne_f DX9_vain_46 c10 ?_
      refine R_constI DX9_vain_49 ci_0 ?_
      refine R_goto DX9_vain_50 ?_
      refine R.sub (L' := [(0, .ref x0), (1, .int x1), (3, .int a.2.1)]) [0, 1, 3] rfl ?_
      exact tX9_vain_b54 h hc he0
    · replace h := if_f h c10
      refine R_if_ne_t DX9_vain_46 c10 ?_
      refine R_constI DX9_vain_53 ci_1 ?_
      refine R.sub (L' := [(0, .ref x0), (1, .int x1), (3, .int a.2.1)]) [0, 1, 3] rfl ?_
      exact tX9_vain_b54 h hc he0
set_option maxRecDepth 8000 in
theorem kX9_vain {G : Gm} {x0 : Nat} {x1 : Int32} {s : Hp} {w : Int32 × Hp} (h : fX9_vain x0 x1 s = some w) : (s.2.2 x0).1 = 9 ∧ Call G MX9_vain [.ref x0, .int x1] s (some (.int w.1), w.2) := by
  unfold fX9_vain at h
  obtain ⟨_, e0, h⟩ := bind_some h
  refine ⟨ck_some e0, Call.of_R pnRX9 (Nat.le_of_ble_eq_true rfl) ?_⟩
  clear e0
  show R G MX9_vain 0 [(0, .ref x0), (1, .int x1)] [] s (some (.int w.1), w.2)
  refine R_aload DX9_vain_0 0 rfl ?_
  refine R_constI DX9_vain_1 ci_0 ?_
  obtain ⟨s1, es1, h⟩ := bind_some h
  refine R_pI DX9_vain_2 fl_RX9_92 es1 ?_
  refine R_aload DX9_vain_5 0 rfl ?_
  refine R_iload DX9_vain_6 1 rfl ?_
  obtain ⟨r2, er2, h⟩ := bind_some h
  refine R_cV1 [.int x1] DX9_vain_7 kzvX9_isShop ml_RX9_314 ⟨Nat.le_of_ble_eq_true rfl, Nat.le_of_ble_eq_true rfl⟩ rfl (Nat.le_of_ble_eq_true rfl) (kX9_isShop er2) ?_
  by_cases c3 : r2.1 = 0
  · replace h := if_t h c3
    refine R_if_ne_f DX9_vain_10 c3 ?_
    refine R_constI DX9_vain_13 ci_m2 ?_
    cases h
    exact R_ireturn rfl DX9_vain_15
  · replace h := if_f h c3
    refine R_if_ne_t DX9_vain_10 c3 ?_
    refine R_aload DX9_vain_16 0 rfl ?_
    obtain ⟨s4, es4, h⟩ := bind_some h
    refine R_cV0 [] DX9_vain_17 kzvX9_asTold ml_RX9_389 ⟨Nat.le_of_ble_eq_true rfl, Nat.le_of_ble_eq_true rfl⟩ rfl (Nat.le_of_ble_eq_true rfl) (kX9_asTold es4) ?_
    refine R_constI DX9_vain_20 ci_0 ?_
    refine R_istore [(2, .int (iI 0)), (0, .ref x0), (1, .int x1)] DX9_vain_21 (by decide) rfl ?_
    refine R_constI DX9_vain_22 ci_0 ?_
    refine R_istore [(3, .int (iI 0)), (2, .int (iI 0)), (0, .ref x0), (1, .int x1)] DX9_vain_23 (by decide) rfl ?_
    refine R.sub (L' := [(0, .ref x0), (1, .int x1), (2, .int (iI 0)), (3, .int (iI 0))]) [2, 3, 1, 0] rfl ?_
    obtain ⟨r12, hi, h⟩ := bind_some h
    have hE : (fun u24 : Int32 × Hp => R G MX9_vain 62 [(2, .int u24.1)] [] u24.2 (some (.int w.1), w.2)) r12 → ∀ (q2 : Int32) (q3 : Int32) (qs : Hp), iter (fX9_vain_l24 x0 x1) FU (q2, q3, qs) = some r12 → R G MX9_vain 24 [(0, .ref x0), (1, .int x1), (2, .int q2), (3, .int q3)] [] qs (some (.int w.1), w.2) := fun hX q2 q3 qs hj => loop_R (fX9_vain_l24 x0 x1) (fun p24 : Int32 × Int32 × Hp => R G MX9_vain 24 [(0, .ref x0), (1, .int x1), (2, .int p24.1), (3, .int p24.2.1)] [] p24.2.2 (some (.int w.1), w.2)) (fun u24 : Int32 × Hp => R G MX9_vain 62 [(2, .int u24.1)] [] u24.2 (some (.int w.1), w.2)) (fun a w hw hc he => tX9_vain_l24 hw (fun q2 q3 qs e => hc (q2, q3, qs) e) (fun q2 qs e => he (q2, qs) e)) FU (q2, q3, qs) r12 hj hX
    refine hE ?_ _ _ _ hi
    clear hE hi
    refine R_iload DX9_vain_62 0 rfl ?_
    cases h
    exact R_ireturn rfl DX9_vain_63
set_option maxRecDepth 8000 in
theorem tX9_blown_b22 {G : Gm} {s : Hp} {w : Int32 × Hp} (h : fX9_blown_b22 s = some w) : R G MX9_blown 22 [] [] s (some (.int w.1), w.2) := by
  unfold fX9_blown_b22 at h
  refine R_constI DX9_blown_22 ci_m2 ?_
  cases h
  exact R_ireturn rfl DX9_blown_24
set_option maxRecDepth 8000 in
theorem kX9_blown {G : Gm} {x0 : Nat} {x1 : Int32} {x2 : Int32} {s : Hp} {w : Int32 × Hp} (h : fX9_blown x0 x1 x2 s = some w) : (s.2.2 x0).1 = 9 ∧ Call G MX9_blown [.ref x0, .int x1, .int x2] s (some (.int w.1), w.2) := by
  unfold fX9_blown at h
  obtain ⟨_, e0, h⟩ := bind_some h
  refine ⟨ck_some e0, Call.of_R pnRX9 (Nat.le_of_ble_eq_true rfl) ?_⟩
  clear e0
  show R G MX9_blown 0 [(0, .ref x0), (1, .int x1), (2, .int x2)] [] s (some (.int w.1), w.2)
  refine R_aload DX9_blown_0 0 rfl ?_
  refine R_constI DX9_blown_1 ci_0 ?_
  obtain ⟨s1, es1, h⟩ := bind_some h
  refine R_pI DX9_blown_2 fl_RX9_92 es1 ?_
  refine R_aload DX9_blown_5 0 rfl ?_
  refine R_iload DX9_blown_6 1 rfl ?_
  obtain ⟨r2, er2, h⟩ := bind_some h
  refine R_cV1 [.int x1] DX9_blown_7 kzvX9_isShop ml_RX9_314 ⟨Nat.le_of_ble_eq_true rfl, Nat.le_of_ble_eq_true rfl⟩ rfl (Nat.le_of_ble_eq_true rfl) (kX9_isShop er2) ?_
  by_cases c3 : r2.1 = 0
  · replace h := if_t h c3
    refine R_if_eq_t DX9_blown_10 c3 ?_
    refine R.sub (L' := []) [] rfl ?_
    exact tX9_blown_b22 h
  · replace h := if_f h c3
    refine R_if_eq_f DX9_blown_10 c3 ?_
    refine R_aload DX9_blown_13 0 rfl ?_
    refine R_iload DX9_blown_14 2 rfl ?_
    refine R_i2l DX9_blown_15 ?_
    obtain ⟨r4, er4, h⟩ := bind_some h
    refine R_cV1 [.long (Int32.toInt64 x2)] DX9_blown_16 kzvX9_isHour ml_RX9_305 ⟨Nat.le_of_ble_eq_true rfl, Nat.le_of_ble_eq_true rfl⟩ rfl (Nat.le_of_ble_eq_true rfl) (kX9_isHour er4) ?_
    by_cases c5 : r4.1 = 0
    · replace h := if_t h c5
      refine R_if_ne_f DX9_blown_19 c5 ?_
      refine R.sub (L' := []) [] rfl ?_
      exact tX9_blown_b22 h
    · replace h := if_f h c5
      refine R_if_ne_t DX9_blown_19 c5 ?_
      refine R_aload DX9_blown_25 0 rfl ?_
      obtain ⟨s6, es6, h⟩ := bind_some h
      refine R_cV0 [] DX9_blown_26 kzvX9_asTold ml_RX9_389 ⟨Nat.le_of_ble_eq_true rfl, Nat.le_of_ble_eq_true rfl⟩ rfl (Nat.le_of_ble_eq_true rfl) (kX9_asTold es6) ?_
      refine R_aload DX9_blown_29 0 rfl ?_
      obtain ⟨v7, ev7, h⟩ := bind_some h
      refine R_gR DX9_blown_30 fl_RX9_65 ev7 ?_
      refine R_constI DX9_blown_33 ci_24 ?_
      refine R_iload DX9_blown_35 1 rfl ?_
      refine R_imul DX9_blown_36 ?_
      refine R_iload DX9_blown_37 2 rfl ?_
      refine R_iadd DX9_blown_38 ?_
      obtain ⟨v8, ev8, h⟩ := bind_some h
      refine R_aZ DX9_blown_39 ev8 ?_
      by_cases c9 : v8 = 0
      · replace h := if_t h c9
        refine R_if_eq_t DX9_blown_40 c9 ?_
        refine R_constI DX9_blown_47 ci_0 ?_
        cases h
        exact R_ireturn rfl DX9_blown_48
      · replace h := if_f h c9
        refine R_if_eq_f DX9_blown_40 c9 ?_
        refine R_constI DX9_blown_43 ci_1 ?_
        refine R_goto DX9_blown_44 ?_
        cases h
        exact R_ireturn rfl DX9_blown_48
set_option maxRecDepth 8000 in
theorem tX9_sales_b26 {G : Gm} {s : Hp} {w : Int32 × Hp} (h : fX9_sales_b26 s = some w) : R G MX9_sales 26 [] [] s (some (.int w.1), w.2) := by
  unfold fX9_sales_b26 at h
  refine R_constI DX9_sales_26 ci_m2 ?_
  cases h
  exact R_ireturn rfl DX9_sales_28
set_option maxRecDepth 8000 in
theorem tX9_sales_b92 {G : Gm} {x0 : Nat} {x1 : Int32} {x2 : Int32} {x4 : Int32} {y0 : Int32} {y1 : Int32} {s : Hp} {o : Option Value × Hp} {w : (Int32 × Int32 × Hp) ⊕ ((Int32 × Hp))} (h : fX9_sales_b92 x0 x1 x2 x4 y0 y1 s = some w) (hc : ∀ (q3 : Int32) (q4 : Int32) (qs : Hp), w = .inl (q3, q4, qs) → R G MX9_sales 38 [(0, .ref x0), (1, .int x1), (2, .int x2), (3, .int q3), (4, .int q4)] [] qs o) (he0 : ∀ (q3 : Int32) (qs : Hp), w = .inr (q3, qs) → R G MX9_sales 100 [(3, .int q3)] [] qs o) : R G MX9_sales 92 [(0, .ref x0), (1, .int x1), (2, .int x2), (4, .int x4)] [.int y1, .int y0] s o := by
  unfold fX9_sales_b92 at h
  refine R_iadd DX9_sales_92 ?_
  obtain ⟨z12, ez12, h⟩ := lt_some h
  refine R_istoreE ez12 [(3, .int z12), (0, .ref x0), (1, .int x1), (2, .int x2), (4, .int x4)] DX9_sales_93 (by decide) rfl ?_
  refine R_iinc [(4, .int (x4 + iI 1)), (3, .int z12), (0, .ref x0), (1, .int x1), (2, .int x2)] DX9_sales_94 4 rfl (v := x4 + iI 1) (by rfl) (by decide) rfl ?_
  refine R_goto DX9_sales_97 ?_
  refine R.sub (L' := [(0, .ref x0), (1, .int x1), (2, .int x2), (3, .int z12), (4, .int (x4 + iI 1))]) [2, 3, 4, 1, 0] rfl ?_
  cases h
  exact hc _ _ _ rfl
set_option maxRecDepth 8000 in
theorem tX9_sales_b91 {G : Gm} {x0 : Nat} {x1 : Int32} {x2 : Int32} {x4 : Int32} {y0 : Int32} {s : Hp} {o : Option Value × Hp} {w : (Int32 × Int32 × Hp) ⊕ ((Int32 × Hp))} (h : fX9_sales_b91 x0 x1 x2 x4 y0 s = some w) (hc : ∀ (q3 : Int32) (q4 : Int32) (qs : Hp), w = .inl (q3, q4, qs) → R G MX9_sales 38 [(0, .ref x0), (1, .int x1), (2, .int x2), (3, .int q3), (4, .int q4)] [] qs o) (he0 : ∀ (q3 : Int32) (qs : Hp), w = .inr (q3, qs) → R G MX9_sales 100 [(3, .int q3)] [] qs o) : R G MX9_sales 91 [(0, .ref x0), (1, .int x1), (2, .int x2), (4, .int x4)] [.int y0] s o := by
  unfold fX9_sales_b91 at h
  refine R_constI DX9_sales_91 ci_0 ?_
  exact tX9_sales_b92 h hc he0
set_option maxRecDepth 8000 in
theorem tX9_sales_b87 {G : Gm} {x0 : Nat} {x1 : Int32} {x2 : Int32} {x4 : Int32} {y0 : Int32} {s : Hp} {o : Option Value × Hp} {w : (Int32 × Int32 × Hp) ⊕ ((Int32 × Hp))} (h : fX9_sales_b87 x0 x1 x2 x4 y0 s = some w) (hc : ∀ (q3 : Int32) (q4 : Int32) (qs : Hp), w = .inl (q3, q4, qs) → R G MX9_sales 38 [(0, .ref x0), (1, .int x1), (2, .int x2), (3, .int q3), (4, .int q4)] [] qs o) (he0 : ∀ (q3 : Int32) (qs : Hp), w = .inr (q3, qs) → R G MX9_sales 100 [(3, .int q3)] [] qs o) : R G MX9_sales 87 [(0, .ref x0), (1, .int x1), (2, .int x2), (4, .int x4)] [.int y0] s o := by
  unfold fX9_sales_b87 at h
  refine R_constI DX9_sales_87 ci_1 ?_
  refine R_goto DX9_sales_88 ?_
  exact tX9_sales_b92 h hc he0
set_option maxRecDepth 8000 in
theorem tX9_sales_l38 {G : Gm} {x0 : Nat} {x1 : Int32} {x2 : Int32} {o : Option Value × Hp} {a : Int32 × Int32 × Hp} {w : (Int32 × Int32 × Hp) ⊕ ((Int32 × Hp))} (h : fX9_sales_l38 x0 x1 x2 a = some w) (hc : ∀ (q3 : Int32) (q4 : Int32) (qs : Hp), w = .inl (q3, q4, qs) → R G MX9_sales 38 [(0, .ref x0), (1, .int x1), (2, .int x2), (3, .int q3), (4, .int q4)] [] qs o) (he0 : ∀ (q3 : Int32) (qs : Hp), w = .inr (q3, qs) → R G MX9_sales 100 [(3, .int q3)] [] qs o) : R G MX9_sales 38 [(0, .ref x0), (1, .int x1), (2, .int x2), (3, .int a.1), (4, .int a.2.1)] [] a.2.2 o := by
  unfold fX9_sales_l38 at h
  refine R_iload DX9_sales_38 4 rfl ?_
  refine R_aload DX9_sales_40 0 rfl ?_
  obtain ⟨v6, ev6, h⟩ := bind_some h
  refine R_gR DX9_sales_41 fl_RX9_34 ev6 ?_
  refine R_constI DX9_sales_44 ci_3 ?_
  obtain ⟨v7, ev7, h⟩ := bind_some h
  refine R_aI DX9_sales_45 ev7 ?_
  by_cases c8 : v7 ≤ a.2.1
  · replace h := if_t h c8
    refine R_icmp_ge_t DX9_sales_46 c8 ?_
    refine R.sub (L' := [(3, .int a.1)]) [3] rfl ?_
    cases h
    exact he0 _ _ rfl
  · replace h := if_f h c8
    refine R_icmp_ge_f DX9_sales_46 c8 ?_
    refine R_iload DX9_sales_49 3 rfl ?_
    refine R_aload DX9_sales_50 0 rfl ?_
    obtain ⟨v9, ev9, h⟩ := bind_some h
    refine R_gR DX9_sales_51 fl_RX9_68 ev9 ?_
    refine R_constI DX9_sales_54 ci_24 ?_
    refine R_iload DX9_sales_56 1 rfl ?_
    refine R_imul DX9_sales_57 ?_
    refine R_iload DX9_sales_58 4 rfl ?_
    refine R_iadd DX9_sales_60 ?_
    obtain ⟨v10, ev10, h⟩ := bind_some h
    refine R_aI DX9_sales_61 ev10 ?_
    refine R_constI DX9_sales_62 ci_m1 ?_
    by_cases c11 : v10 = (iI (-1))
    · replace h := if_t h c11
      refine R_icmp_eq_t DX9_sales_63 c11 ?_
      refine R.sub (L' := [(0, .ref x0), (1, .int x1), (2, .int x2), (4, .int a.2.1)]) [0, 1, 2, 4] rfl ?_
      exact tX9_sales_b91 h hc he0
    · replace h := if_f h c11
      refine R_icmp_eq_f DX9_sales_63 c11 ?_
      refine R_iload DX9_sales_66 2 rfl ?_
      refine R_constI DX9_sales_67 ci_m1 ?_
      by_cases c13 : x2 = (iI (-1))
      · replace h := if_t h c13
        refine R_icmp_eq_t DX9_sales_68 c13 ?_
        refine R.sub (L' := [(0, .ref x0), (1, .int x1), (2, .int x2), (4, .int a.2.1)]) [0, 1, 2, 4] rfl ?_
        exact tX9_sales_b87 h hc he0
      · replace h := if_f h c13
        refine R_icmp_eq_f DX9_sales_68 c13 ?_
        refine R_aload DX9_sales_71 0 rfl ?_
        obtain ⟨v14, ev14, h⟩ := bind_some h
        refine R_gR DX9_sales_72 fl_RX9_68 ev14 ?_
        refine R_constI DX9_sales_75 ci_24 ?_
        refine R_iload DX9_sales_77 1 rfl ?_
        refine R_imul DX9_sales_78 ?_
        refine R_iload DX9_sales_79 4 rfl ?_
        refine R_iadd DX9_sales_81 ?_
        obtain ⟨v15, ev15, h⟩ := bind_some h
        refine R_aI DX9_sales_82 ev15 ?_
        refine R_iload DX9_sales_83 2 rfl ?_
        by_cases c16 : v15 = x2
        · replace h := if_t h c16
          refine R_icmp_ne_f DX9_sales_84 c16 ?_
          refine R.sub (L' := [(0, .ref x0), (1, .int x1), (2, .int x2), (4, .int a.2.1)]) [0, 1, 2, 4] rfl ?_
          exact tX9_sales_b87 h hc he0
        · replace h := if_f h c16
          refine R_icmp_ne_t DX9_sales_84 c16 ?_
          refine R.sub (L' := [(0, .ref x0), (1, .int x1), (2, .int x2), (4, .int a.2.1)]) [0, 1, 2, 4] rfl ?_
          exact tX9_sales_b91 h hc he0
set_option maxRecDepth 8000 in
theorem tX9_sales_b29 {G : Gm} {x0 : Nat} {x1 : Int32} {x2 : Int32} {s : Hp} {w : Int32 × Hp} (h : fX9_sales_b29 x0 x1 x2 s = some w) : R G MX9_sales 29 [(0, .ref x0), (1, .int x1), (2, .int x2)] [] s (some (.int w.1), w.2) := by
  unfold fX9_sales_b29 at h
  refine R_aload DX9_sales_29 0 rfl ?_
  obtain ⟨s5, es5, h⟩ := bind_some h
  refine R_cV0 [] DX9_sales_30 kzvX9_asTold ml_RX9_389 ⟨Nat.le_of_ble_eq_true rfl, Nat.le_of_ble_eq_true rfl⟩ rfl (Nat.le_of_ble_eq_true rfl) (kX9_asTold es5) ?_
  refine R_constI DX9_sales_33 ci_0 ?_
  refine R_istore [(3, .int (iI 0)), (0, .ref x0), (1, .int x1), (2, .int x2)] DX9_sales_34 (by decide) rfl ?_
  refine R_constI DX9_sales_35 ci_0 ?_
  refine R_istore [(4, .int (iI 0)), (3, .int (iI 0)), (0, .ref x0), (1, .int x1), (2, .int x2)] DX9_sales_36 (by decide) rfl ?_
  refine R.sub (L' := [(0, .ref x0), (1, .int x1), (2, .int x2), (3, .int (iI 0)), (4, .int (iI 0))]) [2, 3, 4, 1, 0] rfl ?_
  obtain ⟨r17, hi, h⟩ := bind_some h
  have hE : (fun u38 : Int32 × Hp => R G MX9_sales 100 [(3, .int u38.1)] [] u38.2 (some (.int w.1), w.2)) r17 → ∀ (q3 : Int32) (q4 : Int32) (qs : Hp), iter (fX9_sales_l38 x0 x1 x2) FU (q3, q4, qs) = some r17 → R G MX9_sales 38 [(0, .ref x0), (1, .int x1), (2, .int x2), (3, .int q3), (4, .int q4)] [] qs (some (.int w.1), w.2) := fun hX q3 q4 qs hj => loop_R (fX9_sales_l38 x0 x1 x2) (fun p38 : Int32 × Int32 × Hp => R G MX9_sales 38 [(0, .ref x0), (1, .int x1), (2, .int x2), (3, .int p38.1), (4, .int p38.2.1)] [] p38.2.2 (some (.int w.1), w.2)) (fun u38 : Int32 × Hp => R G MX9_sales 100 [(3, .int u38.1)] [] u38.2 (some (.int w.1), w.2)) (fun a w hw hc he => tX9_sales_l38 hw (fun q3 q4 qs e => hc (q3, q4, qs) e) (fun q3 qs e => he (q3, qs) e)) FU (q3, q4, qs) r17 hj hX
  refine hE ?_ _ _ _ hi
  clear hE hi
  refine R_iload DX9_sales_100 0 rfl ?_
  cases h
  exact R_ireturn rfl DX9_sales_101
set_option maxRecDepth 8000 in
theorem kX9_sales {G : Gm} {x0 : Nat} {x1 : Int32} {x2 : Int32} {s : Hp} {w : Int32 × Hp} (h : fX9_sales x0 x1 x2 s = some w) : (s.2.2 x0).1 = 9 ∧ Call G MX9_sales [.ref x0, .int x1, .int x2] s (some (.int w.1), w.2) := by
  unfold fX9_sales at h
  obtain ⟨_, e0, h⟩ := bind_some h
  refine ⟨ck_some e0, Call.of_R pnRX9 (Nat.le_of_ble_eq_true rfl) ?_⟩
  clear e0
  show R G MX9_sales 0 [(0, .ref x0), (1, .int x1), (2, .int x2)] [] s (some (.int w.1), w.2)
  refine R_aload DX9_sales_0 0 rfl ?_
  refine R_constI DX9_sales_1 ci_0 ?_
  obtain ⟨s1, es1, h⟩ := bind_some h
  refine R_pI DX9_sales_2 fl_RX9_92 es1 ?_
  refine R_aload DX9_sales_5 0 rfl ?_
  refine R_iload DX9_sales_6 1 rfl ?_
  obtain ⟨r2, er2, h⟩ := bind_some h
  refine R_cV1 [.int x1] DX9_sales_7 kzvX9_isShop ml_RX9_314 ⟨Nat.le_of_ble_eq_true rfl, Nat.le_of_ble_eq_true rfl⟩ rfl (Nat.le_of_ble_eq_true rfl) (kX9_isShop er2) ?_
  by_cases c3 : r2.1 = 0
  · replace h := if_t h c3
    refine R_if_eq_t DX9_sales_10 c3 ?_
    refine R.sub (L' := []) [] rfl ?_
    exact tX9_sales_b26 h
  · replace h := if_f h c3
    refine R_if_eq_f DX9_sales_10 c3 ?_
    refine R_iload DX9_sales_13 2 rfl ?_
    refine R_constI DX9_sales_14 ci_m1 ?_
    by_cases c4 : x2 = (iI (-1))
    · replace h := if_t h c4
      refine R_icmp_eq_t DX9_sales_15 c4 ?_
      exact tX9_sales_b29 h
    · replace h := if_f h c4
      refine R_icmp_eq_f DX9_sales_15 c4 ?_
      refine R_aload DX9_sales_18 0 rfl ?_
      refine R_iload DX9_sales_19 2 rfl ?_
      obtain ⟨r18, er18, h⟩ := bind_some h
      refine R_cV1 [.int x2] DX9_sales_20 kzvX9_isDoor ml_RX9_386 ⟨Nat.le_of_ble_eq_true rfl, Nat.le_of_ble_eq_true rfl⟩ rfl (Nat.le_of_ble_eq_true rfl) (kX9_isDoor er18) ?_
      by_cases c19 : r18.1 = 0
      · replace h := if_t h c19
        refine R_if_ne_f DX9_sales_23 c19 ?_
        refine R.sub (L' := []) [] rfl ?_
        exact tX9_sales_b26 h
      · replace h := if_f h c19
        refine R_if_ne_t DX9_sales_23 c19 ?_
        exact tX9_sales_b29 h
set_option maxRecDepth 8000 in
theorem tX9_sold_b65 {G : Gm} {x0 : Nat} {x1 : Int32} {x3 : Int32} {x4 : Int32} {s : Hp} {o : Option Value × Hp} {w : (Int32 × Int32 × Hp) ⊕ ((Hp) ⊕ (Int32 × Hp))} (h : fX9_sold_b65 x0 x1 x3 x4 s = some w) (hc : ∀ (q3 : Int32) (q4 : Int32) (qs : Hp), w = .inl (q3, q4, qs) → R G MX9_sold 25 [(0, .ref x0), (1, .int x1), (3, .int q3), (4, .int q4)] [] qs o) (he0 : ∀ (qs : Hp), w = .inr (.inl qs) → R G MX9_sold 71 [] [] qs o) (he1 : ∀ (q4 : Int32) (qs : Hp), w = .inr (.inr (q4, qs)) → R G MX9_sold 59 [(4, .int q4)] [] qs o) : R G MX9_sold 65 [(0, .ref x0), (1, .int x1), (3, .int x3), (4, .int x4)] [] s o := by
  unfold fX9_sold_b65 at h
  refine R_iinc [(4, .int (x4 + iI 1)), (0, .ref x0), (1, .int x1), (3, .int x3)] DX9_sold_65 3 rfl (v := x4 + iI 1) (by rfl) (by decide) rfl ?_
  refine R_goto DX9_sold_68 ?_
  refine R.sub (L' := [(0, .ref x0), (1, .int x1), (3, .int x3), (4, .int (x4 + iI 1))]) [1, 2, 3, 0] rfl ?_
  cases h
  exact hc _ _ _ rfl
set_option maxRecDepth 8000 in
theorem tX9_sold_l25 {G : Gm} {x0 : Nat} {x1 : Int32} {o : Option Value × Hp} {a : Int32 × Int32 × Hp} {w : (Int32 × Int32 × Hp) ⊕ ((Hp) ⊕ (Int32 × Hp))} (h : fX9_sold_l25 x0 x1 a = some w) (hc : ∀ (q3 : Int32) (q4 : Int32) (qs : Hp), w = .inl (q3, q4, qs) → R G MX9_sold 25 [(0, .ref x0), (1, .int x1), (3, .int q3), (4, .int q4)] [] qs o) (he0 : ∀ (qs : Hp), w = .inr (.inl qs) → R G MX9_sold 71 [] [] qs o) (he1 : ∀ (q4 : Int32) (qs : Hp), w = .inr (.inr (q4, qs)) → R G MX9_sold 59 [(4, .int q4)] [] qs o) : R G MX9_sold 25 [(0, .ref x0), (1, .int x1), (3, .int a.1), (4, .int a.2.1)] [] a.2.2 o := by
  unfold fX9_sold_l25 at h
  refine R_iload DX9_sold_25 3 rfl ?_
  refine R_aload DX9_sold_27 0 rfl ?_
  obtain ⟨v5, ev5, h⟩ := bind_some h
  refine R_gR DX9_sold_28 fl_RX9_34 ev5 ?_
  refine R_constI DX9_sold_31 ci_3 ?_
  obtain ⟨v6, ev6, h⟩ := bind_some h
  refine R_aI DX9_sold_32 ev6 ?_
  by_cases c7 : v6 ≤ a.2.1
  · replace h := if_t h c7
    refine R_icmp_ge_t DX9_sold_33 c7 ?_
    refine R.sub (L' := []) [] rfl ?_
    cases h
    exact he0 _ rfl
  · replace h := if_f h c7
    refine R_icmp_ge_f DX9_sold_33 c7 ?_
    refine R_aload DX9_sold_36 0 rfl ?_
    obtain ⟨v8, ev8, h⟩ := bind_some h
    refine R_gR DX9_sold_37 fl_RX9_68 ev8 ?_
    refine R_constI DX9_sold_40 ci_24 ?_
    refine R_iload DX9_sold_42 1 rfl ?_
    refine R_imul DX9_sold_43 ?_
    refine R_iload DX9_sold_44 3 rfl ?_
    refine R_iadd DX9_sold_46 ?_
    obtain ⟨v9, ev9, h⟩ := bind_some h
    refine R_aI DX9_sold_47 ev9 ?_
    refine R_constI DX9_sold_48 ci_m1 ?_
    by_cases c10 : v9 = (iI (-1))
    · replace h := if_t h c10
      refine R_icmp_ne_f DX9_sold_49 c10 ?_
      refine R_goto DX9_sold_52 ?_
      exact tX9_sold_b65 h hc he0 he1
    · replace h := if_f h c10
      refine R_icmp_ne_t DX9_sold_49 c10 ?_
      refine R_iload DX9_sold_55 2 rfl ?_
      by_cases c11 : a.1 = 0
      · replace h := if_t h c11
        refine R_if_ne_f DX9_sold_56 c11 ?_
        refine R.sub (L' := [(4, .int a.2.1)]) [3] rfl ?_
        cases h
        exact he1 _ _ rfl
      · replace h := if_f h c11
        refine R_if_ne_t DX9_sold_56 c11 ?_
        refine R_iinc [(3, .int (a.1 + iI (-1))), (0, .ref x0), (1, .int x1), (4, .int a.2.1)] DX9_sold_62 2 rfl (v := a.1 + iI (-1)) (by rfl) (by decide) rfl ?_
        refine R.sub (L' := [(0, .ref x0), (1, .int x1), (3, .int (a.1 + iI (-1))), (4, .int a.2.1)]) [1, 2, 0, 3] rfl ?_
        exact tX9_sold_b65 h hc he0 he1
set_option maxRecDepth 8000 in
theorem kX9_sold {G : Gm} {x0 : Nat} {x1 : Int32} {x2 : Int32} {s : Hp} {w : Int32 × Hp} (h : fX9_sold x0 x1 x2 s = some w) : (s.2.2 x0).1 = 9 ∧ Call G MX9_sold [.ref x0, .int x1, .int x2] s (some (.int w.1), w.2) := by
  unfold fX9_sold at h
  obtain ⟨_, e0, h⟩ := bind_some h
  refine ⟨ck_some e0, Call.of_R pnRX9 (Nat.le_of_ble_eq_true rfl) ?_⟩
  clear e0
  show R G MX9_sold 0 [(0, .ref x0), (1, .int x1), (2, .int x2)] [] s (some (.int w.1), w.2)
  refine R_aload DX9_sold_0 0 rfl ?_
  refine R_constI DX9_sold_1 ci_0 ?_
  obtain ⟨s1, es1, h⟩ := bind_some h
  refine R_pI DX9_sold_2 fl_RX9_92 es1 ?_
  refine R_aload DX9_sold_5 0 rfl ?_
  refine R_iload DX9_sold_6 1 rfl ?_
  obtain ⟨r2, er2, h⟩ := bind_some h
  refine R_cV1 [.int x1] DX9_sold_7 kzvX9_isShop ml_RX9_314 ⟨Nat.le_of_ble_eq_true rfl, Nat.le_of_ble_eq_true rfl⟩ rfl (Nat.le_of_ble_eq_true rfl) (kX9_isShop er2) ?_
  by_cases c3 : r2.1 = 0
  · replace h := if_t h c3
    refine R_if_ne_f DX9_sold_10 c3 ?_
    refine R_constI DX9_sold_13 ci_m2 ?_
    cases h
    exact R_ireturn rfl DX9_sold_15
  · replace h := if_f h c3
    refine R_if_ne_t DX9_sold_10 c3 ?_
    refine R_aload DX9_sold_16 0 rfl ?_
    obtain ⟨s4, es4, h⟩ := bind_some h
    refine R_cV0 [] DX9_sold_17 kzvX9_asTold ml_RX9_389 ⟨Nat.le_of_ble_eq_true rfl, Nat.le_of_ble_eq_true rfl⟩ rfl (Nat.le_of_ble_eq_true rfl) (kX9_asTold es4) ?_
    refine R_iload DX9_sold_20 2 rfl ?_
    refine R_istore [(3, .int x2), (0, .ref x0), (1, .int x1), (2, .int x2)] DX9_sold_21 (by decide) rfl ?_
    refine R_constI DX9_sold_22 ci_0 ?_
    refine R_istore [(4, .int (iI 0)), (3, .int x2), (0, .ref x0), (1, .int x1), (2, .int x2)] DX9_sold_23 (by decide) rfl ?_
    refine R.sub (L' := [(0, .ref x0), (1, .int x1), (3, .int x2), (4, .int (iI 0))]) [2, 3, 1, 0] rfl ?_
    obtain ⟨r12, hi, h⟩ := bind_some h
    have hE : (Sum.elim (fun u25 : Hp => R G MX9_sold 71 [] [] u25 (some (.int w.1), w.2)) (fun u25 : Int32 × Hp => R G MX9_sold 59 [(4, .int u25.1)] [] u25.2 (some (.int w.1), w.2))) r12 → ∀ (q3 : Int32) (q4 : Int32) (qs : Hp), iter (fX9_sold_l25 x0 x1) FU (q3, q4, qs) = some r12 → R G MX9_sold 25 [(0, .ref x0), (1, .int x1), (3, .int q3), (4, .int q4)] [] qs (some (.int w.1), w.2) := fun hX q3 q4 qs hj => loop_R (fX9_sold_l25 x0 x1) (fun p25 : Int32 × Int32 × Hp => R G MX9_sold 25 [(0, .ref x0), (1, .int x1), (3, .int p25.1), (4, .int p25.2.1)] [] p25.2.2 (some (.int w.1), w.2)) (Sum.elim (fun u25 : Hp => R G MX9_sold 71 [] [] u25 (some (.int w.1), w.2)) (fun u25 : Int32 × Hp => R G MX9_sold 59 [(4, .int u25.1)] [] u25.2 (some (.int w.1), w.2))) (fun a w hw hc he => tX9_sold_l25 hw (fun q3 q4 qs e => hc (q3, q4, qs) e) (fun qs e => he (.inl qs) e) (fun q4 qs e => he (.inr (q4, qs)) e)) FU (q3, q4, qs) r12 hj hX
    refine hE ?_ _ _ _ hi
    clear hE hi
    rcases r12 with r12a | r12b
    · replace h := el_l h
      refine R_constI DX9_sold_71 ci_m1 ?_
      cases h
      exact R_ireturn rfl DX9_sold_72
    replace h := el_r h
    refine R_iload DX9_sold_59 0 rfl ?_
    cases h
    exact R_ireturn rfl DX9_sold_61
set_option maxRecDepth 8000 in
theorem tX9_moneyNow_l4 {G : Gm} {x0 : Nat} {o : Option Value × Hp} {a : Int32 × Int32 × Hp} {w : (Int32 × Int32 × Hp) ⊕ ((Int32 × Hp))} (h : fX9_moneyNow_l4 x0 a = some w) (hc : ∀ (q1 : Int32) (q2 : Int32) (qs : Hp), w = .inl (q1, q2, qs) → R G MX9_moneyNow 4 [(0, .ref x0), (1, .int q1), (2, .int q2)] [] qs o) (he0 : ∀ (q1 : Int32) (qs : Hp), w = .inr (q1, qs) → R G MX9_moneyNow 39 [(1, .int q1)] [] qs o) : R G MX9_moneyNow 4 [(0, .ref x0), (1, .int a.1), (2, .int a.2.1)] [] a.2.2 o := by
  unfold fX9_moneyNow_l4 at h
  refine R_iload DX9_moneyNow_4 2 rfl ?_
  refine R_aload DX9_moneyNow_5 0 rfl ?_
  obtain ⟨v1, ev1, h⟩ := bind_some h
  refine R_gR DX9_moneyNow_6 fl_RX9_34 ev1 ?_
  refine R_constI DX9_moneyNow_9 ci_7 ?_
  obtain ⟨v2, ev2, h⟩ := bind_some h
  refine R_aI DX9_moneyNow_11 ev2 ?_
  by_cases c3 : v2 ≤ a.2.1
  · replace h := if_t h c3
    refine R_icmp_ge_t DX9_moneyNow_12 c3 ?_
    refine R.sub (L' := [(1, .int a.1)]) [1] rfl ?_
    cases h
    exact he0 _ _ rfl
  · replace h := if_f h c3
    refine R_icmp_ge_f DX9_moneyNow_12 c3 ?_
    refine R_iload DX9_moneyNow_15 1 rfl ?_
    refine R_aload DX9_moneyNow_16 0 rfl ?_
    refine R_iload DX9_moneyNow_17 2 rfl ?_
    refine R_aload DX9_moneyNow_18 0 rfl ?_
    obtain ⟨v4, ev4, h⟩ := bind_some h
    refine R_gR DX9_moneyNow_19 fl_RX9_34 ev4 ?_
    refine R_constI DX9_moneyNow_22 ci_3 ?_
    obtain ⟨v5, ev5, h⟩ := bind_some h
    refine R_aI DX9_moneyNow_23 ev5 ?_
    refine R_constI DX9_moneyNow_24 ci_1 ?_
    refine R_isub DX9_moneyNow_25 ?_
    refine R_constI DX9_moneyNow_26 ci_6 ?_
    obtain ⟨r6, er6, h⟩ := bind_some h
    refine R_cV1 [.int a.2.1, .int (v5 - (iI 1)), .int (iI 6)] DX9_moneyNow_28 kzvX9_spotOf ml_RX9_394 ⟨Nat.le_of_ble_eq_true rfl, Nat.le_of_ble_eq_true rfl⟩ rfl (Nat.le_of_ble_eq_true rfl) (kX9_spotOf er6) ?_
    refine R_iadd DX9_moneyNow_31 ?_
    obtain ⟨z7, ez7, h⟩ := lt_some h
    refine R_istoreE ez7 [(1, .int z7), (0, .ref x0), (2, .int a.2.1)] DX9_moneyNow_32 (by decide) rfl ?_
    refine R_iinc [(2, .int (a.2.1 + iI 1)), (1, .int z7), (0, .ref x0)] DX9_moneyNow_33 2 rfl (v := a.2.1 + iI 1) (by rfl) (by decide) rfl ?_
    refine R_goto DX9_moneyNow_36 ?_
    refine R.sub (L' := [(0, .ref x0), (1, .int z7), (2, .int (a.2.1 + iI 1))]) [2, 1, 0] rfl ?_
    cases h
    exact hc _ _ _ rfl
set_option maxRecDepth 8000 in
theorem kX9_moneyNow {G : Gm} {x0 : Nat} {s : Hp} {w : Int32 × Hp} (h : fX9_moneyNow x0 s = some w) : (s.2.2 x0).1 = 9 ∧ Call G MX9_moneyNow [.ref x0] s (some (.int w.1), w.2) := by
  unfold fX9_moneyNow at h
  obtain ⟨_, e0, h⟩ := bind_some h
  refine ⟨ck_some e0, Call.of_R pnRX9 (Nat.le_of_ble_eq_true rfl) ?_⟩
  clear e0
  show R G MX9_moneyNow 0 [(0, .ref x0)] [] s (some (.int w.1), w.2)
  refine R_constI DX9_moneyNow_0 ci_0 ?_
  refine R_istore [(1, .int (iI 0)), (0, .ref x0)] DX9_moneyNow_1 (by decide) rfl ?_
  refine R_constI DX9_moneyNow_2 ci_0 ?_
  refine R_istore [(2, .int (iI 0)), (1, .int (iI 0)), (0, .ref x0)] DX9_moneyNow_3 (by decide) rfl ?_
  refine R.sub (L' := [(0, .ref x0), (1, .int (iI 0)), (2, .int (iI 0))]) [2, 1, 0] rfl ?_
  obtain ⟨r8, hi, h⟩ := bind_some h
  have hE : (fun u4 : Int32 × Hp => R G MX9_moneyNow 39 [(1, .int u4.1)] [] u4.2 (some (.int w.1), w.2)) r8 → ∀ (q1 : Int32) (q2 : Int32) (qs : Hp), iter (fX9_moneyNow_l4 x0) FU (q1, q2, qs) = some r8 → R G MX9_moneyNow 4 [(0, .ref x0), (1, .int q1), (2, .int q2)] [] qs (some (.int w.1), w.2) := fun hX q1 q2 qs hj => loop_R (fX9_moneyNow_l4 x0) (fun p4 : Int32 × Int32 × Hp => R G MX9_moneyNow 4 [(0, .ref x0), (1, .int p4.1), (2, .int p4.2.1)] [] p4.2.2 (some (.int w.1), w.2)) (fun u4 : Int32 × Hp => R G MX9_moneyNow 39 [(1, .int u4.1)] [] u4.2 (some (.int w.1), w.2)) (fun a w hw hc he => tX9_moneyNow_l4 hw (fun q1 q2 qs e => hc (q1, q2, qs) e) (fun q1 qs e => he (q1, qs) e)) FU (q1, q2, qs) r8 hj hX
  refine hE ?_ _ _ _ hi
  clear hE hi
  refine R_iload DX9_moneyNow_39 0 rfl ?_
  cases h
  exact R_ireturn rfl DX9_moneyNow_40
set_option maxRecDepth 8000 in
theorem kX9_money {G : Gm} {x0 : Nat} {s : Hp} {w : Int32 × Hp} (h : fX9_money x0 s = some w) : (s.2.2 x0).1 = 9 ∧ Call G MX9_money [.ref x0] s (some (.int w.1), w.2) := by
  unfold fX9_money at h
  obtain ⟨_, e0, h⟩ := bind_some h
  refine ⟨ck_some e0, Call.of_R pnRX9 (Nat.le_of_ble_eq_true rfl) ?_⟩
  clear e0
  show R G MX9_money 0 [(0, .ref x0)] [] s (some (.int w.1), w.2)
  refine R_aload DX9_money_0 0 rfl ?_
  refine R_constI DX9_money_1 ci_0 ?_
  obtain ⟨s1, es1, h⟩ := bind_some h
  refine R_pI DX9_money_2 fl_RX9_92 es1 ?_
  refine R_aload DX9_money_5 0 rfl ?_
  obtain ⟨r2, er2, h⟩ := bind_some h
  refine R_cV1 [] DX9_money_6 kzvX9_isValley ml_RX9_322 ⟨Nat.le_of_ble_eq_true rfl, Nat.le_of_ble_eq_true rfl⟩ rfl (Nat.le_of_ble_eq_true rfl) (kX9_isValley er2) ?_
  by_cases c3 : r2.1 = 0
  · replace h := if_t h c3
    refine R_if_ne_f DX9_money_9 c3 ?_
    refine R_constI DX9_money_12 ci_m2 ?_
    cases h
    exact R_ireturn rfl DX9_money_14
  · replace h := if_f h c3
    refine R_if_ne_t DX9_money_9 c3 ?_
    refine R_aload DX9_money_15 0 rfl ?_
    obtain ⟨s4, es4, h⟩ := bind_some h
    refine R_cV0 [] DX9_money_16 kzvX9_asTold ml_RX9_389 ⟨Nat.le_of_ble_eq_true rfl, Nat.le_of_ble_eq_true rfl⟩ rfl (Nat.le_of_ble_eq_true rfl) (kX9_asTold es4) ?_
    refine R_aload DX9_money_19 0 rfl ?_
    obtain ⟨r5, er5, h⟩ := bind_some h
    refine R_cV1 [] DX9_money_20 kzvX9_moneyNow ml_RX9_398 ⟨Nat.le_of_ble_eq_true rfl, Nat.le_of_ble_eq_true rfl⟩ rfl (Nat.le_of_ble_eq_true rfl) (kX9_moneyNow er5) ?_
    cases h
    exact R_ireturn rfl DX9_money_23
set_option maxRecDepth 8000 in
theorem tX9_richest_b74 {G : Gm} {x0 : Nat} {x1 : Int32} {x2 : Int32} {s : Hp} {o : Option Value × Hp} {w : (Int32 × Int32 × Hp) ⊕ ((Int32 × Hp))} (h : fX9_richest_b74 x0 x1 x2 s = some w) (hc : ∀ (q1 : Int32) (q2 : Int32) (qs : Hp), w = .inl (q1, q2, qs) → R G MX9_richest 23 [(0, .ref x0), (1, .int q1), (2, .int q2)] [] qs o) (he0 : ∀ (q1 : Int32) (qs : Hp), w = .inr (q1, qs) → R G MX9_richest 80 [(1, .int q1)] [] qs o) : R G MX9_richest 74 [(0, .ref x0), (1, .int x1), (2, .int x2)] [] s o := by
  unfold fX9_richest_b74 at h
  refine R_iinc [(2, .int (x2 + iI 1)), (0, .ref x0), (1, .int x1)] DX9_richest_74 2 rfl (v := x2 + iI 1) (by rfl) (by decide) rfl ?_
  refine R_goto DX9_richest_77 ?_
  refine R.sub (L' := [(0, .ref x0), (1, .int x1), (2, .int (x2 + iI 1))]) [1, 2, 0] rfl ?_
  cases h
  exact hc _ _ _ rfl
set_option maxRecDepth 8000 in
theorem tX9_richest_b72 {G : Gm} {x0 : Nat} {x2 : Int32} {s : Hp} {o : Option Value × Hp} {w : (Int32 × Int32 × Hp) ⊕ ((Int32 × Hp))} (h : fX9_richest_b72 x0 x2 s = some w) (hc : ∀ (q1 : Int32) (q2 : Int32) (qs : Hp), w = .inl (q1, q2, qs) → R G MX9_richest 23 [(0, .ref x0), (1, .int q1), (2, .int q2)] [] qs o) (he0 : ∀ (q1 : Int32) (qs : Hp), w = .inr (q1, qs) → R G MX9_richest 80 [(1, .int q1)] [] qs o) : R G MX9_richest 72 [(0, .ref x0), (2, .int x2)] [] s o := by
  unfold fX9_richest_b72 at h
  refine R_iload DX9_richest_72 1 rfl ?_
  refine R_istore [(1, .int x2), (0, .ref x0), (2, .int x2)] DX9_richest_73 (by decide) rfl ?_
  refine R.sub (L' := [(0, .ref x0), (1, .int x2), (2, .int x2)]) [1, 0, 2] rfl ?_
  exact tX9_richest_b74 h hc he0
set_option maxRecDepth 8000 in
theorem tX9_richest_l23 {G : Gm} {x0 : Nat} {o : Option Value × Hp} {a : Int32 × Int32 × Hp} {w : (Int32 × Int32 × Hp) ⊕ ((Int32 × Hp))} (h : fX9_richest_l23 x0 a = some w) (hc : ∀ (q1 : Int32) (q2 : Int32) (qs : Hp), w = .inl (q1, q2, qs) → R G MX9_richest 23 [(0, .ref x0), (1, .int q1), (2, .int q2)] [] qs o) (he0 : ∀ (q1 : Int32) (qs : Hp), w = .inr (q1, qs) → R G MX9_richest 80 [(1, .int q1)] [] qs o) : R G MX9_richest 23 [(0, .ref x0), (1, .int a.1), (2, .int a.2.1)] [] a.2.2 o := by
  unfold fX9_richest_l23 at h
  refine R_iload DX9_richest_23 2 rfl ?_
  refine R_aload DX9_richest_24 0 rfl ?_
  obtain ⟨v5, ev5, h⟩ := bind_some h
  refine R_gR DX9_richest_25 fl_RX9_34 ev5 ?_
  refine R_constI DX9_richest_28 ci_7 ?_
  obtain ⟨v6, ev6, h⟩ := bind_some h
  refine R_aI DX9_richest_30 ev6 ?_
  by_cases c7 : v6 ≤ a.2.1
  · replace h := if_t h c7
    refine R_icmp_ge_t DX9_richest_31 c7 ?_
    refine R.sub (L' := [(1, .int a.1)]) [1] rfl ?_
    cases h
    exact he0 _ _ rfl
  · replace h := if_f h c7
    refine R_icmp_ge_f DX9_richest_31 c7 ?_
    refine R_iload DX9_richest_34 1 rfl ?_
    refine R_constI DX9_richest_35 ci_m1 ?_
    by_cases c8 : a.1 = (iI (-1))
    · replace h := if_t h c8
      refine R_icmp_eq_t DX9_richest_36 c8 ?_
      refine R.sub (L' := [(0, .ref x0), (2, .int a.2.1)]) [0, 2] rfl ?_
      exact tX9_richest_b72 h hc he0
    · replace h := if_f h c8
      refine R_icmp_eq_f DX9_richest_36 c8 ?_
      refine R_aload DX9_richest_39 0 rfl ?_
      refine R_iload DX9_richest_40 2 rfl ?_
      refine R_aload DX9_richest_41 0 rfl ?_
      obtain ⟨v9, ev9, h⟩ := bind_some h
      refine R_gR DX9_richest_42 fl_RX9_34 ev9 ?_
      refine R_constI DX9_richest_45 ci_3 ?_
      obtain ⟨v10, ev10, h⟩ := bind_some h
      refine R_aI DX9_richest_46 ev10 ?_
      refine R_constI DX9_richest_47 ci_1 ?_
      refine R_isub DX9_richest_48 ?_
      refine R_constI DX9_richest_49 ci_6 ?_
      obtain ⟨r11, er11, h⟩ := bind_some h
      refine R_cV1 [.int a.2.1, .int (v10 - (iI 1)), .int (iI 6)] DX9_richest_51 kzvX9_spotOf ml_RX9_394 ⟨Nat.le_of_ble_eq_true rfl, Nat.le_of_ble_eq_true rfl⟩ rfl (Nat.le_of_ble_eq_true rfl) (kX9_spotOf er11) ?_
      refine R_aload DX9_richest_54 0 rfl ?_
      refine R_iload DX9_richest_55 1 rfl ?_
      refine R_aload DX9_richest_56 0 rfl ?_
      obtain ⟨v12, ev12, h⟩ := bind_some h
      refine R_gR DX9_richest_57 fl_RX9_34 ev12 ?_
      refine R_constI DX9_richest_60 ci_3 ?_
      obtain ⟨v13, ev13, h⟩ := bind_some h
      refine R_aI DX9_richest_61 ev13 ?_
      refine R_constI DX9_richest_62 ci_1 ?_
      refine R_isub DX9_richest_63 ?_
      refine R_constI DX9_richest_64 ci_6 ?_
      obtain ⟨r14, er14, h⟩ := bind_some h
      refine R_cV1 [.int a.1, .int (v13 - (iI 1)), .int (iI 6)] DX9_richest_66 kzvX9_spotOf ml_RX9_394 ⟨Nat.le_of_ble_eq_true rfl, Nat.le_of_ble_eq_true rfl⟩ rfl (Nat.le_of_ble_eq_true rfl) (kX9_spotOf er14) ?_
      by_cases c15 : r11.1 ≤ r14.1
      · replace h := if_t h c15
        refine R_icmp_le_t DX9_richest_69 c15 ?_
        exact tX9_richest_b74 h hc he0
      · replace h := if_f h c15
        refine R_icmp_le_f DX9_richest_69 c15 ?_
        refine R.sub (L' := [(0, .ref x0), (2, .int a.2.1)]) [0, 2] rfl ?_
        exact tX9_richest_b72 h hc he0
set_option maxRecDepth 8000 in
theorem kX9_richest {G : Gm} {x0 : Nat} {s : Hp} {w : Int32 × Hp} (h : fX9_richest x0 s = some w) : (s.2.2 x0).1 = 9 ∧ Call G MX9_richest [.ref x0] s (some (.int w.1), w.2) := by
  unfold fX9_richest at h
  obtain ⟨_, e0, h⟩ := bind_some h
  refine ⟨ck_some e0, Call.of_R pnRX9 (Nat.le_of_ble_eq_true rfl) ?_⟩
  clear e0
  show R G MX9_richest 0 [(0, .ref x0)] [] s (some (.int w.1), w.2)
  refine R_aload DX9_richest_0 0 rfl ?_
  refine R_constI DX9_richest_1 ci_0 ?_
  obtain ⟨s1, es1, h⟩ := bind_some h
  refine R_pI DX9_richest_2 fl_RX9_92 es1 ?_
  refine R_aload DX9_richest_5 0 rfl ?_
  obtain ⟨r2, er2, h⟩ := bind_some h
  refine R_cV1 [] DX9_richest_6 kzvX9_isValley ml_RX9_322 ⟨Nat.le_of_ble_eq_true rfl, Nat.le_of_ble_eq_true rfl⟩ rfl (Nat.le_of_ble_eq_true rfl) (kX9_isValley er2) ?_
  by_cases c3 : r2.1 = 0
  · replace h := if_t h c3
    refine R_if_ne_f DX9_richest_9 c3 ?_
    refine R_constI DX9_richest_12 ci_m2 ?_
    cases h
    exact R_ireturn rfl DX9_richest_14
  · replace h := if_f h c3
    refine R_if_ne_t DX9_richest_9 c3 ?_
    refine R_aload DX9_richest_15 0 rfl ?_
    obtain ⟨s4, es4, h⟩ := bind_some h
    refine R_cV0 [] DX9_richest_16 kzvX9_asTold ml_RX9_389 ⟨Nat.le_of_ble_eq_true rfl, Nat.le_of_ble_eq_true rfl⟩ rfl (Nat.le_of_ble_eq_true rfl) (kX9_asTold es4) ?_
    refine R_constI DX9_richest_19 ci_m1 ?_
    refine R_istore [(1, .int (iI (-1))), (0, .ref x0)] DX9_richest_20 (by decide) rfl ?_
    refine R_constI DX9_richest_21 ci_0 ?_
    refine R_istore [(2, .int (iI 0)), (1, .int (iI (-1))), (0, .ref x0)] DX9_richest_22 (by decide) rfl ?_
    refine R.sub (L' := [(0, .ref x0), (1, .int (iI (-1))), (2, .int (iI 0))]) [2, 1, 0] rfl ?_
    obtain ⟨r16, hi, h⟩ := bind_some h
    have hE : (fun u23 : Int32 × Hp => R G MX9_richest 80 [(1, .int u23.1)] [] u23.2 (some (.int w.1), w.2)) r16 → ∀ (q1 : Int32) (q2 : Int32) (qs : Hp), iter (fX9_richest_l23 x0) FU (q1, q2, qs) = some r16 → R G MX9_richest 23 [(0, .ref x0), (1, .int q1), (2, .int q2)] [] qs (some (.int w.1), w.2) := fun hX q1 q2 qs hj => loop_R (fX9_richest_l23 x0) (fun p23 : Int32 × Int32 × Hp => R G MX9_richest 23 [(0, .ref x0), (1, .int p23.1), (2, .int p23.2.1)] [] p23.2.2 (some (.int w.1), w.2)) (fun u23 : Int32 × Hp => R G MX9_richest 80 [(1, .int u23.1)] [] u23.2 (some (.int w.1), w.2)) (fun a w hw hc he => tX9_richest_l23 hw (fun q1 q2 qs e => hc (q1, q2, qs) e) (fun q1 qs e => he (q1, qs) e)) FU (q1, q2, qs) r16 hj hX
    refine hE ?_ _ _ _ hi
    clear hE hi
    refine R_iload DX9_richest_80 0 rfl ?_
    cases h
    exact R_ireturn rfl DX9_richest_81
set_option maxRecDepth 8000 in
theorem tX9_areTwo_b25 {G : Gm} {s : Hp} {w : Int32 × Hp} (h : fX9_areTwo_b25 s = some w) : R G MX9_areTwo 25 [] [] s (some (.int w.1), w.2) := by
  unfold fX9_areTwo_b25 at h
  refine R_constI DX9_areTwo_25 ci_0 ?_
  cases h
  exact R_zreturn rfl DX9_areTwo_26 (by decide)
set_option maxRecDepth 8000 in
theorem kX9_areTwo {G : Gm} {x0 : Nat} {x1 : Int32} {x2 : Int32} {s : Hp} {w : Int32 × Hp} (h : fX9_areTwo x0 x1 x2 s = some w) : (s.2.2 x0).1 = 9 ∧ Call G MX9_areTwo [.ref x0, .int x1, .int x2] s (some (.int w.1), w.2) := by
  unfold fX9_areTwo at h
  obtain ⟨_, e0, h⟩ := bind_some h
  refine ⟨ck_some e0, Call.of_R pnRX9 (Nat.le_of_ble_eq_true rfl) ?_⟩
  clear e0
  show R G MX9_areTwo 0 [(0, .ref x0), (1, .int x1), (2, .int x2)] [] s (some (.int w.1), w.2)
  refine R_aload DX9_areTwo_0 0 rfl ?_
  refine R_iload DX9_areTwo_1 1 rfl ?_
  obtain ⟨r1, er1, h⟩ := bind_some h
  refine R_cV1 [.int x1] DX9_areTwo_2 kzvX9_isShop ml_RX9_314 ⟨Nat.le_of_ble_eq_true rfl, Nat.le_of_ble_eq_true rfl⟩ rfl (Nat.le_of_ble_eq_true rfl) (kX9_isShop er1) ?_
  by_cases c2 : r1.1 = 0
  · replace h := if_t h c2
    refine R_if_eq_t DX9_areTwo_5 c2 ?_
    refine R.sub (L' := []) [] rfl ?_
    exact tX9_areTwo_b25 h
  · replace h := if_f h c2
    refine R_if_eq_f DX9_areTwo_5 c2 ?_
    refine R_aload DX9_areTwo_8 0 rfl ?_
    refine R_iload DX9_areTwo_9 2 rfl ?_
    obtain ⟨r3, er3, h⟩ := bind_some h
    refine R_cV1 [.int x2] DX9_areTwo_10 kzvX9_isShop ml_RX9_314 ⟨Nat.le_of_ble_eq_true rfl, Nat.le_of_ble_eq_true rfl⟩ rfl (Nat.le_of_ble_eq_true rfl) (kX9_isShop er3) ?_
    by_cases c4 : r3.1 = 0
    · replace h := if_t h c4
      refine R_if_eq_t DX9_areTwo_13 c4 ?_
      refine R.sub (L' := []) [] rfl ?_
      exact tX9_areTwo_b25 h
    · replace h := if_f h c4
      refine R_if_eq_f DX9_areTwo_13 c4 ?_
      refine R_iload DX9_areTwo_16 1 rfl ?_
      refine R_iload DX9_areTwo_17 2 rfl ?_
      by_cases c5 : x1 = x2
      · replace h := if_t h c5
        refine R_icmp_eq_t DX9_areTwo_18 c5 ?_
        refine R.sub (L' := []) [] rfl ?_
        exact tX9_areTwo_b25 h
      · replace h := if_f h c5
        refine R_icmp_eq_f DX9_areTwo_18 c5 ?_
        refine R_constI DX9_areTwo_21 ci_1 ?_
        refine R_goto DX9_areTwo_22 ?_
        cases h
        exact R_zreturn rfl DX9_areTwo_26 (by decide)
set_option maxRecDepth 8000 in
theorem tX9_meets_b80 {G : Gm} {x0 : Nat} {x1 : Int32} {x2 : Int32} {x3 : Int32} {x4 : Int32} {x6 : Int32} {y0 : Int32} {s : Hp} {o : Option Value × Hp} {w : (Int32 × Int32 × Hp) ⊕ ((Int32 × Hp))} (h : fX9_meets_b80 x0 x1 x2 x3 x4 x6 y0 s = some w) (hc : ∀ (q5 : Int32) (q6 : Int32) (qs : Hp), w = .inl (q5, q6, qs) → R G MX9_meets 43 [(0, .ref x0), (1, .int x1), (2, .int x2), (3, .int x3), (4, .int x4), (5, .int q5), (6, .int q6)] [] qs o) (he0 : ∀ (q5 : Int32) (qs : Hp), w = .inr (q5, qs) → R G MX9_meets 88 [(0, .ref x0), (1, .int x1), (2, .int x2), (3, .int x3), (4, .int x4), (5, .int q5)] [] qs o) : R G MX9_meets 80 [(0, .ref x0), (1, .int x1), (2, .int x2), (3, .int x3), (4, .int x4), (6, .int x6)] [.int y0] s o := by
  unfold fX9_meets_b80 at h
  refine R_istore [(5, .int y0), (0, .ref x0), (1, .int x1), (2, .int x2), (3, .int x3), (4, .int x4), (6, .int x6)] DX9_meets_80 (by decide) rfl ?_
  refine R_iinc [(6, .int (x6 + iI 1)), (5, .int y0), (0, .ref x0), (1, .int x1), (2, .int x2), (3, .int x3), (4, .int x4)] DX9_meets_82 6 rfl (v := x6 + iI 1) (by rfl) (by decide) rfl ?_
  refine R_goto DX9_meets_85 ?_
  refine R.sub (L' := [(0, .ref x0), (1, .int x1), (2, .int x2), (3, .int x3), (4, .int x4), (5, .int y0), (6, .int (x6 + iI 1))]) [2, 3, 4, 5, 6, 1, 0] rfl ?_
  cases h
  exact hc _ _ _ rfl
set_option maxRecDepth 8000 in
theorem tX9_meets_l43 {G : Gm} {x0 : Nat} {x1 : Int32} {x2 : Int32} {x3 : Int32} {x4 : Int32} {o : Option Value × Hp} {a : Int32 × Int32 × Hp} {w : (Int32 × Int32 × Hp) ⊕ ((Int32 × Hp))} (h : fX9_meets_l43 x0 x1 x2 x3 x4 a = some w) (hc : ∀ (q5 : Int32) (q6 : Int32) (qs : Hp), w = .inl (q5, q6, qs) → R G MX9_meets 43 [(0, .ref x0), (1, .int x1), (2, .int x2), (3, .int x3), (4, .int x4), (5, .int q5), (6, .int q6)] [] qs o) (he0 : ∀ (q5 : Int32) (qs : Hp), w = .inr (q5, qs) → R G MX9_meets 88 [(0, .ref x0), (1, .int x1), (2, .int x2), (3, .int x3), (4, .int x4), (5, .int q5)] [] qs o) : R G MX9_meets 43 [(0, .ref x0), (1, .int x1), (2, .int x2), (3, .int x3), (4, .int x4), (5, .int a.1), (6, .int a.2.1)] [] a.2.2 o := by
  unfold fX9_meets_l43 at h
  refine R_iload DX9_meets_43 6 rfl ?_
  refine R_constI DX9_meets_45 ci_3 ?_
  by_cases c8 : (iI 3) ≤ a.2.1
  · replace h := if_t h c8
    refine R_icmp_ge_t DX9_meets_46 c8 ?_
    refine R.sub (L' := [(0, .ref x0), (1, .int x1), (2, .int x2), (3, .int x3), (4, .int x4), (5, .int a.1)]) [0, 1, 2, 3, 4, 5] rfl ?_
    cases h
    exact he0 _ _ rfl
  · replace h := if_f h c8
    refine R_icmp_ge_f DX9_meets_46 c8 ?_
    refine R_iload DX9_meets_49 5 rfl ?_
    by_cases c9 : a.1 = 0
    · replace h := if_t h c9
      refine R_if_eq_t DX9_meets_51 c9 ?_
      refine R.sub (L' := [(0, .ref x0), (1, .int x1), (2, .int x2), (3, .int x3), (4, .int x4), (5, .int a.1)]) [0, 1, 2, 3, 4, 5] rfl ?_
      cases h
      exact he0 _ _ rfl
    · replace h := if_f h c9
      refine R_if_eq_f DX9_meets_51 c9 ?_
      refine R_aload DX9_meets_54 0 rfl ?_
      refine R_iload DX9_meets_55 1 rfl ?_
      refine R_iload DX9_meets_56 4 rfl ?_
      refine R_iload DX9_meets_58 6 rfl ?_
      obtain ⟨r10, er10, h⟩ := bind_some h
      refine R_cV1 [.int x1, .int x4, .int a.2.1] DX9_meets_60 kzvX9_spotOf ml_RX9_394 ⟨Nat.le_of_ble_eq_true rfl, Nat.le_of_ble_eq_true rfl⟩ rfl (Nat.le_of_ble_eq_true rfl) (kX9_spotOf er10) ?_
      refine R_aload DX9_meets_63 0 rfl ?_
      refine R_iload DX9_meets_64 2 rfl ?_
      refine R_iload DX9_meets_65 4 rfl ?_
      refine R_iload DX9_meets_67 6 rfl ?_
      obtain ⟨r11, er11, h⟩ := bind_some h
      refine R_cV1 [.int x2, .int x4, .int a.2.1] DX9_meets_69 kzvX9_spotOf ml_RX9_394 ⟨Nat.le_of_ble_eq_true rfl, Nat.le_of_ble_eq_true rfl⟩ rfl (Nat.le_of_ble_eq_true rfl) (kX9_spotOf er11) ?_
      by_cases c12 : r10.1 = r11.1
      · replace h := if_t h c12
        refine R_icmp_ne_f DX9_meets_72 c12 ?_
        refine R_constI DX9_meets_75 ci_1 ?_
        refine R_goto DX9_meets_76 ?_
        refine R.sub (L' := [(0, .ref x0), (1, .int x1), (2, .int x2), (3, .int x3), (4, .int x4), (6, .int a.2.1)]) [0, 1, 2, 3, 4, 6] rfl ?_
        exact tX9_meets_b80 h hc he0
      · replace h := if_f h c12
        refine R_icmp_ne_t DX9_meets_72 c12 ?_
        refine R_constI DX9_meets_79 ci_0 ?_
        refine R.sub (L' := [(0, .ref x0), (1, .int x1), (2, .int x2), (3, .int x3), (4, .int x4), (6, .int a.2.1)]) [0, 1, 2, 3, 4, 6] rfl ?_
        exact tX9_meets_b80 h hc he0
set_option maxRecDepth 8000 in
theorem tX9_meets_b102 {G : Gm} {x0 : Nat} {x1 : Int32} {x2 : Int32} {x4 : Int32} {y0 : Int32} {y1 : Int32} {s : Hp} {o : Option Value × Hp} {w : (Int32 × Int32 × Hp) ⊕ ((Int32 × Hp))} (h : fX9_meets_b102 x0 x1 x2 x4 y0 y1 s = some w) (hc : ∀ (q3 : Int32) (q4 : Int32) (qs : Hp), w = .inl (q3, q4, qs) → R G MX9_meets 26 [(0, .ref x0), (1, .int x1), (2, .int x2), (3, .int q3), (4, .int q4)] [] qs o) (he0 : ∀ (q3 : Int32) (qs : Hp), w = .inr (q3, qs) → R G MX9_meets 110 [(3, .int q3)] [] qs o) : R G MX9_meets 102 [(0, .ref x0), (1, .int x1), (2, .int x2), (4, .int x4)] [.int y1, .int y0] s o := by
  unfold fX9_meets_b102 at h
  refine R_ior DX9_meets_102 ?_
  obtain ⟨z15, ez15, h⟩ := lt_some h
  refine R_istoreE ez15 [(3, .int z15), (0, .ref x0), (1, .int x1), (2, .int x2), (4, .int x4)] DX9_meets_103 (by decide) rfl ?_
  refine R_iinc [(4, .int (x4 + iI 1)), (3, .int z15), (0, .ref x0), (1, .int x1), (2, .int x2)] DX9_meets_104 4 rfl (v := x4 + iI 1) (by rfl) (by decide) rfl ?_
  refine R_goto DX9_meets_107 ?_
  refine R.sub (L' := [(0, .ref x0), (1, .int x1), (2, .int x2), (3, .int z15), (4, .int (x4 + iI 1))]) [2, 3, 4, 1, 0] rfl ?_
  cases h
  exact hc _ _ _ rfl
set_option maxRecDepth 8000 in
theorem tX9_meets_b88 {G : Gm} {x0 : Nat} {x1 : Int32} {x2 : Int32} {x3 : Int32} {x4 : Int32} {x5 : Int32} {s : Hp} {o : Option Value × Hp} {w : (Int32 × Int32 × Hp) ⊕ ((Int32 × Hp))} (h : fX9_meets_b88 x0 x1 x2 x3 x4 x5 s = some w) (hc : ∀ (q3 : Int32) (q4 : Int32) (qs : Hp), w = .inl (q3, q4, qs) → R G MX9_meets 26 [(0, .ref x0), (1, .int x1), (2, .int x2), (3, .int q3), (4, .int q4)] [] qs o) (he0 : ∀ (q3 : Int32) (qs : Hp), w = .inr (q3, qs) → R G MX9_meets 110 [(3, .int q3)] [] qs o) : R G MX9_meets 88 [(0, .ref x0), (1, .int x1), (2, .int x2), (3, .int x3), (4, .int x4), (5, .int x5)] [] s o := by
  unfold fX9_meets_b88 at h
  refine R_iload DX9_meets_88 3 rfl ?_
  refine R_iload DX9_meets_89 5 rfl ?_
  by_cases c14 : x5 = 0
  · replace h := if_t h c14
    refine R_if_eq_t DX9_meets_91 c14 ?_
    refine R_constI DX9_meets_101 ci_0 ?_
    refine R.sub (L' := [(0, .ref x0), (1, .int x1), (2, .int x2), (4, .int x4)]) [0, 1, 2, 4] rfl ?_
    exact tX9_meets_b102 h hc he0
  · replace h := if_f h c14
    refine R_if_eq_f DX9_meets_91 c14 ?_
    refine R_constI DX9_meets_94 ci_1 ?_
    refine R_iload DX9_meets_95 4 rfl ?_
    refine R_ishl DX9_meets_97 ?_
    refine R_goto DX9_meets_98 ?_
    refine R.sub (L' := [(0, .ref x0), (1, .int x1), (2, .int x2), (4, .int x4)]) [0, 1, 2, 4] rfl ?_
    exact tX9_meets_b102 h hc he0
set_option maxRecDepth 8000 in
theorem tX9_meets_l26 {G : Gm} {x0 : Nat} {x1 : Int32} {x2 : Int32} {o : Option Value × Hp} {a : Int32 × Int32 × Hp} {w : (Int32 × Int32 × Hp) ⊕ ((Int32 × Hp))} (h : fX9_meets_l26 x0 x1 x2 a = some w) (hc : ∀ (q3 : Int32) (q4 : Int32) (qs : Hp), w = .inl (q3, q4, qs) → R G MX9_meets 26 [(0, .ref x0), (1, .int x1), (2, .int x2), (3, .int q3), (4, .int q4)] [] qs o) (he0 : ∀ (q3 : Int32) (qs : Hp), w = .inr (q3, qs) → R G MX9_meets 110 [(3, .int q3)] [] qs o) : R G MX9_meets 26 [(0, .ref x0), (1, .int x1), (2, .int x2), (3, .int a.1), (4, .int a.2.1)] [] a.2.2 o := by
  unfold fX9_meets_l26 at h
  refine R_iload DX9_meets_26 4 rfl ?_
  refine R_aload DX9_meets_28 0 rfl ?_
  obtain ⟨v5, ev5, h⟩ := bind_some h
  refine R_gR DX9_meets_29 fl_RX9_34 ev5 ?_
  refine R_constI DX9_meets_32 ci_3 ?_
  obtain ⟨v6, ev6, h⟩ := bind_some h
  refine R_aI DX9_meets_33 ev6 ?_
  by_cases c7 : v6 ≤ a.2.1
  · replace h := if_t h c7
    refine R_icmp_ge_t DX9_meets_34 c7 ?_
    refine R.sub (L' := [(3, .int a.1)]) [3] rfl ?_
    cases h
    exact he0 _ _ rfl
  · replace h := if_f h c7
    refine R_icmp_ge_f DX9_meets_34 c7 ?_
    refine R_constI DX9_meets_37 ci_1 ?_
    refine R_istore [(5, .int (iI 1)), (0, .ref x0), (1, .int x1), (2, .int x2), (3, .int a.1), (4, .int a.2.1)] DX9_meets_38 (by decide) rfl ?_
    refine R_constI DX9_meets_40 ci_0 ?_
    refine R_istore [(6, .int (iI 0)), (5, .int (iI 1)), (0, .ref x0), (1, .int x1), (2, .int x2), (3, .int a.1), (4, .int a.2.1)] DX9_meets_41 (by decide) rfl ?_
    refine R.sub (L' := [(0, .ref x0), (1, .int x1), (2, .int x2), (3, .int a.1), (4, .int a.2.1), (5, .int (iI 1)), (6, .int (iI 0))]) [2, 3, 4, 5, 6, 1, 0] rfl ?_
    obtain ⟨r13, hi, h⟩ := bind_some h
    have hE : (fun u43 : Int32 × Hp => R G MX9_meets 88 [(0, .ref x0), (1, .int x1), (2, .int x2), (3, .int a.1), (4, .int a.2.1), (5, .int u43.1)] [] u43.2 o) r13 → ∀ (q5 : Int32) (q6 : Int32) (qs : Hp), iter (fX9_meets_l43 x0 x1 x2 a.1 a.2.1) FU (q5, q6, qs) = some r13 → R G MX9_meets 43 [(0, .ref x0), (1, .int x1), (2, .int x2), (3, .int a.1), (4, .int a.2.1), (5, .int q5), (6, .int q6)] [] qs o := fun hX q5 q6 qs hj => loop_R (fX9_meets_l43 x0 x1 x2 a.1 a.2.1) (fun p43 : Int32 × Int32 × Hp => R G MX9_meets 43 [(0, .ref x0), (1, .int x1), (2, .int x2), (3, .int a.1), (4, .int a.2.1), (5, .int p43.1), (6, .int p43.2.1)] [] p43.2.2 o) (fun u43 : Int32 × Hp => R G MX9_meets 88 [(0, .ref x0), (1, .int x1), (2, .int x2), (3, .int a.1), (4, .int a.2.1), (5, .int u43.1)] [] u43.2 o) (fun a w hw hc he => tX9_meets_l43 hw (fun q5 q6 qs e => hc (q5, q6, qs) e) (fun q5 qs e => he (q5, qs) e)) FU (q5, q6, qs) r13 hj hX
    refine hE ?_ _ _ _ hi
    clear hE hi
    exact tX9_meets_b88 h hc he0
set_option maxRecDepth 8000 in
theorem kX9_meets {G : Gm} {x0 : Nat} {x1 : Int32} {x2 : Int32} {s : Hp} {w : Int32 × Hp} (h : fX9_meets x0 x1 x2 s = some w) : (s.2.2 x0).1 = 9 ∧ Call G MX9_meets [.ref x0, .int x1, .int x2] s (some (.int w.1), w.2) := by
  unfold fX9_meets at h
  obtain ⟨_, e0, h⟩ := bind_some h
  refine ⟨ck_some e0, Call.of_R pnRX9 (Nat.le_of_ble_eq_true rfl) ?_⟩
  clear e0
  show R G MX9_meets 0 [(0, .ref x0), (1, .int x1), (2, .int x2)] [] s (some (.int w.1), w.2)
  refine R_aload DX9_meets_0 0 rfl ?_
  refine R_constI DX9_meets_1 ci_0 ?_
  obtain ⟨s1, es1, h⟩ := bind_some h
  refine R_pI DX9_meets_2 fl_RX9_92 es1 ?_
  refine R_aload DX9_meets_5 0 rfl ?_
  refine R_iload DX9_meets_6 1 rfl ?_
  refine R_iload DX9_meets_7 2 rfl ?_
  obtain ⟨r2, er2, h⟩ := bind_some h
  refine R_cV1 [.int x1, .int x2] DX9_meets_8 kzvX9_areTwo ml_RX9_401 ⟨Nat.le_of_ble_eq_true rfl, Nat.le_of_ble_eq_true rfl⟩ rfl (Nat.le_of_ble_eq_true rfl) (kX9_areTwo er2) ?_
  by_cases c3 : r2.1 = 0
  · replace h := if_t h c3
    refine R_if_ne_f DX9_meets_11 c3 ?_
    refine R_constI DX9_meets_14 ci_m2 ?_
    cases h
    exact R_ireturn rfl DX9_meets_16
  · replace h := if_f h c3
    refine R_if_ne_t DX9_meets_11 c3 ?_
    refine R_aload DX9_meets_17 0 rfl ?_
    obtain ⟨s4, es4, h⟩ := bind_some h
    refine R_cV0 [] DX9_meets_18 kzvX9_asTold ml_RX9_389 ⟨Nat.le_of_ble_eq_true rfl, Nat.le_of_ble_eq_true rfl⟩ rfl (Nat.le_of_ble_eq_true rfl) (kX9_asTold es4) ?_
    refine R_constI DX9_meets_21 ci_0 ?_
    refine R_istore [(3, .int (iI 0)), (0, .ref x0), (1, .int x1), (2, .int x2)] DX9_meets_22 (by decide) rfl ?_
    refine R_constI DX9_meets_23 ci_0 ?_
    refine R_istore [(4, .int (iI 0)), (3, .int (iI 0)), (0, .ref x0), (1, .int x1), (2, .int x2)] DX9_meets_24 (by decide) rfl ?_
    refine R.sub (L' := [(0, .ref x0), (1, .int x1), (2, .int x2), (3, .int (iI 0)), (4, .int (iI 0))]) [2, 3, 4, 1, 0] rfl ?_
    obtain ⟨r16, hi, h⟩ := bind_some h
    have hE : (fun u26 : Int32 × Hp => R G MX9_meets 110 [(3, .int u26.1)] [] u26.2 (some (.int w.1), w.2)) r16 → ∀ (q3 : Int32) (q4 : Int32) (qs : Hp), iter (fX9_meets_l26 x0 x1 x2) FU (q3, q4, qs) = some r16 → R G MX9_meets 26 [(0, .ref x0), (1, .int x1), (2, .int x2), (3, .int q3), (4, .int q4)] [] qs (some (.int w.1), w.2) := fun hX q3 q4 qs hj => loop_R (fX9_meets_l26 x0 x1 x2) (fun p26 : Int32 × Int32 × Hp => R G MX9_meets 26 [(0, .ref x0), (1, .int x1), (2, .int x2), (3, .int p26.1), (4, .int p26.2.1)] [] p26.2.2 (some (.int w.1), w.2)) (fun u26 : Int32 × Hp => R G MX9_meets 110 [(3, .int u26.1)] [] u26.2 (some (.int w.1), w.2)) (fun a w hw hc he => tX9_meets_l26 hw (fun q3 q4 qs e => hc (q3, q4, qs) e) (fun q3 qs e => he (q3, qs) e)) FU (q3, q4, qs) r16 hj hX
    refine hE ?_ _ _ _ hi
    clear hE hi
    refine R_iload DX9_meets_110 0 rfl ?_
    cases h
    exact R_ireturn rfl DX9_meets_111
set_option maxRecDepth 8000 in
theorem tX9_over_b24 {G : Gm} {s : Hp} {w : Int32 × Hp} (h : fX9_over_b24 s = some w) : R G MX9_over 24 [] [] s (some (.int w.1), w.2) := by
  unfold fX9_over_b24 at h
  refine R_constI DX9_over_24 ci_m2 ?_
  cases h
  exact R_ireturn rfl DX9_over_26
set_option maxRecDepth 8000 in
theorem tX9_over_b82 {G : Gm} {x0 : Nat} {x1 : Int32} {x2 : Int32} {x3 : Int32} {x5 : Int32} {y0 : Int32} {y1 : Int32} {s : Hp} {o : Option Value × Hp} {w : (Int32 × Int32 × Hp) ⊕ ((Int32 × Hp))} (h : fX9_over_b82 x0 x1 x2 x3 x5 y0 y1 s = some w) (hc : ∀ (q4 : Int32) (q5 : Int32) (qs : Hp), w = .inl (q4, q5, qs) → R G MX9_over 37 [(0, .ref x0), (1, .int x1), (2, .int x2), (3, .int x3), (4, .int q4), (5, .int q5)] [] qs o) (he0 : ∀ (q4 : Int32) (qs : Hp), w = .inr (q4, qs) → R G MX9_over 91 [(4, .int q4)] [] qs o) : R G MX9_over 82 [(0, .ref x0), (1, .int x1), (2, .int x2), (3, .int x3), (5, .int x5)] [.int y1, .int y0] s o := by
  unfold fX9_over_b82 at h
  refine R_ior DX9_over_82 ?_
  obtain ⟨z12, ez12, h⟩ := lt_some h
  refine R_istoreE ez12 [(4, .int z12), (0, .ref x0), (1, .int x1), (2, .int x2), (3, .int x3), (5, .int x5)] DX9_over_83 (by decide) rfl ?_
  refine R_iinc [(5, .int (x5 + iI 1)), (4, .int z12), (0, .ref x0), (1, .int x1), (2, .int x2), (3, .int x3)] DX9_over_85 5 rfl (v := x5 + iI 1) (by rfl) (by decide) rfl ?_
  refine R_goto DX9_over_88 ?_
  refine R.sub (L' := [(0, .ref x0), (1, .int x1), (2, .int x2), (3, .int x3), (4, .int z12), (5, .int (x5 + iI 1))]) [2, 3, 4, 5, 1, 0] rfl ?_
  cases h
  exact hc _ _ _ rfl
set_option maxRecDepth 8000 in
theorem tX9_over_b81 {G : Gm} {x0 : Nat} {x1 : Int32} {x2 : Int32} {x3 : Int32} {x5 : Int32} {y0 : Int32} {s : Hp} {o : Option Value × Hp} {w : (Int32 × Int32 × Hp) ⊕ ((Int32 × Hp))} (h : fX9_over_b81 x0 x1 x2 x3 x5 y0 s = some w) (hc : ∀ (q4 : Int32) (q5 : Int32) (qs : Hp), w = .inl (q4, q5, qs) → R G MX9_over 37 [(0, .ref x0), (1, .int x1), (2, .int x2), (3, .int x3), (4, .int q4), (5, .int q5)] [] qs o) (he0 : ∀ (q4 : Int32) (qs : Hp), w = .inr (q4, qs) → R G MX9_over 91 [(4, .int q4)] [] qs o) : R G MX9_over 81 [(0, .ref x0), (1, .int x1), (2, .int x2), (3, .int x3), (5, .int x5)] [.int y0] s o := by
  unfold fX9_over_b81 at h
  refine R_constI DX9_over_81 ci_0 ?_
  exact tX9_over_b82 h hc he0
set_option maxRecDepth 8000 in
theorem tX9_over_l37 {G : Gm} {x0 : Nat} {x1 : Int32} {x2 : Int32} {x3 : Int32} {o : Option Value × Hp} {a : Int32 × Int32 × Hp} {w : (Int32 × Int32 × Hp) ⊕ ((Int32 × Hp))} (h : fX9_over_l37 x0 x1 x2 x3 a = some w) (hc : ∀ (q4 : Int32) (q5 : Int32) (qs : Hp), w = .inl (q4, q5, qs) → R G MX9_over 37 [(0, .ref x0), (1, .int x1), (2, .int x2), (3, .int x3), (4, .int q4), (5, .int q5)] [] qs o) (he0 : ∀ (q4 : Int32) (qs : Hp), w = .inr (q4, qs) → R G MX9_over 91 [(4, .int q4)] [] qs o) : R G MX9_over 37 [(0, .ref x0), (1, .int x1), (2, .int x2), (3, .int x3), (4, .int a.1), (5, .int a.2.1)] [] a.2.2 o := by
  unfold fX9_over_l37 at h
  refine R_iload DX9_over_37 5 rfl ?_
  refine R_aload DX9_over_39 0 rfl ?_
  obtain ⟨v7, ev7, h⟩ := bind_some h
  refine R_gR DX9_over_40 fl_RX9_34 ev7 ?_
  refine R_constI DX9_over_43 ci_3 ?_
  obtain ⟨v8, ev8, h⟩ := bind_some h
  refine R_aI DX9_over_44 ev8 ?_
  by_cases c9 : v8 ≤ a.2.1
  · replace h := if_t h c9
    refine R_icmp_ge_t DX9_over_45 c9 ?_
    refine R.sub (L' := [(4, .int a.1)]) [4] rfl ?_
    cases h
    exact he0 _ _ rfl
  · replace h := if_f h c9
    refine R_icmp_ge_f DX9_over_45 c9 ?_
    refine R_iload DX9_over_48 4 rfl ?_
    refine R_aload DX9_over_50 0 rfl ?_
    refine R_iload DX9_over_51 1 rfl ?_
    refine R_iload DX9_over_52 5 rfl ?_
    refine R_constI DX9_over_54 ci_0 ?_
    obtain ⟨r10, er10, h⟩ := bind_some h
    refine R_cV1 [.int x1, .int a.2.1, .int (iI 0)] DX9_over_55 kzvX9_spotOf ml_RX9_394 ⟨Nat.le_of_ble_eq_true rfl, Nat.le_of_ble_eq_true rfl⟩ rfl (Nat.le_of_ble_eq_true rfl) (kX9_spotOf er10) ?_
    refine R_iload DX9_over_58 2 rfl ?_
    by_cases c11 : r10.1 = x2
    · replace h := if_t h c11
      refine R_icmp_ne_f DX9_over_59 c11 ?_
      refine R_aload DX9_over_62 0 rfl ?_
      refine R_iload DX9_over_63 1 rfl ?_
      refine R_iload DX9_over_64 5 rfl ?_
      refine R_constI DX9_over_66 ci_1 ?_
      obtain ⟨r13, er13, h⟩ := bind_some h
      refine R_cV1 [.int x1, .int a.2.1, .int (iI 1)] DX9_over_67 kzvX9_spotOf ml_RX9_394 ⟨Nat.le_of_ble_eq_true rfl, Nat.le_of_ble_eq_true rfl⟩ rfl (Nat.le_of_ble_eq_true rfl) (kX9_spotOf er13) ?_
      refine R_iload DX9_over_70 3 rfl ?_
      by_cases c14 : r13.1 = x3
      · replace h := if_t h c14
        refine R_icmp_ne_f DX9_over_71 c14 ?_
        refine R_constI DX9_over_74 ci_1 ?_
        refine R_iload DX9_over_75 5 rfl ?_
        refine R_ishl DX9_over_77 ?_
        refine R_goto DX9_over_78 ?_
        refine R.sub (L' := [(0, .ref x0), (1, .int x1), (2, .int x2), (3, .int x3), (5, .int a.2.1)]) [0, 1, 2, 3, 5] rfl ?_
        exact tX9_over_b82 h hc he0
      · replace h := if_f h c14
        refine R_icmp_ne_t DX9_over_71 c14 ?_
        refine R.sub (L' := [(0, .ref x0), (1, .int x1), (2, .int x2), (3, .int x3), (5, .int a.2.1)]) [0, 1, 2, 3, 5] rfl ?_
        exact tX9_over_b81 h hc he0
    · replace h := if_f h c11
      refine R_icmp_ne_t DX9_over_59 c11 ?_
      refine R.sub (L' := [(0, .ref x0), (1, .int x1), (2, .int x2), (3, .int x3), (5, .int a.2.1)]) [0, 1, 2, 3, 5] rfl ?_
      exact tX9_over_b81 h hc he0
set_option maxRecDepth 8000 in
theorem kX9_over {G : Gm} {x0 : Nat} {x1 : Int32} {x2 : Int32} {x3 : Int32} {s : Hp} {w : Int32 × Hp} (h : fX9_over x0 x1 x2 x3 s = some w) : (s.2.2 x0).1 = 9 ∧ Call G MX9_over [.ref x0, .int x1, .int x2, .int x3] s (some (.int w.1), w.2) := by
  unfold fX9_over at h
  obtain ⟨_, e0, h⟩ := bind_some h
  refine ⟨ck_some e0, Call.of_R pnRX9 (Nat.le_of_ble_eq_true rfl) ?_⟩
  clear e0
  show R G MX9_over 0 [(0, .ref x0), (1, .int x1), (2, .int x2), (3, .int x3)] [] s (some (.int w.1), w.2)
  refine R_aload DX9_over_0 0 rfl ?_
  refine R_constI DX9_over_1 ci_0 ?_
  obtain ⟨s1, es1, h⟩ := bind_some h
  refine R_pI DX9_over_2 fl_RX9_92 es1 ?_
  refine R_aload DX9_over_5 0 rfl ?_
  refine R_iload DX9_over_6 1 rfl ?_
  obtain ⟨r2, er2, h⟩ := bind_some h
  refine R_cV1 [.int x1] DX9_over_7 kzvX9_isShop ml_RX9_314 ⟨Nat.le_of_ble_eq_true rfl, Nat.le_of_ble_eq_true rfl⟩ rfl (Nat.le_of_ble_eq_true rfl) (kX9_isShop er2) ?_
  by_cases c3 : r2.1 = 0
  · replace h := if_t h c3
    refine R_if_eq_t DX9_over_10 c3 ?_
    refine R.sub (L' := []) [] rfl ?_
    exact tX9_over_b24 h
  · replace h := if_f h c3
    refine R_if_eq_f DX9_over_10 c3 ?_
    refine R_aload DX9_over_13 0 rfl ?_
    refine R_iload DX9_over_14 2 rfl ?_
    refine R_i2l DX9_over_15 ?_
    refine R_iload DX9_over_16 3 rfl ?_
    refine R_i2l DX9_over_17 ?_
    obtain ⟨r4, er4, h⟩ := bind_some h
    refine R_cV1 [.long (Int32.toInt64 x2), .long (Int32.toInt64 x3)] DX9_over_18 kzvX9_isColumn ml_RX9_331 ⟨Nat.le_of_ble_eq_true rfl, Nat.le_of_ble_eq_true rfl⟩ rfl (Nat.le_of_ble_eq_true rfl) (kX9_isColumn er4) ?_
    by_cases c5 : r4.1 = 0
    · replace h := if_t h c5
      refine R_if_ne_f DX9_over_21 c5 ?_
      refine R.sub (L' := []) [] rfl ?_
      exact tX9_over_b24 h
    · replace h := if_f h c5
      refine R_if_ne_t DX9_over_21 c5 ?_
      refine R_aload DX9_over_27 0 rfl ?_
      obtain ⟨s6, es6, h⟩ := bind_some h
      refine R_cV0 [] DX9_over_28 kzvX9_asTold ml_RX9_389 ⟨Nat.le_of_ble_eq_true rfl, Nat.le_of_ble_eq_true rfl⟩ rfl (Nat.le_of_ble_eq_true rfl) (kX9_asTold es6) ?_
      refine R_constI DX9_over_31 ci_0 ?_
      refine R_istore [(4, .int (iI 0)), (0, .ref x0), (1, .int x1), (2, .int x2), (3, .int x3)] DX9_over_32 (by decide) rfl ?_
      refine R_constI DX9_over_34 ci_0 ?_
      refine R_istore [(5, .int (iI 0)), (4, .int (iI 0)), (0, .ref x0), (1, .int x1), (2, .int x2), (3, .int x3)] DX9_over_35 (by decide) rfl ?_
      refine R.sub (L' := [(0, .ref x0), (1, .int x1), (2, .int x2), (3, .int x3), (4, .int (iI 0)), (5, .int (iI 0))]) [2, 3, 4, 5, 1, 0] rfl ?_
      obtain ⟨r15, hi, h⟩ := bind_some h
      have hE : (fun u37 : Int32 × Hp => R G MX9_over 91 [(4, .int u37.1)] [] u37.2 (some (.int w.1), w.2)) r15 → ∀ (q4 : Int32) (q5 : Int32) (qs : Hp), iter (fX9_over_l37 x0 x1 x2 x3) FU (q4, q5, qs) = some r15 → R G MX9_over 37 [(0, .ref x0), (1, .int x1), (2, .int x2), (3, .int x3), (4, .int q4), (5, .int q5)] [] qs (some (.int w.1), w.2) := fun hX q4 q5 qs hj => loop_R (fX9_over_l37 x0 x1 x2 x3) (fun p37 : Int32 × Int32 × Hp => R G MX9_over 37 [(0, .ref x0), (1, .int x1), (2, .int x2), (3, .int x3), (4, .int p37.1), (5, .int p37.2.1)] [] p37.2.2 (some (.int w.1), w.2)) (fun u37 : Int32 × Hp => R G MX9_over 91 [(4, .int u37.1)] [] u37.2 (some (.int w.1), w.2)) (fun a w hw hc he => tX9_over_l37 hw (fun q4 q5 qs e => hc (q4, q5, qs) e) (fun q4 qs e => he (q4, qs) e)) FU (q4, q5, qs) r15 hj hX
      refine hE ?_ _ _ _ hi
      clear hE hi
      refine R_iload DX9_over_91 0 rfl ?_
      cases h
      exact R_ireturn rfl DX9_over_93
set_option maxRecDepth 8000 in
theorem tX9_grounded_b52 {G : Gm} {x0 : Nat} {x1 : Int32} {x3 : Int32} {y0 : Int32} {y1 : Int32} {s : Hp} {o : Option Value × Hp} {w : (Int32 × Int32 × Hp) ⊕ ((Int32 × Hp))} (h : fX9_grounded_b52 x0 x1 x3 y0 y1 s = some w) (hc : ∀ (q2 : Int32) (q3 : Int32) (qs : Hp), w = .inl (q2, q3, qs) → R G MX9_grounded 24 [(0, .ref x0), (1, .int x1), (2, .int q2), (3, .int q3)] [] qs o) (he0 : ∀ (q2 : Int32) (qs : Hp), w = .inr (q2, qs) → R G MX9_grounded 60 [(2, .int q2)] [] qs o) : R G MX9_grounded 52 [(0, .ref x0), (1, .int x1), (3, .int x3)] [.int y1, .int y0] s o := by
  unfold fX9_grounded_b52 at h
  refine R_ior DX9_grounded_52 ?_
  obtain ⟨z10, ez10, h⟩ := lt_some h
  refine R_istoreE ez10 [(2, .int z10), (0, .ref x0), (1, .int x1), (3, .int x3)] DX9_grounded_53 (by decide) rfl ?_
  refine R_iinc [(3, .int (x3 + iI 1)), (2, .int z10), (0, .ref x0), (1, .int x1)] DX9_grounded_54 3 rfl (v := x3 + iI 1) (by rfl) (by decide) rfl ?_
  refine R_goto DX9_grounded_57 ?_
  refine R.sub (L' := [(0, .ref x0), (1, .int x1), (2, .int z10), (3, .int (x3 + iI 1))]) [2, 3, 1, 0] rfl ?_
  cases h
  exact hc _ _ _ rfl
set_option maxRecDepth 8000 in
theorem tX9_grounded_l24 {G : Gm} {x0 : Nat} {x1 : Int32} {o : Option Value × Hp} {a : Int32 × Int32 × Hp} {w : (Int32 × Int32 × Hp) ⊕ ((Int32 × Hp))} (h : fX9_grounded_l24 x0 x1 a = some w) (hc : ∀ (q2 : Int32) (q3 : Int32) (qs : Hp), w = .inl (q2, q3, qs) → R G MX9_grounded 24 [(0, .ref x0), (1, .int x1), (2, .int q2), (3, .int q3)] [] qs o) (he0 : ∀ (q2 : Int32) (qs : Hp), w = .inr (q2, qs) → R G MX9_grounded 60 [(2, .int q2)] [] qs o) : R G MX9_grounded 24 [(0, .ref x0), (1, .int x1), (2, .int a.1), (3, .int a.2.1)] [] a.2.2 o := by
  unfold fX9_grounded_l24 at h
  refine R_iload DX9_grounded_24 3 rfl ?_
  refine R_aload DX9_grounded_25 0 rfl ?_
  obtain ⟨v5, ev5, h⟩ := bind_some h
  refine R_gR DX9_grounded_26 fl_RX9_34 ev5 ?_
  refine R_constI DX9_grounded_29 ci_3 ?_
  obtain ⟨v6, ev6, h⟩ := bind_some h
  refine R_aI DX9_grounded_30 ev6 ?_
  by_cases c7 : v6 ≤ a.2.1
  · replace h := if_t h c7
    refine R_icmp_ge_t DX9_grounded_31 c7 ?_
    refine R.sub (L' := [(2, .int a.1)]) [2] rfl ?_
    cases h
    exact he0 _ _ rfl
  · replace h := if_f h c7
    refine R_icmp_ge_f DX9_grounded_31 c7 ?_
    refine R_iload DX9_grounded_34 2 rfl ?_
    refine R_aload DX9_grounded_35 0 rfl ?_
    refine R_iload DX9_grounded_36 1 rfl ?_
    refine R_iload DX9_grounded_37 3 rfl ?_
    refine R_constI DX9_grounded_38 ci_2 ?_
    obtain ⟨r8, er8, h⟩ := bind_some h
    refine R_cV1 [.int x1, .int a.2.1, .int (iI 2)] DX9_grounded_39 kzvX9_spotOf ml_RX9_394 ⟨Nat.le_of_ble_eq_true rfl, Nat.le_of_ble_eq_true rfl⟩ rfl (Nat.le_of_ble_eq_true rfl) (kX9_spotOf er8) ?_
    by_cases c9 : r8.1 = 0
    · replace h := if_t h c9
      refine R_if_ne_f DX9_grounded_42 c9 ?_
      refine R_constI DX9_grounded_45 ci_1 ?_
      refine R_iload DX9_grounded_46 3 rfl ?_
      refine R_ishl DX9_grounded_47 ?_
      refine R_goto DX9_grounded_48 ?_
      refine R.sub (L' := [(0, .ref x0), (1, .int x1), (3, .int a.2.1)]) [0, 1, 3] rfl ?_
      exact tX9_grounded_b52 h hc he0
    · replace h := if_f h c9
      refine R_if_ne_t DX9_grounded_42 c9 ?_
      refine R_constI DX9_grounded_51 ci_0 ?_
      refine R.sub (L' := [(0, .ref x0), (1, .int x1), (3, .int a.2.1)]) [0, 1, 3] rfl ?_
      exact tX9_grounded_b52 h hc he0
set_option maxRecDepth 8000 in
theorem kX9_grounded {G : Gm} {x0 : Nat} {x1 : Int32} {s : Hp} {w : Int32 × Hp} (h : fX9_grounded x0 x1 s = some w) : (s.2.2 x0).1 = 9 ∧ Call G MX9_grounded [.ref x0, .int x1] s (some (.int w.1), w.2) := by
  unfold fX9_grounded at h
  obtain ⟨_, e0, h⟩ := bind_some h
  refine ⟨ck_some e0, Call.of_R pnRX9 (Nat.le_of_ble_eq_true rfl) ?_⟩
  clear e0
  show R G MX9_grounded 0 [(0, .ref x0), (1, .int x1)] [] s (some (.int w.1), w.2)
  refine R_aload DX9_grounded_0 0 rfl ?_
  refine R_constI DX9_grounded_1 ci_0 ?_
  obtain ⟨s1, es1, h⟩ := bind_some h
  refine R_pI DX9_grounded_2 fl_RX9_92 es1 ?_
  refine R_aload DX9_grounded_5 0 rfl ?_
  refine R_iload DX9_grounded_6 1 rfl ?_
  obtain ⟨r2, er2, h⟩ := bind_some h
  refine R_cV1 [.int x1] DX9_grounded_7 kzvX9_isShop ml_RX9_314 ⟨Nat.le_of_ble_eq_true rfl, Nat.le_of_ble_eq_true rfl⟩ rfl (Nat.le_of_ble_eq_true rfl) (kX9_isShop er2) ?_
  by_cases c3 : r2.1 = 0
  · replace h := if_t h c3
    refine R_if_ne_f DX9_grounded_10 c3 ?_
    refine R_constI DX9_grounded_13 ci_m2 ?_
    cases h
    exact R_ireturn rfl DX9_grounded_15
  · replace h := if_f h c3
    refine R_if_ne_t DX9_grounded_10 c3 ?_
    refine R_aload DX9_grounded_16 0 rfl ?_
    obtain ⟨s4, es4, h⟩ := bind_some h
    refine R_cV0 [] DX9_grounded_17 kzvX9_asTold ml_RX9_389 ⟨Nat.le_of_ble_eq_true rfl, Nat.le_of_ble_eq_true rfl⟩ rfl (Nat.le_of_ble_eq_true rfl) (kX9_asTold es4) ?_
    refine R_constI DX9_grounded_20 ci_0 ?_
    refine R_istore [(2, .int (iI 0)), (0, .ref x0), (1, .int x1)] DX9_grounded_21 (by decide) rfl ?_
    refine R_constI DX9_grounded_22 ci_0 ?_
    refine R_istore [(3, .int (iI 0)), (2, .int (iI 0)), (0, .ref x0), (1, .int x1)] DX9_grounded_23 (by decide) rfl ?_
    refine R.sub (L' := [(0, .ref x0), (1, .int x1), (2, .int (iI 0)), (3, .int (iI 0))]) [2, 3, 1, 0] rfl ?_
    obtain ⟨r11, hi, h⟩ := bind_some h
    have hE : (fun u24 : Int32 × Hp => R G MX9_grounded 60 [(2, .int u24.1)] [] u24.2 (some (.int w.1), w.2)) r11 → ∀ (q2 : Int32) (q3 : Int32) (qs : Hp), iter (fX9_grounded_l24 x0 x1) FU (q2, q3, qs) = some r11 → R G MX9_grounded 24 [(0, .ref x0), (1, .int x1), (2, .int q2), (3, .int q3)] [] qs (some (.int w.1), w.2) := fun hX q2 q3 qs hj => loop_R (fX9_grounded_l24 x0 x1) (fun p24 : Int32 × Int32 × Hp => R G MX9_grounded 24 [(0, .ref x0), (1, .int x1), (2, .int p24.1), (3, .int p24.2.1)] [] p24.2.2 (some (.int w.1), w.2)) (fun u24 : Int32 × Hp => R G MX9_grounded 60 [(2, .int u24.1)] [] u24.2 (some (.int w.1), w.2)) (fun a w hw hc he => tX9_grounded_l24 hw (fun q2 q3 qs e => hc (q2, q3, qs) e) (fun q2 qs e => he (q2, qs) e)) FU (q2, q3, qs) r11 hj hX
    refine hE ?_ _ _ _ hi
    clear hE hi
    refine R_iload DX9_grounded_60 0 rfl ?_
    cases h
    exact R_ireturn rfl DX9_grounded_61
set_option maxRecDepth 8000 in
theorem kX9_state {G : Gm} {x0 : Nat} {s : Hp} {w : Int32 × Hp} (h : fX9_state x0 s = some w) : (s.2.2 x0).1 = 9 ∧ Call G MX9_state [.ref x0] s (some (.int w.1), w.2) := by
  unfold fX9_state at h
  obtain ⟨_, e0, h⟩ := bind_some h
  refine ⟨ck_some e0, Call.of_R pnRX9 (Nat.le_of_ble_eq_true rfl) ?_⟩
  clear e0
  show R G MX9_state 0 [(0, .ref x0)] [] s (some (.int w.1), w.2)
  refine R_aload DX9_state_0 0 rfl ?_
  obtain ⟨v1, ev1, h⟩ := bind_some h
  refine R_gI DX9_state_1 fl_RX9_405 ev1 ?_
  refine R_constI DX9_state_4 ci_8 ?_
  refine R_imul DX9_state_6 ?_
  refine R_aload DX9_state_7 0 rfl ?_
  obtain ⟨v2, ev2, h⟩ := bind_some h
  refine R_gI DX9_state_8 fl_RX9_408 ev2 ?_
  refine R_iadd DX9_state_11 ?_
  refine R_constI DX9_state_12 ci_5 ?_
  refine R_imul DX9_state_13 ?_
  refine R_aload DX9_state_14 0 rfl ?_
  obtain ⟨v3, ev3, h⟩ := bind_some h
  refine R_gI DX9_state_15 fl_RX9_411 ev3 ?_
  refine R_iadd DX9_state_18 ?_
  refine R_constI DX9_state_19 ci_10 ?_
  refine R_imul DX9_state_21 ?_
  refine R_aload DX9_state_22 0 rfl ?_
  obtain ⟨v4, ev4, h⟩ := bind_some h
  refine R_gI DX9_state_23 fl_RX9_414 ev4 ?_
  refine R_iadd DX9_state_26 ?_
  refine R_constI DX9_state_27 ci_10 ?_
  refine R_imul DX9_state_29 ?_
  refine R_aload DX9_state_30 0 rfl ?_
  obtain ⟨v5, ev5, h⟩ := bind_some h
  refine R_gI DX9_state_31 fl_RX9_417 ev5 ?_
  refine R_iadd DX9_state_34 ?_
  cases h
  exact R_ireturn rfl DX9_state_35
set_option maxRecDepth 8000 in
theorem kX9_reads_ {G : Gm} {x0 : Nat} {x1 : Int32} {s : Hp} {w : Hp} (h : fX9_reads_ x0 x1 s = some w) : (s.2.2 x0).1 = 9 ∧ Call G MX9_reads_ [.ref x0, .int x1] s (none, w) := by
  unfold fX9_reads_ at h
  obtain ⟨_, e0, h⟩ := bind_some h
  refine ⟨ck_some e0, Call.of_R pnRX9 (Nat.le_of_ble_eq_true rfl) ?_⟩
  clear e0
  show R G MX9_reads_ 0 [(0, .ref x0), (1, .int x1)] [] s (none, w)
  refine R_aload DX9_reads__0 0 rfl ?_
  refine R_iload DX9_reads__1 1 rfl ?_
  refine R_constI DX9_reads__2 ci_32 ?_
  obtain ⟨v1, ev1, h⟩ := bind_some h
  refine R_mI DX9_reads__4 ev1 ?_
  obtain ⟨s2, es2, h⟩ := bind_some h
  refine R_pI DX9_reads__5 fl_RX9_420 es2 ?_
  refine R_iload DX9_reads__8 1 rfl ?_
  refine R_constI DX9_reads__9 ci_32 ?_
  obtain ⟨v3, ev3, h⟩ := bind_some h
  refine R_dI DX9_reads__11 ev3 ?_
  refine R_istore [(2, .int v3), (0, .ref x0), (1, .int x1)] DX9_reads__12 (by decide) rfl ?_
  refine R_aload DX9_reads__13 1 rfl ?_
  refine R_iload DX9_reads__14 0 rfl ?_
  refine R_constI DX9_reads__15 ci_10 ?_
  obtain ⟨v4, ev4, h⟩ := bind_some h
  refine R_mI DX9_reads__17 ev4 ?_
  obtain ⟨s5, es5, h⟩ := bind_some h
  refine R_pI DX9_reads__18 fl_RX9_417 es5 ?_
  refine R_aload DX9_reads__21 1 rfl ?_
  refine R_iload DX9_reads__22 0 rfl ?_
  refine R_constI DX9_reads__23 ci_10 ?_
  obtain ⟨v6, ev6, h⟩ := bind_some h
  refine R_dI DX9_reads__25 ev6 ?_
  refine R_constI DX9_reads__26 ci_10 ?_
  obtain ⟨v7, ev7, h⟩ := bind_some h
  refine R_mI DX9_reads__28 ev7 ?_
  obtain ⟨s8, es8, h⟩ := bind_some h
  refine R_pI DX9_reads__29 fl_RX9_414 es8 ?_
  refine R_aload DX9_reads__32 1 rfl ?_
  refine R_iload DX9_reads__33 0 rfl ?_
  refine R_constI DX9_reads__34 ci_100 ?_
  obtain ⟨v9, ev9, h⟩ := bind_some h
  refine R_dI DX9_reads__36 ev9 ?_
  refine R_constI DX9_reads__37 ci_5 ?_
  obtain ⟨v10, ev10, h⟩ := bind_some h
  refine R_mI DX9_reads__38 ev10 ?_
  obtain ⟨s11, es11, h⟩ := bind_some h
  refine R_pI DX9_reads__39 fl_RX9_411 es11 ?_
  refine R_aload DX9_reads__42 1 rfl ?_
  refine R_iload DX9_reads__43 0 rfl ?_
  refine R_constI DX9_reads__44 ci_500 ?_
  obtain ⟨v12, ev12, h⟩ := bind_some h
  refine R_dI DX9_reads__47 ev12 ?_
  refine R_constI DX9_reads__48 ci_8 ?_
  obtain ⟨v13, ev13, h⟩ := bind_some h
  refine R_mI DX9_reads__50 ev13 ?_
  obtain ⟨s14, es14, h⟩ := bind_some h
  refine R_pI DX9_reads__51 fl_RX9_408 es14 ?_
  refine R_aload DX9_reads__54 1 rfl ?_
  refine R_iload DX9_reads__55 0 rfl ?_
  refine R_constI DX9_reads__56 ci_4000 ?_
  obtain ⟨v15, ev15, h⟩ := bind_some h
  refine R_dI DX9_reads__59 ev15 ?_
  obtain ⟨s16, es16, h⟩ := bind_some h
  refine R_pI DX9_reads__60 fl_RX9_405 es16 ?_
  cases h
  exact R_return rfl DX9_reads__63
set_option maxRecDepth 8000 in
theorem kX9_marks {G : Gm} {x0 : Nat} {s : Hp} {w : Hp} (h : fX9_marks x0 s = some w) : (s.2.2 x0).1 = 9 ∧ Call G MX9_marks [.ref x0] s (none, w) := by
  unfold fX9_marks at h
  obtain ⟨_, e0, h⟩ := bind_some h
  refine ⟨ck_some e0, Call.of_R pnRX9 (Nat.le_of_ble_eq_true rfl) ?_⟩
  clear e0
  show R G MX9_marks 0 [(0, .ref x0)] [] s (none, w)
  refine R_aload DX9_marks_0 0 rfl ?_
  refine R_aload DX9_marks_1 0 rfl ?_
  obtain ⟨v1, ev1, h⟩ := bind_some h
  refine R_gI DX9_marks_2 fl_RX9_405 ev1 ?_
  refine R_aload DX9_marks_5 0 rfl ?_
  obtain ⟨v2, ev2, h⟩ := bind_some h
  refine R_gI DX9_marks_6 fl_RX9_408 ev2 ?_
  obtain ⟨r3, er3, h⟩ := bind_some h
  refine R_cV1 [.int v1, .int v2] DX9_marks_9 kzvX9_doorAt ml_RX9_371 ⟨Nat.le_of_ble_eq_true rfl, Nat.le_of_ble_eq_true rfl⟩ rfl (Nat.le_of_ble_eq_true rfl) (kX9_doorAt er3) ?_
  refine R_istore [(1, .int r3.1), (0, .ref x0)] DX9_marks_12 (by decide) rfl ?_
  refine R_iload DX9_marks_13 0 rfl ?_
  refine R_constI DX9_marks_14 ci_m1 ?_
  by_cases c4 : r3.1 = (iI (-1))
  · replace h := if_t h c4
    refine R_icmp_eq_t DX9_marks_15 c4 ?_
    cases h
    exact R_return rfl DX9_marks_54
  · replace h := if_f h c4
    refine R_icmp_eq_f DX9_marks_15 c4 ?_
    refine R_aload DX9_marks_18 1 rfl ?_
    obtain ⟨v5, ev5, h⟩ := bind_some h
    refine R_gI DX9_marks_19 fl_RX9_423 ev5 ?_
    refine R_iload DX9_marks_22 0 rfl ?_
    obtain ⟨r6, er6, h⟩ := bind_some h
    refine R_cS1 [.int v5, .int r3.1] DX9_marks_23 kzsX9_isBit ml_RX9_426 ⟨Nat.le_of_ble_eq_true rfl, Nat.le_of_ble_eq_true rfl⟩ rfl (Nat.le_of_ble_eq_true rfl) (kX9_isBit er6) ?_
    by_cases c7 : r6.1 = 0
    · replace h := if_t h c7
      refine R_if_eq_t DX9_marks_26 c7 ?_
      cases h
      exact R_return rfl DX9_marks_54
    · replace h := if_f h c7
      refine R_if_eq_f DX9_marks_26 c7 ?_
      refine R_aload DX9_marks_29 1 rfl ?_
      obtain ⟨v8, ev8, h⟩ := bind_some h
      refine R_gI DX9_marks_30 fl_RX9_411 ev8 ?_
      refine R_aload DX9_marks_33 1 rfl ?_
      obtain ⟨v9, ev9, h⟩ := bind_some h
      refine R_gR DX9_marks_34 fl_RX9_34 ev9 ?_
      refine R_constI DX9_marks_37 ci_5 ?_
      obtain ⟨v10, ev10, h⟩ := bind_some h
      refine R_aI DX9_marks_38 ev10 ?_
      by_cases c11 : v10 < v8
      · replace h := if_t h c11
        refine R_icmp_gt_t DX9_marks_39 c11 ?_
        cases h
        exact R_return rfl DX9_marks_54
      · replace h := if_f h c11
        refine R_icmp_gt_f DX9_marks_39 c11 ?_
        refine R_aload DX9_marks_42 1 rfl ?_
        refine R_dup DX9_marks_43 rfl ?_
        obtain ⟨v12, ev12, h⟩ := bind_some h
        refine R_gI DX9_marks_44 fl_RX9_420 ev12 ?_
        refine R_constI DX9_marks_47 ci_1 ?_
        refine R_iload DX9_marks_48 0 rfl ?_
        refine R_ishl DX9_marks_49 ?_
        refine R_ior DX9_marks_50 ?_
        obtain ⟨s13, es13, h⟩ := bind_some h
        refine R_pI DX9_marks_51 fl_RX9_420 es13 ?_
        cases h
        exact R_return rfl DX9_marks_54
set_option maxRecDepth 8000 in
theorem kX9_puts {G : Gm} {x0 : Nat} {x1 : Nat} {s : Hp} {w : Hp} (h : fX9_puts x0 x1 s = some w) : (s.2.2 x0).1 = 9 ∧ Call G MX9_puts [.ref x0, .ref x1] s (none, w) := by
  unfold fX9_puts at h
  obtain ⟨_, e0, h⟩ := bind_some h
  refine ⟨ck_some e0, Call.of_R pnRX9 (Nat.le_of_ble_eq_true rfl) ?_⟩
  clear e0
  show R G MX9_puts 0 [(0, .ref x0), (1, .ref x1)] [] s (none, w)
  refine R_constI DX9_puts_0 ci_32 ?_
  refine R_aload DX9_puts_2 0 rfl ?_
  obtain ⟨r1, er1, h⟩ := bind_some h
  refine R_cV1 [] DX9_puts_3 kzvX9_state ml_RX9_429 ⟨Nat.le_of_ble_eq_true rfl, Nat.le_of_ble_eq_true rfl⟩ rfl (Nat.le_of_ble_eq_true rfl) (kX9_state er1) ?_
  refine R_imul DX9_puts_6 ?_
  refine R_aload DX9_puts_7 0 rfl ?_
  obtain ⟨v2, ev2, h⟩ := bind_some h
  refine R_gI DX9_puts_8 fl_RX9_420 ev2 ?_
  refine R_iadd DX9_puts_11 ?_
  obtain ⟨z3, ez3, h⟩ := lt_some h
  refine R_istoreE ez3 [(2, .int z3), (0, .ref x0), (1, .ref x1)] DX9_puts_12 (by decide) rfl ?_
  refine R_aload DX9_puts_13 2 rfl ?_
  refine R_iload DX9_puts_14 0 rfl ?_
  refine R_constI DX9_puts_15 ci_64 ?_
  obtain ⟨v4, ev4, h⟩ := bind_some h
  refine R_dI DX9_puts_17 ev4 ?_
  refine R_dup2 DX9_puts_18 rfl rfl ?_
  obtain ⟨v5, ev5, h⟩ := bind_some h
  refine R_aL DX9_puts_19 ev5 ?_
  refine R_lconst DX9_puts_20 ?_
  refine R_iload DX9_puts_21 0 rfl ?_
  refine R_constI DX9_puts_22 ci_64 ?_
  obtain ⟨v6, ev6, h⟩ := bind_some h
  refine R_mI DX9_puts_24 ev6 ?_
  refine R_lshl DX9_puts_25 ?_
  refine R_lor DX9_puts_26 ?_
  obtain ⟨s7, es7, h⟩ := bind_some h
  refine R_sL DX9_puts_27 es7 ?_
  cases h
  exact R_return rfl DX9_puts_28
set_option maxRecDepth 8000 in
theorem kX9_isOn {G : Gm} {x0 : Nat} {x1 : Int32} {s : Hp} {w : Int32 × Hp} (h : fX9_isOn x0 x1 s = some w) : Call G MX9_isOn [.ref x0, .int x1] s (some (.int w.1), w.2) := by
  unfold fX9_isOn at h
  refine Call.of_R pnRX9 (Nat.le_of_ble_eq_true rfl) ?_
  show R G MX9_isOn 0 [(0, .ref x0), (1, .int x1)] [] s (some (.int w.1), w.2)
  refine R_aload DX9_isOn_0 0 rfl ?_
  refine R_iload DX9_isOn_1 1 rfl ?_
  refine R_constI DX9_isOn_2 ci_64 ?_
  obtain ⟨v1, ev1, h⟩ := bind_some h
  refine R_dI DX9_isOn_4 ev1 ?_
  obtain ⟨v2, ev2, h⟩ := bind_some h
  refine R_aL DX9_isOn_5 ev2 ?_
  refine R_iload DX9_isOn_6 1 rfl ?_
  refine R_constI DX9_isOn_7 ci_64 ?_
  obtain ⟨v3, ev3, h⟩ := bind_some h
  refine R_mI DX9_isOn_9 ev3 ?_
  refine R_lshr DX9_isOn_10 ?_
  refine R_lconst DX9_isOn_11 ?_
  refine R_land DX9_isOn_12 ?_
  refine R_lconst DX9_isOn_13 ?_
  refine R_lcmp DX9_isOn_14 ?_
  by_cases c4 : (lg_cmp ((lsr v2 v3) &&& 1) 1) = 0
  · replace h := if_t h c4
    refine R_if_ne_f DX9_isOn_15 c4 ?_
    refine R_constI DX9_isOn_18 ci_1 ?_
    refine R_goto DX9_isOn_19 ?_
    cases h
    exact R_zreturn rfl DX9_isOn_23 (by decide)
  · replace h := if_f h c4
    refine R_if_ne_t DX9_isOn_15 c4 ?_
    refine R_constI DX9_isOn_22 ci_0 ?_
    cases h
    exact R_zreturn rfl DX9_isOn_23 (by decide)
set_option maxRecDepth 8000 in
theorem tX9_empties_l2 {G : Gm} {x0 : Nat} {o : Option Value × Hp} {a : Int32 × Hp} {w : (Int32 × Hp) ⊕ ((Hp))} (h : fX9_empties_l2 x0 a = some w) (hc : ∀ (q1 : Int32) (qs : Hp), w = .inl (q1, qs) → R G MX9_empties 2 [(0, .ref x0), (1, .int q1)] [] qs o) (he0 : ∀ (qs : Hp), w = .inr qs → R G MX9_empties 19 [] [] qs o) : R G MX9_empties 2 [(0, .ref x0), (1, .int a.1)] [] a.2 o := by
  unfold fX9_empties_l2 at h
  refine R_iload DX9_empties_2 1 rfl ?_
  refine R_constI DX9_empties_3 ci_16000 ?_
  by_cases c1 : (iI 16000) ≤ a.1
  · replace h := if_t h c1
    refine R_icmp_ge_t DX9_empties_6 c1 ?_
    refine R.sub (L' := []) [] rfl ?_
    cases h
    exact he0 _ rfl
  · replace h := if_f h c1
    refine R_icmp_ge_f DX9_empties_6 c1 ?_
    refine R_aload DX9_empties_9 0 rfl ?_
    refine R_iload DX9_empties_10 1 rfl ?_
    refine R_lconst DX9_empties_11 ?_
    obtain ⟨s2, es2, h⟩ := bind_some h
    refine R_sL DX9_empties_12 es2 ?_
    refine R_iinc [(1, .int (a.1 + iI 1)), (0, .ref x0)] DX9_empties_13 1 rfl (v := a.1 + iI 1) (by rfl) (by decide) rfl ?_
    refine R_goto DX9_empties_16 ?_
    refine R.sub (L' := [(0, .ref x0), (1, .int (a.1 + iI 1))]) [1, 0] rfl ?_
    cases h
    exact hc _ _ rfl
set_option maxRecDepth 8000 in
theorem kX9_empties {G : Gm} {x0 : Nat} {s : Hp} {w : Hp} (h : fX9_empties x0 s = some w) : Call G MX9_empties [.ref x0] s (none, w) := by
  unfold fX9_empties at h
  refine Call.of_R pnRX9 (Nat.le_of_ble_eq_true rfl) ?_
  show R G MX9_empties 0 [(0, .ref x0)] [] s (none, w)
  refine R_constI DX9_empties_0 ci_0 ?_
  refine R_istore [(1, .int (iI 0)), (0, .ref x0)] DX9_empties_1 (by decide) rfl ?_
  refine R.sub (L' := [(0, .ref x0), (1, .int (iI 0))]) [1, 0] rfl ?_
  obtain ⟨r3, hi, h⟩ := bind_some h
  have hE : (fun u2 : Hp => R G MX9_empties 19 [] [] u2 (none, w)) r3 → ∀ (q1 : Int32) (qs : Hp), iter (fX9_empties_l2 x0) FU (q1, qs) = some r3 → R G MX9_empties 2 [(0, .ref x0), (1, .int q1)] [] qs (none, w) := fun hX q1 qs hj => loop_R (fX9_empties_l2 x0) (fun p2 : Int32 × Hp => R G MX9_empties 2 [(0, .ref x0), (1, .int p2.1)] [] p2.2 (none, w)) (fun u2 : Hp => R G MX9_empties 19 [] [] u2 (none, w)) (fun a w hw hc he => tX9_empties_l2 hw (fun q1 qs e => hc (q1, qs) e) (fun qs e => he qs e)) FU (q1, qs) r3 hj hX
  refine hE ?_ _ _ hi
  clear hE hi
  cases h
  exact R_return rfl DX9_empties_19
set_option maxRecDepth 8000 in
theorem tX9_starts_b85 {G : Gm} {x0 : Nat} {x1 : Int32} {x3 : Int32} {y0 : Nat} {y1 : Int32} {s : Hp} {w : Hp} (h : fX9_starts_b85 x0 x1 x3 y0 y1 s = some w) : R G MX9_starts 85 [(0, .ref x0), (1, .int x1), (3, .int x3)] [.int y1, .ref y0] s (none, w) := by
  unfold fX9_starts_b85 at h
  obtain ⟨s16, es16, h⟩ := bind_some h
  refine R_pI DX9_starts_85 fl_RX9_414 es16 ?_
  refine R_aload DX9_starts_88 0 rfl ?_
  refine R_aload DX9_starts_89 0 rfl ?_
  obtain ⟨v17, ev17, h⟩ := bind_some h
  refine R_gR DX9_starts_90 fl_RX9_43 ev17 ?_
  refine R_constI DX9_starts_93 ci_6 ?_
  refine R_iload DX9_starts_95 1 rfl ?_
  refine R_imul DX9_starts_96 ?_
  refine R_constI DX9_starts_97 ci_4 ?_
  refine R_iadd DX9_starts_98 ?_
  obtain ⟨v18, ev18, h⟩ := bind_some h
  refine R_aI DX9_starts_99 ev18 ?_
  obtain ⟨s19, es19, h⟩ := bind_some h
  refine R_pI DX9_starts_100 fl_RX9_417 es19 ?_
  refine R_aload DX9_starts_103 0 rfl ?_
  refine R_constI DX9_starts_104 ci_0 ?_
  obtain ⟨s20, es20, h⟩ := bind_some h
  refine R_pI DX9_starts_105 fl_RX9_420 es20 ?_
  refine R_aload DX9_starts_108 0 rfl ?_
  refine R_iload DX9_starts_109 2 rfl ?_
  obtain ⟨s21, es21, h⟩ := bind_some h
  refine R_pI DX9_starts_110 fl_RX9_423 es21 ?_
  refine R_aload DX9_starts_113 0 rfl ?_
  obtain ⟨s22, es22, h⟩ := bind_some h
  refine R_cV0 [] DX9_starts_114 kzvX9_marks ml_RX9_436 ⟨Nat.le_of_ble_eq_true rfl, Nat.le_of_ble_eq_true rfl⟩ rfl (Nat.le_of_ble_eq_true rfl) (kX9_marks es22) ?_
  refine R_aload DX9_starts_117 0 rfl ?_
  refine R_aload DX9_starts_118 0 rfl ?_
  obtain ⟨v23, ev23, h⟩ := bind_some h
  refine R_gR DX9_starts_119 fl_RX9_77 ev23 ?_
  obtain ⟨s24, es24, h⟩ := bind_some h
  refine R_cV0 [.ref v23] DX9_starts_122 kzvX9_puts ml_RX9_439 ⟨Nat.le_of_ble_eq_true rfl, Nat.le_of_ble_eq_true rfl⟩ rfl (Nat.le_of_ble_eq_true rfl) (kX9_puts es24) ?_
  cases h
  exact R_return rfl DX9_starts_125
set_option maxRecDepth 8000 in
theorem kX9_starts {G : Gm} {x0 : Nat} {x1 : Int32} {x2 : Int32} {x3 : Int32} {s : Hp} {w : Hp} (h : fX9_starts x0 x1 x2 x3 s = some w) : (s.2.2 x0).1 = 9 ∧ Call G MX9_starts [.ref x0, .int x1, .int x2, .int x3] s (none, w) := by
  unfold fX9_starts at h
  obtain ⟨_, e0, h⟩ := bind_some h
  refine ⟨ck_some e0, Call.of_R pnRX9 (Nat.le_of_ble_eq_true rfl) ?_⟩
  clear e0
  show R G MX9_starts 0 [(0, .ref x0), (1, .int x1), (2, .int x2), (3, .int x3)] [] s (none, w)
  refine R_aload DX9_starts_0 0 rfl ?_
  obtain ⟨s1, es1, h⟩ := bind_some h
  refine R_cV0 [] DX9_starts_1 kzvX9_plainly ml_RX9_380 ⟨Nat.le_of_ble_eq_true rfl, Nat.le_of_ble_eq_true rfl⟩ rfl (Nat.le_of_ble_eq_true rfl) (kX9_plainly es1) ?_
  refine R_aload DX9_starts_4 0 rfl ?_
  obtain ⟨v2, ev2, h⟩ := bind_some h
  refine R_gR DX9_starts_5 fl_RX9_77 ev2 ?_
  obtain ⟨s3, es3, h⟩ := bind_some h
  refine R_cS0 [.ref v2] DX9_starts_8 kzsX9_empties ml_RX9_432 ⟨Nat.le_of_ble_eq_true rfl, Nat.le_of_ble_eq_true rfl⟩ rfl (Nat.le_of_ble_eq_true rfl) (kX9_empties es3) ?_
  refine R_aload DX9_starts_11 0 rfl ?_
  refine R_aload DX9_starts_12 0 rfl ?_
  obtain ⟨v4, ev4, h⟩ := bind_some h
  refine R_gR DX9_starts_13 fl_RX9_43 ev4 ?_
  refine R_constI DX9_starts_16 ci_6 ?_
  refine R_iload DX9_starts_18 1 rfl ?_
  refine R_imul DX9_starts_19 ?_
  obtain ⟨v5, ev5, h⟩ := bind_some h
  refine R_aI DX9_starts_20 ev5 ?_
  obtain ⟨s6, es6, h⟩ := bind_some h
  refine R_pI DX9_starts_21 fl_RX9_405 es6 ?_
  refine R_aload DX9_starts_24 0 rfl ?_
  refine R_aload DX9_starts_25 0 rfl ?_
  obtain ⟨v7, ev7, h⟩ := bind_some h
  refine R_gR DX9_starts_26 fl_RX9_43 ev7 ?_
  refine R_constI DX9_starts_29 ci_6 ?_
  refine R_iload DX9_starts_31 1 rfl ?_
  refine R_imul DX9_starts_32 ?_
  refine R_constI DX9_starts_33 ci_1 ?_
  refine R_iadd DX9_starts_34 ?_
  obtain ⟨v8, ev8, h⟩ := bind_some h
  refine R_aI DX9_starts_35 ev8 ?_
  obtain ⟨s9, es9, h⟩ := bind_some h
  refine R_pI DX9_starts_36 fl_RX9_408 es9 ?_
  refine R_aload DX9_starts_39 0 rfl ?_
  refine R_aload DX9_starts_40 0 rfl ?_
  obtain ⟨v10, ev10, h⟩ := bind_some h
  refine R_gR DX9_starts_41 fl_RX9_43 ev10 ?_
  refine R_constI DX9_starts_44 ci_6 ?_
  refine R_iload DX9_starts_46 1 rfl ?_
  refine R_imul DX9_starts_47 ?_
  refine R_constI DX9_starts_48 ci_2 ?_
  refine R_iadd DX9_starts_49 ?_
  obtain ⟨v11, ev11, h⟩ := bind_some h
  refine R_aI DX9_starts_50 ev11 ?_
  obtain ⟨s12, es12, h⟩ := bind_some h
  refine R_pI DX9_starts_51 fl_RX9_411 es12 ?_
  refine R_aload DX9_starts_54 0 rfl ?_
  refine R_aload DX9_starts_55 0 rfl ?_
  obtain ⟨v13, ev13, h⟩ := bind_some h
  refine R_gR DX9_starts_56 fl_RX9_43 ev13 ?_
  refine R_constI DX9_starts_59 ci_6 ?_
  refine R_iload DX9_starts_61 1 rfl ?_
  refine R_imul DX9_starts_62 ?_
  refine R_constI DX9_starts_63 ci_3 ?_
  refine R_iadd DX9_starts_64 ?_
  obtain ⟨v14, ev14, h⟩ := bind_some h
  refine R_aI DX9_starts_65 ev14 ?_
  refine R_iload DX9_starts_66 2 rfl ?_
  by_cases c15 : x2 ≤ v14
  · replace h := if_t h c15
    refine R_icmp_ge_t DX9_starts_67 c15 ?_
    refine R_iload DX9_starts_84 2 rfl ?_
    refine R.sub (L' := [(0, .ref x0), (1, .int x1), (3, .int x3)]) [0, 1, 3] rfl ?_
    exact tX9_starts_b85 h
  · replace h := if_f h c15
    refine R_icmp_ge_f DX9_starts_67 c15 ?_
    refine R_aload DX9_starts_70 0 rfl ?_
    obtain ⟨v25, ev25, h⟩ := bind_some h
    refine R_gR DX9_starts_71 fl_RX9_43 ev25 ?_
    refine R_constI DX9_starts_74 ci_6 ?_
    refine R_iload DX9_starts_76 1 rfl ?_
    refine R_imul DX9_starts_77 ?_
    refine R_constI DX9_starts_78 ci_3 ?_
    refine R_iadd DX9_starts_79 ?_
    obtain ⟨v26, ev26, h⟩ := bind_some h
    refine R_aI DX9_starts_80 ev26 ?_
    refine R_goto DX9_starts_81 ?_
    refine R.sub (L' := [(0, .ref x0), (1, .int x1), (3, .int x3)]) [0, 1, 3] rfl ?_
    exact tX9_starts_b85 h
set_option maxRecDepth 8000 in
theorem tX9_acts_b159 {G : Gm} {s : Hp} {w : Int32 × Hp} (h : fX9_acts_b159 s = some w) : R G MX9_acts 159 [] [] s (some (.int w.1), w.2) := by
  unfold fX9_acts_b159 at h
  refine R_constI DX9_acts_159 ci_1 ?_
  cases h
  exact R_zreturn rfl DX9_acts_160 (by decide)
set_option maxRecDepth 8000 in
theorem tX9_acts_b84 {G : Gm} {x0 : Nat} {x2 : Int32} {y0 : Nat} {y1 : Int32} {y2 : Int32} {s : Hp} {w : Int32 × Hp} (h : fX9_acts_b84 x0 x2 y0 y1 y2 s = some w) : R G MX9_acts 84 [(0, .ref x0), (2, .int x2)] [.int y2, .int y1, .ref y0] s (some (.int w.1), w.2) := by
  unfold fX9_acts_b84 at h
  refine R_isub DX9_acts_84 ?_
  obtain ⟨s15, es15, h⟩ := bind_some h
  refine R_pI DX9_acts_85 fl_RX9_417 es15 ?_
  refine R_aload DX9_acts_88 0 rfl ?_
  refine R_aload DX9_acts_89 0 rfl ?_
  obtain ⟨v16, ev16, h⟩ := bind_some h
  refine R_gI DX9_acts_90 fl_RX9_405 ev16 ?_
  obtain ⟨s17, es17, h⟩ := bind_some h
  refine R_pI DX9_acts_93 fl_RX9_325 es17 ?_
  refine R_aload DX9_acts_96 0 rfl ?_
  refine R_aload DX9_acts_97 0 rfl ?_
  obtain ⟨v18, ev18, h⟩ := bind_some h
  refine R_gI DX9_acts_98 fl_RX9_408 ev18 ?_
  obtain ⟨s19, es19, h⟩ := bind_some h
  refine R_pI DX9_acts_101 fl_RX9_328 es19 ?_
  refine R_aload DX9_acts_104 0 rfl ?_
  refine R_aload DX9_acts_105 0 rfl ?_
  refine R_aload DX9_acts_106 0 rfl ?_
  obtain ⟨v20, ev20, h⟩ := bind_some h
  refine R_gI DX9_acts_107 fl_RX9_411 ev20 ?_
  refine R_iload DX9_acts_110 1 rfl ?_
  obtain ⟨r21, er21, h⟩ := bind_some h
  refine R_cV1 [.int v20, .int x2] DX9_acts_111 kzvX9_windOf ml_RX9_308 ⟨Nat.le_of_ble_eq_true rfl, Nat.le_of_ble_eq_true rfl⟩ rfl (Nat.le_of_ble_eq_true rfl) (kX9_windOf er21) ?_
  obtain ⟨r22, er22, h⟩ := bind_some h
  refine R_cV1 [.int r21.1] DX9_acts_114 kzvX9_carries ml_RX9_361 ⟨Nat.le_of_ble_eq_true rfl, Nat.le_of_ble_eq_true rfl⟩ rfl (Nat.le_of_ble_eq_true rfl) (kX9_carries er22) ?_
  refine R_pop DX9_acts_117 rfl ?_
  refine R_aload DX9_acts_118 0 rfl ?_
  refine R_aload DX9_acts_119 0 rfl ?_
  obtain ⟨v23, ev23, h⟩ := bind_some h
  refine R_gI DX9_acts_120 fl_RX9_325 ev23 ?_
  obtain ⟨s24, es24, h⟩ := bind_some h
  refine R_pI DX9_acts_123 fl_RX9_405 es24 ?_
  refine R_aload DX9_acts_126 0 rfl ?_
  refine R_aload DX9_acts_127 0 rfl ?_
  obtain ⟨v25, ev25, h⟩ := bind_some h
  refine R_gI DX9_acts_128 fl_RX9_328 ev25 ?_
  obtain ⟨s26, es26, h⟩ := bind_some h
  refine R_pI DX9_acts_131 fl_RX9_408 es26 ?_
  refine R_aload DX9_acts_134 0 rfl ?_
  refine R_iload DX9_acts_135 1 rfl ?_
  obtain ⟨r27, er27, h⟩ := bind_some h
  refine R_cV1 [.int x2] DX9_acts_136 kzvX9_isCool ml_RX9_364 ⟨Nat.le_of_ble_eq_true rfl, Nat.le_of_ble_eq_true rfl⟩ rfl (Nat.le_of_ble_eq_true rfl) (kX9_isCool er27) ?_
  by_cases c28 : r27.1 = 0
  · replace h := if_t h c28
    refine R_if_eq_t DX9_acts_139 c28 ?_
    refine R.sub (L' := []) [] rfl ?_
    exact tX9_acts_b159 h
  · replace h := if_f h c28
    refine R_if_eq_f DX9_acts_139 c28 ?_
    refine R_aload DX9_acts_142 0 rfl ?_
    obtain ⟨v29, ev29, h⟩ := bind_some h
    refine R_gI DX9_acts_143 fl_RX9_411 ev29 ?_
    by_cases c30 : v29 ≤ 0
    · replace h := if_t h c30
      refine R_if_le_t DX9_acts_146 c30 ?_
      refine R.sub (L' := []) [] rfl ?_
      exact tX9_acts_b159 h
    · replace h := if_f h c30
      refine R_if_le_f DX9_acts_146 c30 ?_
      refine R_aload DX9_acts_149 0 rfl ?_
      refine R_dup DX9_acts_150 rfl ?_
      obtain ⟨v31, ev31, h⟩ := bind_some h
      refine R_gI DX9_acts_151 fl_RX9_411 ev31 ?_
      refine R_constI DX9_acts_154 ci_1 ?_
      refine R_isub DX9_acts_155 ?_
      obtain ⟨s32, es32, h⟩ := bind_some h
      refine R_pI DX9_acts_156 fl_RX9_411 es32 ?_
      refine R.sub (L' := []) [] rfl ?_
      exact tX9_acts_b159 h
set_option maxRecDepth 8000 in
theorem tX9_acts_b65 {G : Gm} {x0 : Nat} {x1 : Int32} {x2 : Int32} {y0 : Nat} {y1 : Int32} {y2 : Int32} {s : Hp} {w : Int32 × Hp} (h : fX9_acts_b65 x0 x1 x2 y0 y1 y2 s = some w) : R G MX9_acts 65 [(0, .ref x0), (1, .int x1), (2, .int x2)] [.int y2, .int y1, .ref y0] s (some (.int w.1), w.2) := by
  unfold fX9_acts_b65 at h
  refine R_isub DX9_acts_65 ?_
  obtain ⟨s12, es12, h⟩ := bind_some h
  refine R_pI DX9_acts_66 fl_RX9_414 es12 ?_
  refine R_aload DX9_acts_69 0 rfl ?_
  refine R_dup DX9_acts_70 rfl ?_
  obtain ⟨v13, ev13, h⟩ := bind_some h
  refine R_gI DX9_acts_71 fl_RX9_417 ev13 ?_
  refine R_iload DX9_acts_74 1 rfl ?_
  refine R_constI DX9_acts_75 ci_2 ?_
  by_cases c14 : x1 = (iI 2)
  · replace h := if_t h c14
    refine R_icmp_ne_f DX9_acts_76 c14 ?_
    refine R_constI DX9_acts_79 ci_1 ?_
    refine R_goto DX9_acts_80 ?_
    refine R.sub (L' := [(0, .ref x0), (2, .int x2)]) [0, 2] rfl ?_
    exact tX9_acts_b84 h
  · replace h := if_f h c14
    refine R_icmp_ne_t DX9_acts_76 c14 ?_
    refine R_constI DX9_acts_83 ci_0 ?_
    refine R.sub (L' := [(0, .ref x0), (2, .int x2)]) [0, 2] rfl ?_
    exact tX9_acts_b84 h
set_option maxRecDepth 8000 in
theorem tX9_acts_b46 {G : Gm} {x0 : Nat} {x1 : Int32} {x2 : Int32} {y0 : Nat} {y1 : Int32} {y2 : Int32} {s : Hp} {w : Int32 × Hp} (h : fX9_acts_b46 x0 x1 x2 y0 y1 y2 s = some w) : R G MX9_acts 46 [(0, .ref x0), (1, .int x1), (2, .int x2)] [.int y2, .int y1, .ref y0] s (some (.int w.1), w.2) := by
  unfold fX9_acts_b46 at h
  refine R_iadd DX9_acts_46 ?_
  obtain ⟨s9, es9, h⟩ := bind_some h
  refine R_pI DX9_acts_47 fl_RX9_411 es9 ?_
  refine R_aload DX9_acts_50 0 rfl ?_
  refine R_dup DX9_acts_51 rfl ?_
  obtain ⟨v10, ev10, h⟩ := bind_some h
  refine R_gI DX9_acts_52 fl_RX9_414 ev10 ?_
  refine R_iload DX9_acts_55 1 rfl ?_
  refine R_constI DX9_acts_56 ci_1 ?_
  by_cases c11 : x1 = (iI 1)
  · replace h := if_t h c11
    refine R_icmp_ne_f DX9_acts_57 c11 ?_
    refine R_constI DX9_acts_60 ci_1 ?_
    refine R_goto DX9_acts_61 ?_
    exact tX9_acts_b65 h
  · replace h := if_f h c11
    refine R_icmp_ne_t DX9_acts_57 c11 ?_
    refine R_constI DX9_acts_64 ci_0 ?_
    exact tX9_acts_b65 h
set_option maxRecDepth 8000 in
theorem kX9_acts {G : Gm} {x0 : Nat} {x1 : Int32} {x2 : Int32} {s : Hp} {w : Int32 × Hp} (h : fX9_acts x0 x1 x2 s = some w) : (s.2.2 x0).1 = 9 ∧ Call G MX9_acts [.ref x0, .int x1, .int x2] s (some (.int w.1), w.2) := by
  unfold fX9_acts at h
  obtain ⟨_, e0, h⟩ := bind_some h
  refine ⟨ck_some e0, Call.of_R pnRX9 (Nat.le_of_ble_eq_true rfl) ?_⟩
  clear e0
  show R G MX9_acts 0 [(0, .ref x0), (1, .int x1), (2, .int x2)] [] s (some (.int w.1), w.2)
  refine R_aload DX9_acts_0 0 rfl ?_
  refine R_iload DX9_acts_1 1 rfl ?_
  refine R_aload DX9_acts_2 0 rfl ?_
  obtain ⟨v1, ev1, h⟩ := bind_some h
  refine R_gI DX9_acts_3 fl_RX9_411 ev1 ?_
  refine R_aload DX9_acts_6 0 rfl ?_
  obtain ⟨v2, ev2, h⟩ := bind_some h
  refine R_gI DX9_acts_7 fl_RX9_414 ev2 ?_
  refine R_aload DX9_acts_10 0 rfl ?_
  obtain ⟨v3, ev3, h⟩ := bind_some h
  refine R_gI DX9_acts_11 fl_RX9_417 ev3 ?_
  obtain ⟨r4, er4, h⟩ := bind_some h
  refine R_cV1 [.int x1, .int v1, .int v2, .int v3] DX9_acts_14 kzvX9_vainOf ml_RX9_357 ⟨Nat.le_of_ble_eq_true rfl, Nat.le_of_ble_eq_true rfl⟩ rfl (Nat.le_of_ble_eq_true rfl) (kX9_vainOf er4) ?_
  by_cases c5 : r4.1 = 0
  · replace h := if_t h c5
    refine R_if_eq_t DX9_acts_17 c5 ?_
    refine R_aload DX9_acts_22 0 rfl ?_
    refine R_dup DX9_acts_23 rfl ?_
    obtain ⟨v6, ev6, h⟩ := bind_some h
    refine R_gI DX9_acts_24 fl_RX9_411 ev6 ?_
    refine R_iload DX9_acts_27 1 rfl ?_
    refine R_constI DX9_acts_28 ci_1 ?_
    by_cases c7 : x1 = (iI 1)
    · replace h := if_t h c7
      refine R_icmp_ne_f DX9_acts_29 c7 ?_
      refine R_constI DX9_acts_32 ci_1 ?_
      refine R_goto DX9_acts_33 ?_
      exact tX9_acts_b46 h
    · replace h := if_f h c7
      refine R_icmp_ne_t DX9_acts_29 c7 ?_
      refine R_iload DX9_acts_36 1 rfl ?_
      refine R_constI DX9_acts_37 ci_2 ?_
      by_cases c8 : x1 = (iI 2)
      · replace h := if_t h c8
        refine R_icmp_ne_f DX9_acts_38 c8 ?_
        refine R_constI DX9_acts_41 ci_m1 ?_
        refine R_goto DX9_acts_42 ?_
        exact tX9_acts_b46 h
      · replace h := if_f h c8
        refine R_icmp_ne_t DX9_acts_38 c8 ?_
        refine R_constI DX9_acts_45 ci_0 ?_
        exact tX9_acts_b46 h
  · replace h := if_f h c5
    refine R_if_eq_f DX9_acts_17 c5 ?_
    refine R_constI DX9_acts_20 ci_0 ?_
    cases h
    exact R_zreturn rfl DX9_acts_21 (by decide)
set_option maxRecDepth 8000 in
theorem tX9_lowest_b39 {G : Gm} {x2 : Int32} {x3 : Int64} {x5 : Int32} {s : Hp} {o : Option Value × Hp} {w : (Int32 × Int64 × Int32 × Hp) ⊕ ((Int32 × Hp))} (h : fX9_lowest_b39 x2 x3 x5 s = some w) (hc : ∀ (q2 : Int32) (q3 : Int64) (q5 : Int32) (qs : Hp), w = .inl (q2, q3, q5, qs) → R G MX9_lowest 8 [(2, .int q2), (3, .long q3), (5, .int q5)] [] qs o) (he0 : ∀ (q2 : Int32) (qs : Hp), w = .inr (q2, qs) → R G MX9_lowest 48 [(2, .int q2)] [] qs o) : R G MX9_lowest 39 [(2, .int x2), (3, .long x3), (5, .int x5)] [] s o := by
  unfold fX9_lowest_b39 at h
  refine R_iload DX9_lowest_39 2 rfl ?_
  refine R_constI DX9_lowest_41 ci_2 ?_
  obtain ⟨v5, ev5, h⟩ := bind_some h
  refine R_dI DX9_lowest_42 ev5 ?_
  refine R_istore [(5, .int v5), (2, .int x2), (3, .long x3)] DX9_lowest_43 (by decide) rfl ?_
  refine R_goto DX9_lowest_45 ?_
  refine R.sub (L' := [(2, .int x2), (3, .long x3), (5, .int v5)]) [1, 2, 0] rfl ?_
  cases h
  exact hc _ _ _ _ rfl
set_option maxRecDepth 8000 in
theorem tX9_lowest_l8 {G : Gm}  {o : Option Value × Hp} {a : Int32 × Int64 × Int32 × Hp} {w : (Int32 × Int64 × Int32 × Hp) ⊕ ((Int32 × Hp))} (h : fX9_lowest_l8 a = some w) (hc : ∀ (q2 : Int32) (q3 : Int64) (q5 : Int32) (qs : Hp), w = .inl (q2, q3, q5, qs) → R G MX9_lowest 8 [(2, .int q2), (3, .long q3), (5, .int q5)] [] qs o) (he0 : ∀ (q2 : Int32) (qs : Hp), w = .inr (q2, qs) → R G MX9_lowest 48 [(2, .int q2)] [] qs o) : R G MX9_lowest 8 [(2, .int a.1), (3, .long a.2.1), (5, .int a.2.2.1)] [] a.2.2.2 o := by
  unfold fX9_lowest_l8 at h
  refine R_iload DX9_lowest_8 2 rfl ?_
  by_cases c1 : a.2.2.1 ≤ 0
  · replace h := if_t h c1
    refine R_if_le_t DX9_lowest_10 c1 ?_
    refine R.sub (L' := [(2, .int a.1)]) [0] rfl ?_
    cases h
    exact he0 _ _ rfl
  · replace h := if_f h c1
    refine R_if_le_f DX9_lowest_10 c1 ?_
    refine R_lload DX9_lowest_13 1 rfl ?_
    refine R_lconst DX9_lowest_14 ?_
    refine R_iload DX9_lowest_15 2 rfl ?_
    refine R_lshl DX9_lowest_17 ?_
    refine R_lconst DX9_lowest_18 ?_
    refine R_lsub DX9_lowest_19 ?_
    refine R_land DX9_lowest_20 ?_
    refine R_lconst DX9_lowest_21 ?_
    refine R_lcmp DX9_lowest_22 ?_
    by_cases c2 : (lg_cmp (a.2.1 &&& ((lsh 1 a.2.2.1) - 1)) 0) = 0
    · replace h := if_t h c2
      refine R_if_eq_t DX9_lowest_23 c2 ?_
      refine R_lload DX9_lowest_29 1 rfl ?_
      refine R_iload DX9_lowest_30 2 rfl ?_
      refine R_lushr DX9_lowest_32 ?_
      obtain ⟨z3, ez3, h⟩ := lt_some h
      refine R_lstoreE ez3 [(3, .long z3), (2, .int a.1), (5, .int a.2.2.1)] DX9_lowest_33 (by decide) rfl ?_
      refine R_iload DX9_lowest_34 1 rfl ?_
      refine R_iload DX9_lowest_35 2 rfl ?_
      refine R_iadd DX9_lowest_37 ?_
      obtain ⟨z4, ez4, h⟩ := lt_some h
      refine R_istoreE ez4 [(2, .int z4), (3, .long z3), (5, .int a.2.2.1)] DX9_lowest_38 (by decide) rfl ?_
      exact tX9_lowest_b39 h hc he0
    · replace h := if_f h c2
      refine R_if_eq_f DX9_lowest_23 c2 ?_
      refine R_goto DX9_lowest_26 ?_
      exact tX9_lowest_b39 h hc he0
set_option maxRecDepth 8000 in
theorem kX9_lowest {G : Gm} {x0 : Int64} {s : Hp} {w : Int32 × Hp} (h : fX9_lowest x0 s = some w) : Call G MX9_lowest [.long x0] s (some (.int w.1), w.2) := by
  unfold fX9_lowest at h
  refine Call.of_R pnRX9 (Nat.le_of_ble_eq_true rfl) ?_
  show R G MX9_lowest 0 [(0, .long x0)] [] s (some (.int w.1), w.2)
  refine R_constI DX9_lowest_0 ci_0 ?_
  refine R_istore [(2, .int (iI 0)), (0, .long x0)] DX9_lowest_1 (by decide) rfl ?_
  refine R_lload DX9_lowest_2 1 rfl ?_
  refine R_lstore [(3, .long x0), (2, .int (iI 0)), (0, .long x0)] DX9_lowest_3 (by decide) rfl ?_
  refine R_constI DX9_lowest_4 ci_32 ?_
  refine R_istore [(5, .int (iI 32)), (3, .long x0), (2, .int (iI 0)), (0, .long x0)] DX9_lowest_6 (by decide) rfl ?_
  refine R.sub (L' := [(2, .int (iI 0)), (3, .long x0), (5, .int (iI 32))]) [2, 1, 0] rfl ?_
  obtain ⟨r6, hi, h⟩ := bind_some h
  have hE : (fun u8 : Int32 × Hp => R G MX9_lowest 48 [(2, .int u8.1)] [] u8.2 (some (.int w.1), w.2)) r6 → ∀ (q2 : Int32) (q3 : Int64) (q5 : Int32) (qs : Hp), iter fX9_lowest_l8 FU (q2, q3, q5, qs) = some r6 → R G MX9_lowest 8 [(2, .int q2), (3, .long q3), (5, .int q5)] [] qs (some (.int w.1), w.2) := fun hX q2 q3 q5 qs hj => loop_R fX9_lowest_l8 (fun p8 : Int32 × Int64 × Int32 × Hp => R G MX9_lowest 8 [(2, .int p8.1), (3, .long p8.2.1), (5, .int p8.2.2.1)] [] p8.2.2.2 (some (.int w.1), w.2)) (fun u8 : Int32 × Hp => R G MX9_lowest 48 [(2, .int u8.1)] [] u8.2 (some (.int w.1), w.2)) (fun a w hw hc he => tX9_lowest_l8 hw (fun q2 q3 q5 qs e => hc (q2, q3, q5, qs) e) (fun q2 qs e => he (q2, qs) e)) FU (q2, q3, q5, qs) r6 hj hX
  refine hE ?_ _ _ _ _ hi
  clear hE hi
  refine R_iload DX9_lowest_48 0 rfl ?_
  cases h
  exact R_ireturn rfl DX9_lowest_49
set_option maxRecDepth 8000 in
theorem tX9_hourFree_b80 {G : Gm} {x0 : Nat} {x1 : Int32} {x2 : Int32} {x3 : Int64} {x5 : Int32} {x6 : Int32} {s : Hp} {o : Option Value × Hp} {w : (Int32 × Hp) ⊕ ((Hp))} (h : fX9_hourFree_b80 x0 x1 x2 x3 x5 x6 s = some w) (hc : ∀ (q6 : Int32) (qs : Hp), w = .inl (q6, qs) → R G MX9_hourFree 43 [(0, .ref x0), (1, .int x1), (2, .int x2), (3, .long x3), (5, .int x5), (6, .int q6)] [] qs o) (he0 : ∀ (qs : Hp), w = .inr qs → R G MX9_hourFree 86 [(0, .ref x0), (1, .int x1), (2, .int x2), (3, .long x3)] [] qs o) : R G MX9_hourFree 80 [(0, .ref x0), (1, .int x1), (2, .int x2), (3, .long x3), (5, .int x5), (6, .int x6)] [] s o := by
  unfold fX9_hourFree_b80 at h
  refine R_iinc [(6, .int (x6 + iI 1)), (0, .ref x0), (1, .int x1), (2, .int x2), (3, .long x3), (5, .int x5)] DX9_hourFree_80 5 rfl (v := x6 + iI 1) (by rfl) (by decide) rfl ?_
  refine R_goto DX9_hourFree_83 ?_
  refine R.sub (L' := [(0, .ref x0), (1, .int x1), (2, .int x2), (3, .long x3), (5, .int x5), (6, .int (x6 + iI 1))]) [1, 2, 3, 4, 5, 0] rfl ?_
  cases h
  exact hc _ _ rfl
set_option maxRecDepth 8000 in
theorem tX9_hourFree_l43 {G : Gm} {x0 : Nat} {x1 : Int32} {x2 : Int32} {x3 : Int64} {x5 : Int32} {o : Option Value × Hp} {a : Int32 × Hp} {w : (Int32 × Hp) ⊕ ((Hp))} (h : fX9_hourFree_l43 x0 x1 x2 x3 x5 a = some w) (hc : ∀ (q6 : Int32) (qs : Hp), w = .inl (q6, qs) → R G MX9_hourFree 43 [(0, .ref x0), (1, .int x1), (2, .int x2), (3, .long x3), (5, .int x5), (6, .int q6)] [] qs o) (he0 : ∀ (qs : Hp), w = .inr qs → R G MX9_hourFree 86 [(0, .ref x0), (1, .int x1), (2, .int x2), (3, .long x3)] [] qs o) : R G MX9_hourFree 43 [(0, .ref x0), (1, .int x1), (2, .int x2), (3, .long x3), (5, .int x5), (6, .int a.1)] [] a.2 o := by
  unfold fX9_hourFree_l43 at h
  refine R_iload DX9_hourFree_43 5 rfl ?_
  refine R_constI DX9_hourFree_45 ci_3 ?_
  by_cases c9 : (iI 3) ≤ a.1
  · replace h := if_t h c9
    refine R_icmp_ge_t DX9_hourFree_46 c9 ?_
    refine R.sub (L' := [(0, .ref x0), (1, .int x1), (2, .int x2), (3, .long x3)]) [0, 1, 2, 3] rfl ?_
    cases h
    exact he0 _ rfl
  · replace h := if_f h c9
    refine R_icmp_ge_f DX9_hourFree_46 c9 ?_
    refine R_aload DX9_hourFree_49 0 rfl ?_
    refine R_iload DX9_hourFree_50 4 rfl ?_
    obtain ⟨s10, es10, h⟩ := bind_some h
    refine R_cV0 [.int x5] DX9_hourFree_52 kzvX9_reads_ ml_RX9_446 ⟨Nat.le_of_ble_eq_true rfl, Nat.le_of_ble_eq_true rfl⟩ rfl (Nat.le_of_ble_eq_true rfl) (kX9_reads_ es10) ?_
    refine R_aload DX9_hourFree_55 0 rfl ?_
    refine R_iload DX9_hourFree_56 5 rfl ?_
    refine R_iload DX9_hourFree_58 1 rfl ?_
    obtain ⟨r11, er11, h⟩ := bind_some h
    refine R_cV1 [.int a.1, .int x1] DX9_hourFree_59 kzvX9_acts ml_RX9_448 ⟨Nat.le_of_ble_eq_true rfl, Nat.le_of_ble_eq_true rfl⟩ rfl (Nat.le_of_ble_eq_true rfl) (kX9_acts er11) ?_
    by_cases c12 : r11.1 = 0
    · replace h := if_t h c12
      refine R_if_ne_f DX9_hourFree_62 c12 ?_
      refine R_goto DX9_hourFree_65 ?_
      exact tX9_hourFree_b80 h hc he0
    · replace h := if_f h c12
      refine R_if_ne_t DX9_hourFree_62 c12 ?_
      refine R_aload DX9_hourFree_68 0 rfl ?_
      obtain ⟨s13, es13, h⟩ := bind_some h
      refine R_cV0 [] DX9_hourFree_69 kzvX9_marks ml_RX9_436 ⟨Nat.le_of_ble_eq_true rfl, Nat.le_of_ble_eq_true rfl⟩ rfl (Nat.le_of_ble_eq_true rfl) (kX9_marks es13) ?_
      refine R_aload DX9_hourFree_72 0 rfl ?_
      refine R_aload DX9_hourFree_73 0 rfl ?_
      obtain ⟨v14, ev14, h⟩ := bind_some h
      refine R_gR DX9_hourFree_74 fl_RX9_80 ev14 ?_
      obtain ⟨s15, es15, h⟩ := bind_some h
      refine R_cV0 [.ref v14] DX9_hourFree_77 kzvX9_puts ml_RX9_439 ⟨Nat.le_of_ble_eq_true rfl, Nat.le_of_ble_eq_true rfl⟩ rfl (Nat.le_of_ble_eq_true rfl) (kX9_puts es15) ?_
      exact tX9_hourFree_b80 h hc he0
set_option maxRecDepth 8000 in
theorem tX9_hourFree_l23 {G : Gm} {x0 : Nat} {x1 : Int32} {x2 : Int32} {o : Option Value × Hp} {a : Int64 × Hp} {w : (Int64 × Hp) ⊕ ((Hp))} (h : fX9_hourFree_l23 x0 x1 x2 a = some w) (hc : ∀ (q3 : Int64) (qs : Hp), w = .inl (q3, qs) → R G MX9_hourFree 23 [(0, .ref x0), (1, .int x1), (2, .int x2), (3, .long q3)] [] qs o) (he0 : ∀ (qs : Hp), w = .inr qs → R G MX9_hourFree 95 [(0, .ref x0), (1, .int x1), (2, .int x2)] [] qs o) : R G MX9_hourFree 23 [(0, .ref x0), (1, .int x1), (2, .int x2), (3, .long a.1)] [] a.2 o := by
  unfold fX9_hourFree_l23 at h
  refine R_lload DX9_hourFree_23 3 rfl ?_
  refine R_lconst DX9_hourFree_24 ?_
  refine R_lcmp DX9_hourFree_25 ?_
  by_cases c6 : (lg_cmp a.1 0) = 0
  · replace h := if_t h c6
    refine R_if_eq_t DX9_hourFree_26 c6 ?_
    refine R.sub (L' := [(0, .ref x0), (1, .int x1), (2, .int x2)]) [0, 1, 2] rfl ?_
    cases h
    exact he0 _ rfl
  · replace h := if_f h c6
    refine R_if_eq_f DX9_hourFree_26 c6 ?_
    refine R_constI DX9_hourFree_29 ci_64 ?_
    refine R_iload DX9_hourFree_31 2 rfl ?_
    refine R_imul DX9_hourFree_32 ?_
    refine R_lload DX9_hourFree_33 3 rfl ?_
    obtain ⟨r7, er7, h⟩ := bind_some h
    refine R_cS1 [.long a.1] DX9_hourFree_34 kzsX9_lowest ml_RX9_442 ⟨Nat.le_of_ble_eq_true rfl, Nat.le_of_ble_eq_true rfl⟩ rfl (Nat.le_of_ble_eq_true rfl) (kX9_lowest er7) ?_
    refine R_iadd DX9_hourFree_37 ?_
    obtain ⟨z8, ez8, h⟩ := lt_some h
    refine R_istoreE ez8 [(5, .int z8), (0, .ref x0), (1, .int x1), (2, .int x2), (3, .long a.1)] DX9_hourFree_38 (by decide) rfl ?_
    refine R_constI DX9_hourFree_40 ci_0 ?_
    refine R_istore [(6, .int (iI 0)), (5, .int z8), (0, .ref x0), (1, .int x1), (2, .int x2), (3, .long a.1)] DX9_hourFree_41 (by decide) rfl ?_
    refine R.sub (L' := [(0, .ref x0), (1, .int x1), (2, .int x2), (3, .long a.1), (5, .int z8), (6, .int (iI 0))]) [2, 3, 4, 5, 1, 0] rfl ?_
    obtain ⟨r16, hi, h⟩ := bind_some h
    have hE : (fun u43 : Hp => R G MX9_hourFree 86 [(0, .ref x0), (1, .int x1), (2, .int x2), (3, .long a.1)] [] u43 o) r16 → ∀ (q6 : Int32) (qs : Hp), iter (fX9_hourFree_l43 x0 x1 x2 a.1 z8) FU (q6, qs) = some r16 → R G MX9_hourFree 43 [(0, .ref x0), (1, .int x1), (2, .int x2), (3, .long a.1), (5, .int z8), (6, .int q6)] [] qs o := fun hX q6 qs hj => loop_R (fX9_hourFree_l43 x0 x1 x2 a.1 z8) (fun p43 : Int32 × Hp => R G MX9_hourFree 43 [(0, .ref x0), (1, .int x1), (2, .int x2), (3, .long a.1), (5, .int z8), (6, .int p43.1)] [] p43.2 o) (fun u43 : Hp => R G MX9_hourFree 86 [(0, .ref x0), (1, .int x1), (2, .int x2), (3, .long a.1)] [] u43 o) (fun a w hw hc he => tX9_hourFree_l43 hw (fun q6 qs e => hc (q6, qs) e) (fun qs e => he qs e)) FU (q6, qs) r16 hj hX
    refine hE ?_ _ _ hi
    clear hE hi
    refine R_lload DX9_hourFree_86 3 rfl ?_
    refine R_lload DX9_hourFree_87 3 rfl ?_
    refine R_lconst DX9_hourFree_88 ?_
    refine R_lsub DX9_hourFree_89 ?_
    refine R_land DX9_hourFree_90 ?_
    obtain ⟨z17, ez17, h⟩ := lt_some h
    refine R_lstoreE ez17 [(3, .long z17), (0, .ref x0), (1, .int x1), (2, .int x2)] DX9_hourFree_91 (by decide) rfl ?_
    refine R_goto DX9_hourFree_92 ?_
    refine R.sub (L' := [(0, .ref x0), (1, .int x1), (2, .int x2), (3, .long z17)]) [1, 2, 3, 0] rfl ?_
    cases h
    exact hc _ _ rfl
set_option maxRecDepth 8000 in
theorem tX9_hourFree_l9 {G : Gm} {x0 : Nat} {x1 : Int32} {o : Option Value × Hp} {a : Int32 × Hp} {w : (Int32 × Hp) ⊕ ((Hp))} (h : fX9_hourFree_l9 x0 x1 a = some w) (hc : ∀ (q2 : Int32) (qs : Hp), w = .inl (q2, qs) → R G MX9_hourFree 9 [(0, .ref x0), (1, .int x1), (2, .int q2)] [] qs o) (he0 : ∀ (qs : Hp), w = .inr qs → R G MX9_hourFree 101 [(0, .ref x0)] [] qs o) : R G MX9_hourFree 9 [(0, .ref x0), (1, .int x1), (2, .int a.1)] [] a.2 o := by
  unfold fX9_hourFree_l9 at h
  refine R_iload DX9_hourFree_9 2 rfl ?_
  refine R_constI DX9_hourFree_10 ci_16000 ?_
  by_cases c3 : (iI 16000) ≤ a.1
  · replace h := if_t h c3
    refine R_icmp_ge_t DX9_hourFree_13 c3 ?_
    refine R.sub (L' := [(0, .ref x0)]) [0] rfl ?_
    cases h
    exact he0 _ rfl
  · replace h := if_f h c3
    refine R_icmp_ge_f DX9_hourFree_13 c3 ?_
    refine R_aload DX9_hourFree_16 0 rfl ?_
    obtain ⟨v4, ev4, h⟩ := bind_some h
    refine R_gR DX9_hourFree_17 fl_RX9_77 ev4 ?_
    refine R_iload DX9_hourFree_20 2 rfl ?_
    obtain ⟨v5, ev5, h⟩ := bind_some h
    refine R_aL DX9_hourFree_21 ev5 ?_
    refine R_lstore [(3, .long v5), (0, .ref x0), (1, .int x1), (2, .int a.1)] DX9_hourFree_22 (by decide) rfl ?_
    refine R.sub (L' := [(0, .ref x0), (1, .int x1), (2, .int a.1), (3, .long v5)]) [1, 2, 3, 0] rfl ?_
    obtain ⟨r18, hi, h⟩ := bind_some h
    have hE : (fun u23 : Hp => R G MX9_hourFree 95 [(0, .ref x0), (1, .int x1), (2, .int a.1)] [] u23 o) r18 → ∀ (q3 : Int64) (qs : Hp), iter (fX9_hourFree_l23 x0 x1 a.1) FU (q3, qs) = some r18 → R G MX9_hourFree 23 [(0, .ref x0), (1, .int x1), (2, .int a.1), (3, .long q3)] [] qs o := fun hX q3 qs hj => loop_R (fX9_hourFree_l23 x0 x1 a.1) (fun p23 : Int64 × Hp => R G MX9_hourFree 23 [(0, .ref x0), (1, .int x1), (2, .int a.1), (3, .long p23.1)] [] p23.2 o) (fun u23 : Hp => R G MX9_hourFree 95 [(0, .ref x0), (1, .int x1), (2, .int a.1)] [] u23 o) (fun a w hw hc he => tX9_hourFree_l23 hw (fun q3 qs e => hc (q3, qs) e) (fun qs e => he qs e)) FU (q3, qs) r18 hj hX
    refine hE ?_ _ _ hi
    clear hE hi
    refine R_iinc [(2, .int (a.1 + iI 1)), (0, .ref x0), (1, .int x1)] DX9_hourFree_95 2 rfl (v := a.1 + iI 1) (by rfl) (by decide) rfl ?_
    refine R_goto DX9_hourFree_98 ?_
    refine R.sub (L' := [(0, .ref x0), (1, .int x1), (2, .int (a.1 + iI 1))]) [1, 2, 0] rfl ?_
    cases h
    exact hc _ _ rfl
set_option maxRecDepth 8000 in
theorem tX9_hourFree_l103 {G : Gm} {x0 : Nat} {o : Option Value × Hp} {a : Int32 × Hp} {w : (Int32 × Hp) ⊕ ((Hp))} (h : fX9_hourFree_l103 x0 a = some w) (hc : ∀ (q2 : Int32) (qs : Hp), w = .inl (q2, qs) → R G MX9_hourFree 103 [(0, .ref x0), (2, .int q2)] [] qs o) (he0 : ∀ (qs : Hp), w = .inr qs → R G MX9_hourFree 128 [] [] qs o) : R G MX9_hourFree 103 [(0, .ref x0), (2, .int a.1)] [] a.2 o := by
  unfold fX9_hourFree_l103 at h
  refine R_iload DX9_hourFree_103 1 rfl ?_
  refine R_constI DX9_hourFree_104 ci_16000 ?_
  by_cases c20 : (iI 16000) ≤ a.1
  · replace h := if_t h c20
    refine R_icmp_ge_t DX9_hourFree_107 c20 ?_
    refine R.sub (L' := []) [] rfl ?_
    cases h
    exact he0 _ rfl
  · replace h := if_f h c20
    refine R_icmp_ge_f DX9_hourFree_107 c20 ?_
    refine R_aload DX9_hourFree_110 0 rfl ?_
    obtain ⟨v21, ev21, h⟩ := bind_some h
    refine R_gR DX9_hourFree_111 fl_RX9_77 ev21 ?_
    refine R_iload DX9_hourFree_114 1 rfl ?_
    refine R_aload DX9_hourFree_115 0 rfl ?_
    obtain ⟨v22, ev22, h⟩ := bind_some h
    refine R_gR DX9_hourFree_116 fl_RX9_80 ev22 ?_
    refine R_iload DX9_hourFree_119 1 rfl ?_
    obtain ⟨v23, ev23, h⟩ := bind_some h
    refine R_aL DX9_hourFree_120 ev23 ?_
    obtain ⟨s24, es24, h⟩ := bind_some h
    refine R_sL DX9_hourFree_121 es24 ?_
    refine R_iinc [(2, .int (a.1 + iI 1)), (0, .ref x0)] DX9_hourFree_122 1 rfl (v := a.1 + iI 1) (by rfl) (by decide) rfl ?_
    refine R_goto DX9_hourFree_125 ?_
    refine R.sub (L' := [(0, .ref x0), (2, .int (a.1 + iI 1))]) [1, 0] rfl ?_
    cases h
    exact hc _ _ rfl
set_option maxRecDepth 8000 in
theorem kX9_hourFree {G : Gm} {x0 : Nat} {x1 : Int32} {s : Hp} {w : Hp} (h : fX9_hourFree x0 x1 s = some w) : (s.2.2 x0).1 = 9 ∧ Call G MX9_hourFree [.ref x0, .int x1] s (none, w) := by
  unfold fX9_hourFree at h
  obtain ⟨_, e0, h⟩ := bind_some h
  refine ⟨ck_some e0, Call.of_R pnRX9 (Nat.le_of_ble_eq_true rfl) ?_⟩
  clear e0
  show R G MX9_hourFree 0 [(0, .ref x0), (1, .int x1)] [] s (none, w)
  refine R_aload DX9_hourFree_0 0 rfl ?_
  obtain ⟨v1, ev1, h⟩ := bind_some h
  refine R_gR DX9_hourFree_1 fl_RX9_80 ev1 ?_
  obtain ⟨s2, es2, h⟩ := bind_some h
  refine R_cS0 [.ref v1] DX9_hourFree_4 kzsX9_empties ml_RX9_432 ⟨Nat.le_of_ble_eq_true rfl, Nat.le_of_ble_eq_true rfl⟩ rfl (Nat.le_of_ble_eq_true rfl) (kX9_empties es2) ?_
  refine R_constI DX9_hourFree_7 ci_0 ?_
  refine R_istore [(2, .int (iI 0)), (0, .ref x0), (1, .int x1)] DX9_hourFree_8 (by decide) rfl ?_
  refine R.sub (L' := [(0, .ref x0), (1, .int x1), (2, .int (iI 0))]) [1, 2, 0] rfl ?_
  obtain ⟨r19, hi, h⟩ := bind_some h
  have hE : (fun u9 : Hp => R G MX9_hourFree 101 [(0, .ref x0)] [] u9 (none, w)) r19 → ∀ (q2 : Int32) (qs : Hp), iter (fX9_hourFree_l9 x0 x1) FU (q2, qs) = some r19 → R G MX9_hourFree 9 [(0, .ref x0), (1, .int x1), (2, .int q2)] [] qs (none, w) := fun hX q2 qs hj => loop_R (fX9_hourFree_l9 x0 x1) (fun p9 : Int32 × Hp => R G MX9_hourFree 9 [(0, .ref x0), (1, .int x1), (2, .int p9.1)] [] p9.2 (none, w)) (fun u9 : Hp => R G MX9_hourFree 101 [(0, .ref x0)] [] u9 (none, w)) (fun a w hw hc he => tX9_hourFree_l9 hw (fun q2 qs e => hc (q2, qs) e) (fun qs e => he qs e)) FU (q2, qs) r19 hj hX
  refine hE ?_ _ _ hi
  clear hE hi
  refine R_constI DX9_hourFree_101 ci_0 ?_
  refine R_istore [(2, .int (iI 0)), (0, .ref x0)] DX9_hourFree_102 (by decide) rfl ?_
  refine R.sub (L' := [(0, .ref x0), (2, .int (iI 0))]) [1, 0] rfl ?_
  obtain ⟨r25, hi, h⟩ := bind_some h
  have hE : (fun u103 : Hp => R G MX9_hourFree 128 [] [] u103 (none, w)) r25 → ∀ (q2 : Int32) (qs : Hp), iter (fX9_hourFree_l103 x0) FU (q2, qs) = some r25 → R G MX9_hourFree 103 [(0, .ref x0), (2, .int q2)] [] qs (none, w) := fun hX q2 qs hj => loop_R (fX9_hourFree_l103 x0) (fun p103 : Int32 × Hp => R G MX9_hourFree 103 [(0, .ref x0), (2, .int p103.1)] [] p103.2 (none, w)) (fun u103 : Hp => R G MX9_hourFree 128 [] [] u103 (none, w)) (fun a w hw hc he => tX9_hourFree_l103 hw (fun q2 qs e => hc (q2, qs) e) (fun qs e => he qs e)) FU (q2, qs) r25 hj hX
  refine hE ?_ _ _ hi
  clear hE hi
  cases h
  exact R_return rfl DX9_hourFree_128
set_option maxRecDepth 8000 in
theorem tX9_mostLeft_b71 {G : Gm} {x0 : Nat} {x1 : Int32} {x2 : Int32} {x3 : Int32} {x4 : Int32} {x5 : Int32} {x6 : Int32} {s : Hp} {o : Option Value × Hp} {w : (Int32 × Int32 × Hp) ⊕ ((Int32 × Hp))} (h : fX9_mostLeft_b71 x0 x1 x2 x3 x4 x5 x6 s = some w) (hc : ∀ (q4 : Int32) (q6 : Int32) (qs : Hp), w = .inl (q4, q6, qs) → R G MX9_mostLeft 16 [(0, .ref x0), (1, .int x1), (2, .int x2), (3, .int x3), (4, .int q4), (5, .int x5), (6, .int q6)] [] qs o) (he0 : ∀ (q4 : Int32) (qs : Hp), w = .inr (q4, qs) → R G MX9_mostLeft 77 [(0, .ref x0), (1, .int x1), (2, .int x2), (3, .int x3), (4, .int q4), (5, .int x5)] [] qs o) : R G MX9_mostLeft 71 [(0, .ref x0), (1, .int x1), (2, .int x2), (3, .int x3), (4, .int x4), (5, .int x5), (6, .int x6)] [] s o := by
  unfold fX9_mostLeft_b71 at h
  refine R_iinc [(6, .int (x6 + iI 1)), (0, .ref x0), (1, .int x1), (2, .int x2), (3, .int x3), (4, .int x4), (5, .int x5)] DX9_mostLeft_71 6 rfl (v := x6 + iI 1) (by rfl) (by decide) rfl ?_
  refine R_goto DX9_mostLeft_74 ?_
  refine R.sub (L' := [(0, .ref x0), (1, .int x1), (2, .int x2), (3, .int x3), (4, .int x4), (5, .int x5), (6, .int (x6 + iI 1))]) [1, 2, 3, 4, 5, 6, 0] rfl ?_
  cases h
  exact hc _ _ _ rfl
set_option maxRecDepth 8000 in
theorem tX9_mostLeft_l16 {G : Gm} {x0 : Nat} {x1 : Int32} {x2 : Int32} {x3 : Int32} {x5 : Int32} {o : Option Value × Hp} {a : Int32 × Int32 × Hp} {w : (Int32 × Int32 × Hp) ⊕ ((Int32 × Hp))} (h : fX9_mostLeft_l16 x0 x1 x2 x3 x5 a = some w) (hc : ∀ (q4 : Int32) (q6 : Int32) (qs : Hp), w = .inl (q4, q6, qs) → R G MX9_mostLeft 16 [(0, .ref x0), (1, .int x1), (2, .int x2), (3, .int x3), (4, .int q4), (5, .int x5), (6, .int q6)] [] qs o) (he0 : ∀ (q4 : Int32) (qs : Hp), w = .inr (q4, qs) → R G MX9_mostLeft 77 [(0, .ref x0), (1, .int x1), (2, .int x2), (3, .int x3), (4, .int q4), (5, .int x5)] [] qs o) : R G MX9_mostLeft 16 [(0, .ref x0), (1, .int x1), (2, .int x2), (3, .int x3), (4, .int a.1), (5, .int x5), (6, .int a.2.1)] [] a.2.2 o := by
  unfold fX9_mostLeft_l16 at h
  refine R_iload DX9_mostLeft_16 6 rfl ?_
  refine R_constI DX9_mostLeft_18 ci_10 ?_
  by_cases c2 : (iI 10) ≤ a.2.1
  · replace h := if_t h c2
    refine R_icmp_ge_t DX9_mostLeft_20 c2 ?_
    refine R.sub (L' := [(0, .ref x0), (1, .int x1), (2, .int x2), (3, .int x3), (4, .int a.1), (5, .int x5)]) [0, 1, 2, 3, 4, 5] rfl ?_
    cases h
    exact he0 _ _ rfl
  · replace h := if_f h c2
    refine R_icmp_ge_f DX9_mostLeft_20 c2 ?_
    refine R_aload DX9_mostLeft_23 0 rfl ?_
    refine R_iload DX9_mostLeft_24 1 rfl ?_
    obtain ⟨s3, es3, h⟩ := bind_some h
    refine R_pI DX9_mostLeft_25 fl_RX9_405 es3 ?_
    refine R_aload DX9_mostLeft_28 0 rfl ?_
    refine R_iload DX9_mostLeft_29 2 rfl ?_
    obtain ⟨s4, es4, h⟩ := bind_some h
    refine R_pI DX9_mostLeft_30 fl_RX9_408 es4 ?_
    refine R_aload DX9_mostLeft_33 0 rfl ?_
    refine R_iload DX9_mostLeft_34 3 rfl ?_
    obtain ⟨s5, es5, h⟩ := bind_some h
    refine R_pI DX9_mostLeft_35 fl_RX9_411 es5 ?_
    refine R_aload DX9_mostLeft_38 0 rfl ?_
    refine R_iload DX9_mostLeft_39 5 rfl ?_
    obtain ⟨s6, es6, h⟩ := bind_some h
    refine R_pI DX9_mostLeft_41 fl_RX9_414 es6 ?_
    refine R_aload DX9_mostLeft_44 0 rfl ?_
    refine R_iload DX9_mostLeft_45 6 rfl ?_
    obtain ⟨s7, es7, h⟩ := bind_some h
    refine R_pI DX9_mostLeft_47 fl_RX9_417 es7 ?_
    refine R_aload DX9_mostLeft_50 0 rfl ?_
    obtain ⟨v8, ev8, h⟩ := bind_some h
    refine R_gR DX9_mostLeft_51 fl_RX9_77 ev8 ?_
    refine R_constI DX9_mostLeft_54 ci_32 ?_
    refine R_aload DX9_mostLeft_56 0 rfl ?_
    obtain ⟨r9, er9, h⟩ := bind_some h
    refine R_cV1 [] DX9_mostLeft_57 kzvX9_state ml_RX9_429 ⟨Nat.le_of_ble_eq_true rfl, Nat.le_of_ble_eq_true rfl⟩ rfl (Nat.le_of_ble_eq_true rfl) (kX9_state er9) ?_
    refine R_imul DX9_mostLeft_60 ?_
    obtain ⟨r10, er10, h⟩ := bind_some h
    refine R_cS1 [.ref v8, .int ((iI 32) * r9.1)] DX9_mostLeft_61 kzsX9_isOn ml_RX9_451 ⟨Nat.le_of_ble_eq_true rfl, Nat.le_of_ble_eq_true rfl⟩ rfl (Nat.le_of_ble_eq_true rfl) (kX9_isOn er10) ?_
    by_cases c11 : r10.1 = 0
    · replace h := if_t h c11
      refine R_if_eq_t DX9_mostLeft_64 c11 ?_
      exact tX9_mostLeft_b71 h hc he0
    · replace h := if_f h c11
      refine R_if_eq_f DX9_mostLeft_64 c11 ?_
      refine R_iload DX9_mostLeft_67 5 rfl ?_
      refine R_istore [(4, .int x5), (0, .ref x0), (1, .int x1), (2, .int x2), (3, .int x3), (5, .int x5), (6, .int a.2.1)] DX9_mostLeft_69 (by decide) rfl ?_
      refine R.sub (L' := [(0, .ref x0), (1, .int x1), (2, .int x2), (3, .int x3), (4, .int x5), (5, .int x5), (6, .int a.2.1)]) [1, 2, 3, 4, 0, 5, 6] rfl ?_
      exact tX9_mostLeft_b71 h hc he0
set_option maxRecDepth 8000 in
theorem tX9_mostLeft_l6 {G : Gm} {x0 : Nat} {x1 : Int32} {x2 : Int32} {x3 : Int32} {o : Option Value × Hp} {a : Int32 × Int32 × Hp} {w : (Int32 × Int32 × Hp) ⊕ ((Int32 × Hp))} (h : fX9_mostLeft_l6 x0 x1 x2 x3 a = some w) (hc : ∀ (q4 : Int32) (q5 : Int32) (qs : Hp), w = .inl (q4, q5, qs) → R G MX9_mostLeft 6 [(0, .ref x0), (1, .int x1), (2, .int x2), (3, .int x3), (4, .int q4), (5, .int q5)] [] qs o) (he0 : ∀ (q4 : Int32) (qs : Hp), w = .inr (q4, qs) → R G MX9_mostLeft 83 [(4, .int q4)] [] qs o) : R G MX9_mostLeft 6 [(0, .ref x0), (1, .int x1), (2, .int x2), (3, .int x3), (4, .int a.1), (5, .int a.2.1)] [] a.2.2 o := by
  unfold fX9_mostLeft_l6 at h
  refine R_iload DX9_mostLeft_6 5 rfl ?_
  refine R_constI DX9_mostLeft_8 ci_10 ?_
  by_cases c1 : (iI 10) ≤ a.2.1
  · replace h := if_t h c1
    refine R_icmp_ge_t DX9_mostLeft_10 c1 ?_
    refine R.sub (L' := [(4, .int a.1)]) [4] rfl ?_
    cases h
    exact he0 _ _ rfl
  · replace h := if_f h c1
    refine R_icmp_ge_f DX9_mostLeft_10 c1 ?_
    refine R_constI DX9_mostLeft_13 ci_0 ?_
    refine R_istore [(6, .int (iI 0)), (0, .ref x0), (1, .int x1), (2, .int x2), (3, .int x3), (4, .int a.1), (5, .int a.2.1)] DX9_mostLeft_14 (by decide) rfl ?_
    refine R.sub (L' := [(0, .ref x0), (1, .int x1), (2, .int x2), (3, .int x3), (4, .int a.1), (5, .int a.2.1), (6, .int (iI 0))]) [1, 2, 3, 4, 5, 6, 0] rfl ?_
    obtain ⟨r12, hi, h⟩ := bind_some h
    have hE : (fun u16 : Int32 × Hp => R G MX9_mostLeft 77 [(0, .ref x0), (1, .int x1), (2, .int x2), (3, .int x3), (4, .int u16.1), (5, .int a.2.1)] [] u16.2 o) r12 → ∀ (q4 : Int32) (q6 : Int32) (qs : Hp), iter (fX9_mostLeft_l16 x0 x1 x2 x3 a.2.1) FU (q4, q6, qs) = some r12 → R G MX9_mostLeft 16 [(0, .ref x0), (1, .int x1), (2, .int x2), (3, .int x3), (4, .int q4), (5, .int a.2.1), (6, .int q6)] [] qs o := fun hX q4 q6 qs hj => loop_R (fX9_mostLeft_l16 x0 x1 x2 x3 a.2.1) (fun p16 : Int32 × Int32 × Hp => R G MX9_mostLeft 16 [(0, .ref x0), (1, .int x1), (2, .int x2), (3, .int x3), (4, .int p16.1), (5, .int a.2.1), (6, .int p16.2.1)] [] p16.2.2 o) (fun u16 : Int32 × Hp => R G MX9_mostLeft 77 [(0, .ref x0), (1, .int x1), (2, .int x2), (3, .int x3), (4, .int u16.1), (5, .int a.2.1)] [] u16.2 o) (fun a w hw hc he => tX9_mostLeft_l16 hw (fun q4 q6 qs e => hc (q4, q6, qs) e) (fun q4 qs e => he (q4, qs) e)) FU (q4, q6, qs) r12 hj hX
    refine hE ?_ _ _ _ hi
    clear hE hi
    refine R_iinc [(5, .int (a.2.1 + iI 1)), (0, .ref x0), (1, .int x1), (2, .int x2), (3, .int x3), (4, .int r12.1)] DX9_mostLeft_77 5 rfl (v := a.2.1 + iI 1) (by rfl) (by decide) rfl ?_
    refine R_goto DX9_mostLeft_80 ?_
    refine R.sub (L' := [(0, .ref x0), (1, .int x1), (2, .int x2), (3, .int x3), (4, .int r12.1), (5, .int (a.2.1 + iI 1))]) [1, 2, 3, 4, 5, 0] rfl ?_
    cases h
    exact hc _ _ _ rfl
set_option maxRecDepth 8000 in
theorem kX9_mostLeft {G : Gm} {x0 : Nat} {x1 : Int32} {x2 : Int32} {x3 : Int32} {s : Hp} {w : Int32 × Hp} (h : fX9_mostLeft x0 x1 x2 x3 s = some w) : (s.2.2 x0).1 = 9 ∧ Call G MX9_mostLeft [.ref x0, .int x1, .int x2, .int x3] s (some (.int w.1), w.2) := by
  unfold fX9_mostLeft at h
  obtain ⟨_, e0, h⟩ := bind_some h
  refine ⟨ck_some e0, Call.of_R pnRX9 (Nat.le_of_ble_eq_true rfl) ?_⟩
  clear e0
  show R G MX9_mostLeft 0 [(0, .ref x0), (1, .int x1), (2, .int x2), (3, .int x3)] [] s (some (.int w.1), w.2)
  refine R_constI DX9_mostLeft_0 ci_m1 ?_
  refine R_istore [(4, .int (iI (-1))), (0, .ref x0), (1, .int x1), (2, .int x2), (3, .int x3)] DX9_mostLeft_1 (by decide) rfl ?_
  refine R_constI DX9_mostLeft_3 ci_0 ?_
  refine R_istore [(5, .int (iI 0)), (4, .int (iI (-1))), (0, .ref x0), (1, .int x1), (2, .int x2), (3, .int x3)] DX9_mostLeft_4 (by decide) rfl ?_
  refine R.sub (L' := [(0, .ref x0), (1, .int x1), (2, .int x2), (3, .int x3), (4, .int (iI (-1))), (5, .int (iI 0))]) [2, 3, 4, 5, 1, 0] rfl ?_
  obtain ⟨r13, hi, h⟩ := bind_some h
  have hE : (fun u6 : Int32 × Hp => R G MX9_mostLeft 83 [(4, .int u6.1)] [] u6.2 (some (.int w.1), w.2)) r13 → ∀ (q4 : Int32) (q5 : Int32) (qs : Hp), iter (fX9_mostLeft_l6 x0 x1 x2 x3) FU (q4, q5, qs) = some r13 → R G MX9_mostLeft 6 [(0, .ref x0), (1, .int x1), (2, .int x2), (3, .int x3), (4, .int q4), (5, .int q5)] [] qs (some (.int w.1), w.2) := fun hX q4 q5 qs hj => loop_R (fX9_mostLeft_l6 x0 x1 x2 x3) (fun p6 : Int32 × Int32 × Hp => R G MX9_mostLeft 6 [(0, .ref x0), (1, .int x1), (2, .int x2), (3, .int x3), (4, .int p6.1), (5, .int p6.2.1)] [] p6.2.2 (some (.int w.1), w.2)) (fun u6 : Int32 × Hp => R G MX9_mostLeft 83 [(4, .int u6.1)] [] u6.2 (some (.int w.1), w.2)) (fun a w hw hc he => tX9_mostLeft_l6 hw (fun q4 q5 qs e => hc (q4, q5, qs) e) (fun q4 qs e => he (q4, qs) e)) FU (q4, q5, qs) r13 hj hX
  refine hE ?_ _ _ _ hi
  clear hE hi
  refine R_iload DX9_mostLeft_83 0 rfl ?_
  cases h
  exact R_ireturn rfl DX9_mostLeft_85
set_option maxRecDepth 8000 in
theorem tX9_isCell_b23 {G : Gm} {s : Hp} {w : Int32 × Hp} (h : fX9_isCell_b23 s = some w) : R G MX9_isCell 23 [] [] s (some (.int w.1), w.2) := by
  unfold fX9_isCell_b23 at h
  refine R_constI DX9_isCell_23 ci_0 ?_
  cases h
  exact R_zreturn rfl DX9_isCell_24 (by decide)
set_option maxRecDepth 8000 in
theorem kX9_isCell {G : Gm} {x0 : Nat} {x1 : Int32} {x2 : Int32} {x3 : Int32} {s : Hp} {w : Int32 × Hp} (h : fX9_isCell x0 x1 x2 x3 s = some w) : (s.2.2 x0).1 = 9 ∧ Call G MX9_isCell [.ref x0, .int x1, .int x2, .int x3] s (some (.int w.1), w.2) := by
  unfold fX9_isCell at h
  obtain ⟨_, e0, h⟩ := bind_some h
  refine ⟨ck_some e0, Call.of_R pnRX9 (Nat.le_of_ble_eq_true rfl) ?_⟩
  clear e0
  show R G MX9_isCell 0 [(0, .ref x0), (1, .int x1), (2, .int x2), (3, .int x3)] [] s (some (.int w.1), w.2)
  refine R_aload DX9_isCell_0 0 rfl ?_
  refine R_iload DX9_isCell_1 1 rfl ?_
  refine R_i2l DX9_isCell_2 ?_
  refine R_iload DX9_isCell_3 2 rfl ?_
  refine R_i2l DX9_isCell_4 ?_
  obtain ⟨r1, er1, h⟩ := bind_some h
  refine R_cV1 [.long (Int32.toInt64 x1), .long (Int32.toInt64 x2)] DX9_isCell_5 kzvX9_isColumn ml_RX9_331 ⟨Nat.le_of_ble_eq_true rfl, Nat.le_of_ble_eq_true rfl⟩ rfl (Nat.le_of_ble_eq_true rfl) (kX9_isColumn er1) ?_
  by_cases c2 : r1.1 = 0
  · replace h := if_t h c2
    refine R_if_eq_t DX9_isCell_8 c2 ?_
    refine R.sub (L' := []) [] rfl ?_
    exact tX9_isCell_b23 h
  · replace h := if_f h c2
    refine R_if_eq_f DX9_isCell_8 c2 ?_
    refine R_aload DX9_isCell_11 0 rfl ?_
    refine R_iload DX9_isCell_12 3 rfl ?_
    obtain ⟨r3, er3, h⟩ := bind_some h
    refine R_cV1 [.int x3] DX9_isCell_13 kzvX9_isLayer ml_RX9_302 ⟨Nat.le_of_ble_eq_true rfl, Nat.le_of_ble_eq_true rfl⟩ rfl (Nat.le_of_ble_eq_true rfl) (kX9_isLayer er3) ?_
    by_cases c4 : r3.1 = 0
    · replace h := if_t h c4
      refine R_if_eq_t DX9_isCell_16 c4 ?_
      refine R.sub (L' := []) [] rfl ?_
      exact tX9_isCell_b23 h
    · replace h := if_f h c4
      refine R_if_eq_f DX9_isCell_16 c4 ?_
      refine R_constI DX9_isCell_19 ci_1 ?_
      refine R_goto DX9_isCell_20 ?_
      cases h
      exact R_zreturn rfl DX9_isCell_24 (by decide)
set_option maxRecDepth 8000 in
theorem tX9_least_b24 {G : Gm} {s : Hp} {w : Int32 × Hp} (h : fX9_least_b24 s = some w) : R G MX9_least 24 [] [] s (some (.int w.1), w.2) := by
  unfold fX9_least_b24 at h
  refine R_constI DX9_least_24 ci_m2 ?_
  cases h
  exact R_ireturn rfl DX9_least_26
set_option maxRecDepth 8000 in
theorem tX9_least_b89 {G : Gm} {x0 : Nat} {x1 : Int32} {x2 : Int32} {x3 : Int32} {x4 : Int32} {x6 : Int32} {y0 : Int32} {s : Hp} {o : Option Value × Hp} {w : (Int32 × Int32 × Hp) ⊕ ((Int32 × Hp))} (h : fX9_least_b89 x0 x1 x2 x3 x4 x6 y0 s = some w) (hc : ∀ (q5 : Int32) (q6 : Int32) (qs : Hp), w = .inl (q5, q6, qs) → R G MX9_least 48 [(0, .ref x0), (1, .int x1), (2, .int x2), (3, .int x3), (4, .int x4), (5, .int q5), (6, .int q6)] [] qs o) (he0 : ∀ (q5 : Int32) (qs : Hp), w = .inr (q5, qs) → R G MX9_least 97 [(0, .ref x0), (1, .int x1), (5, .int q5)] [] qs o) : R G MX9_least 89 [(0, .ref x0), (1, .int x1), (2, .int x2), (3, .int x3), (4, .int x4), (6, .int x6)] [.int y0] s o := by
  unfold fX9_least_b89 at h
  refine R_istore [(5, .int y0), (0, .ref x0), (1, .int x1), (2, .int x2), (3, .int x3), (4, .int x4), (6, .int x6)] DX9_least_89 (by decide) rfl ?_
  refine R_iinc [(6, .int (x6 + iI 1)), (5, .int y0), (0, .ref x0), (1, .int x1), (2, .int x2), (3, .int x3), (4, .int x4)] DX9_least_91 6 rfl (v := x6 + iI 1) (by rfl) (by decide) rfl ?_
  refine R_goto DX9_least_94 ?_
  refine R.sub (L' := [(0, .ref x0), (1, .int x1), (2, .int x2), (3, .int x3), (4, .int x4), (5, .int y0), (6, .int (x6 + iI 1))]) [2, 3, 4, 5, 6, 1, 0] rfl ?_
  cases h
  exact hc _ _ _ rfl
set_option maxRecDepth 8000 in
theorem tX9_least_l48 {G : Gm} {x0 : Nat} {x1 : Int32} {x2 : Int32} {x3 : Int32} {x4 : Int32} {o : Option Value × Hp} {a : Int32 × Int32 × Hp} {w : (Int32 × Int32 × Hp) ⊕ ((Int32 × Hp))} (h : fX9_least_l48 x0 x1 x2 x3 x4 a = some w) (hc : ∀ (q5 : Int32) (q6 : Int32) (qs : Hp), w = .inl (q5, q6, qs) → R G MX9_least 48 [(0, .ref x0), (1, .int x1), (2, .int x2), (3, .int x3), (4, .int x4), (5, .int q5), (6, .int q6)] [] qs o) (he0 : ∀ (q5 : Int32) (qs : Hp), w = .inr (q5, qs) → R G MX9_least 97 [(0, .ref x0), (1, .int x1), (5, .int q5)] [] qs o) : R G MX9_least 48 [(0, .ref x0), (1, .int x1), (2, .int x2), (3, .int x3), (4, .int x4), (5, .int a.1), (6, .int a.2.1)] [] a.2.2 o := by
  unfold fX9_least_l48 at h
  refine R_iload DX9_least_48 6 rfl ?_
  refine R_aload DX9_least_50 0 rfl ?_
  obtain ⟨v8, ev8, h⟩ := bind_some h
  refine R_gR DX9_least_51 fl_RX9_34 ev8 ?_
  refine R_constI DX9_least_54 ci_3 ?_
  obtain ⟨v9, ev9, h⟩ := bind_some h
  refine R_aI DX9_least_55 ev9 ?_
  by_cases c10 : v9 ≤ a.2.1
  · replace h := if_t h c10
    refine R_icmp_ge_t DX9_least_56 c10 ?_
    refine R.sub (L' := [(0, .ref x0), (1, .int x1), (5, .int a.1)]) [0, 1, 5] rfl ?_
    cases h
    exact he0 _ _ rfl
  · replace h := if_f h c10
    refine R_icmp_ge_f DX9_least_56 c10 ?_
    refine R_aload DX9_least_59 0 rfl ?_
    refine R_iload DX9_least_60 6 rfl ?_
    obtain ⟨s11, es11, h⟩ := bind_some h
    refine R_cV0 [.int a.2.1] DX9_least_62 kzvX9_hourFree ml_RX9_464 ⟨Nat.le_of_ble_eq_true rfl, Nat.le_of_ble_eq_true rfl⟩ rfl (Nat.le_of_ble_eq_true rfl) (kX9_hourFree es11) ?_
    refine R_aload DX9_least_65 0 rfl ?_
    refine R_iload DX9_least_66 2 rfl ?_
    refine R_iload DX9_least_67 3 rfl ?_
    refine R_iload DX9_least_68 4 rfl ?_
    obtain ⟨r12, er12, h⟩ := bind_some h
    refine R_cV1 [.int x2, .int x3, .int x4] DX9_least_70 kzvX9_mostLeft ml_RX9_461 ⟨Nat.le_of_ble_eq_true rfl, Nat.le_of_ble_eq_true rfl⟩ rfl (Nat.le_of_ble_eq_true rfl) (kX9_mostLeft er12) ?_
    refine R_istore [(7, .int r12.1), (0, .ref x0), (1, .int x1), (2, .int x2), (3, .int x3), (4, .int x4), (5, .int a.1), (6, .int a.2.1)] DX9_least_73 (by decide) rfl ?_
    refine R_iload DX9_least_75 0 rfl ?_
    refine R_iload DX9_least_77 6 rfl ?_
    by_cases c13 : r12.1 ≤ a.1
    · replace h := if_t h c13
      refine R_icmp_le_t DX9_least_79 c13 ?_
      refine R_iload DX9_least_87 6 rfl ?_
      refine R.sub (L' := [(0, .ref x0), (1, .int x1), (2, .int x2), (3, .int x3), (4, .int x4), (6, .int a.2.1)]) [1, 2, 3, 4, 5, 7] rfl ?_
      exact tX9_least_b89 h hc he0
    · replace h := if_f h c13
      refine R_icmp_le_f DX9_least_79 c13 ?_
      refine R_iload DX9_least_82 0 rfl ?_
      refine R_goto DX9_least_84 ?_
      refine R.sub (L' := [(0, .ref x0), (1, .int x1), (2, .int x2), (3, .int x3), (4, .int x4), (6, .int a.2.1)]) [1, 2, 3, 4, 5, 7] rfl ?_
      exact tX9_least_b89 h hc he0
set_option maxRecDepth 8000 in
theorem kX9_least {G : Gm} {x0 : Nat} {x1 : Int32} {x2 : Int32} {x3 : Int32} {x4 : Int32} {s : Hp} {w : Int32 × Hp} (h : fX9_least x0 x1 x2 x3 x4 s = some w) : (s.2.2 x0).1 = 9 ∧ Call G MX9_least [.ref x0, .int x1, .int x2, .int x3, .int x4] s (some (.int w.1), w.2) := by
  unfold fX9_least at h
  obtain ⟨_, e0, h⟩ := bind_some h
  refine ⟨ck_some e0, Call.of_R pnRX9 (Nat.le_of_ble_eq_true rfl) ?_⟩
  clear e0
  show R G MX9_least 0 [(0, .ref x0), (1, .int x1), (2, .int x2), (3, .int x3), (4, .int x4)] [] s (some (.int w.1), w.2)
  refine R_aload DX9_least_0 0 rfl ?_
  refine R_constI DX9_least_1 ci_0 ?_
  obtain ⟨s1, es1, h⟩ := bind_some h
  refine R_pI DX9_least_2 fl_RX9_92 es1 ?_
  refine R_aload DX9_least_5 0 rfl ?_
  refine R_iload DX9_least_6 1 rfl ?_
  obtain ⟨r2, er2, h⟩ := bind_some h
  refine R_cV1 [.int x1] DX9_least_7 kzvX9_isShop ml_RX9_314 ⟨Nat.le_of_ble_eq_true rfl, Nat.le_of_ble_eq_true rfl⟩ rfl (Nat.le_of_ble_eq_true rfl) (kX9_isShop er2) ?_
  by_cases c3 : r2.1 = 0
  · replace h := if_t h c3
    refine R_if_eq_t DX9_least_10 c3 ?_
    refine R.sub (L' := []) [] rfl ?_
    exact tX9_least_b24 h
  · replace h := if_f h c3
    refine R_if_eq_f DX9_least_10 c3 ?_
    refine R_aload DX9_least_13 0 rfl ?_
    refine R_iload DX9_least_14 2 rfl ?_
    refine R_iload DX9_least_15 3 rfl ?_
    refine R_iload DX9_least_16 4 rfl ?_
    obtain ⟨r4, er4, h⟩ := bind_some h
    refine R_cV1 [.int x2, .int x3, .int x4] DX9_least_18 kzvX9_isCell ml_RX9_455 ⟨Nat.le_of_ble_eq_true rfl, Nat.le_of_ble_eq_true rfl⟩ rfl (Nat.le_of_ble_eq_true rfl) (kX9_isCell er4) ?_
    by_cases c5 : r4.1 = 0
    · replace h := if_t h c5
      refine R_if_ne_f DX9_least_21 c5 ?_
      refine R.sub (L' := []) [] rfl ?_
      exact tX9_least_b24 h
    · replace h := if_f h c5
      refine R_if_ne_t DX9_least_21 c5 ?_
      refine R_aload DX9_least_27 0 rfl ?_
      refine R_iload DX9_least_28 1 rfl ?_
      refine R_constI DX9_least_29 ci_9 ?_
      refine R_constI DX9_least_31 ci_0 ?_
      obtain ⟨s6, es6, h⟩ := bind_some h
      refine R_cV0 [.int x1, .int (iI 9), .int (iI 0)] DX9_least_32 kzvX9_starts ml_RX9_458 ⟨Nat.le_of_ble_eq_true rfl, Nat.le_of_ble_eq_true rfl⟩ rfl (Nat.le_of_ble_eq_true rfl) (kX9_starts es6) ?_
      refine R_aload DX9_least_35 0 rfl ?_
      refine R_iload DX9_least_36 2 rfl ?_
      refine R_iload DX9_least_37 3 rfl ?_
      refine R_iload DX9_least_38 4 rfl ?_
      obtain ⟨r7, er7, h⟩ := bind_some h
      refine R_cV1 [.int x2, .int x3, .int x4] DX9_least_40 kzvX9_mostLeft ml_RX9_461 ⟨Nat.le_of_ble_eq_true rfl, Nat.le_of_ble_eq_true rfl⟩ rfl (Nat.le_of_ble_eq_true rfl) (kX9_mostLeft er7) ?_
      refine R_istore [(5, .int r7.1), (0, .ref x0), (1, .int x1), (2, .int x2), (3, .int x3), (4, .int x4)] DX9_least_43 (by decide) rfl ?_
      refine R_constI DX9_least_45 ci_0 ?_
      refine R_istore [(6, .int (iI 0)), (5, .int r7.1), (0, .ref x0), (1, .int x1), (2, .int x2), (3, .int x3), (4, .int x4)] DX9_least_46 (by decide) rfl ?_
      refine R.sub (L' := [(0, .ref x0), (1, .int x1), (2, .int x2), (3, .int x3), (4, .int x4), (5, .int r7.1), (6, .int (iI 0))]) [2, 3, 4, 5, 6, 1, 0] rfl ?_
      obtain ⟨r14, hi, h⟩ := bind_some h
      have hE : (fun u48 : Int32 × Hp => R G MX9_least 97 [(0, .ref x0), (1, .int x1), (5, .int u48.1)] [] u48.2 (some (.int w.1), w.2)) r14 → ∀ (q5 : Int32) (q6 : Int32) (qs : Hp), iter (fX9_least_l48 x0 x1 x2 x3 x4) FU (q5, q6, qs) = some r14 → R G MX9_least 48 [(0, .ref x0), (1, .int x1), (2, .int x2), (3, .int x3), (4, .int x4), (5, .int q5), (6, .int q6)] [] qs (some (.int w.1), w.2) := fun hX q5 q6 qs hj => loop_R (fX9_least_l48 x0 x1 x2 x3 x4) (fun p48 : Int32 × Int32 × Hp => R G MX9_least 48 [(0, .ref x0), (1, .int x1), (2, .int x2), (3, .int x3), (4, .int x4), (5, .int p48.1), (6, .int p48.2.1)] [] p48.2.2 (some (.int w.1), w.2)) (fun u48 : Int32 × Hp => R G MX9_least 97 [(0, .ref x0), (1, .int x1), (5, .int u48.1)] [] u48.2 (some (.int w.1), w.2)) (fun a w hw hc he => tX9_least_l48 hw (fun q5 q6 qs e => hc (q5, q6, qs) e) (fun q5 qs e => he (q5, qs) e)) FU (q5, q6, qs) r14 hj hX
      refine hE ?_ _ _ _ hi
      clear hE hi
      refine R_iload DX9_least_97 2 rfl ?_
      refine R_constI DX9_least_99 ci_m1 ?_
      by_cases c15 : r14.1 = (iI (-1))
      · replace h := if_t h c15
        refine R_icmp_ne_f DX9_least_100 c15 ?_
        refine R_constI DX9_least_103 ci_m1 ?_
        refine R_goto DX9_least_104 ?_
        cases h
        exact R_ireturn rfl DX9_least_121
      · replace h := if_f h c15
        refine R_icmp_ne_t DX9_least_100 c15 ?_
        refine R_aload DX9_least_107 0 rfl ?_
        obtain ⟨v16, ev16, h⟩ := bind_some h
        refine R_gR DX9_least_108 fl_RX9_43 ev16 ?_
        refine R_constI DX9_least_111 ci_6 ?_
        refine R_iload DX9_least_113 1 rfl ?_
        refine R_imul DX9_least_114 ?_
        refine R_constI DX9_least_115 ci_3 ?_
        refine R_iadd DX9_least_116 ?_
        obtain ⟨v17, ev17, h⟩ := bind_some h
        refine R_aI DX9_least_117 ev17 ?_
        refine R_iload DX9_least_118 2 rfl ?_
        refine R_isub DX9_least_120 ?_
        cases h
        exact R_ireturn rfl DX9_least_121
set_option maxRecDepth 8000 in
theorem tX9_soonestOf_l11 {G : Gm} {x0 : Nat} {x2 : Int32} {x3 : Int32} {x4 : Int32} {o : Option Value × Hp} {a : Int32 × Hp} {w : (Int32 × Hp) ⊕ ((Hp) ⊕ (Int32 × Hp))} (h : fX9_soonestOf_l11 x0 x2 x3 x4 a = some w) (hc : ∀ (q5 : Int32) (qs : Hp), w = .inl (q5, qs) → R G MX9_soonestOf 11 [(0, .ref x0), (2, .int x2), (3, .int x3), (4, .int x4), (5, .int q5)] [] qs o) (he0 : ∀ (qs : Hp), w = .inr (.inl qs) → R G MX9_soonestOf 49 [] [] qs o) (he1 : ∀ (q5 : Int32) (qs : Hp), w = .inr (.inr (q5, qs)) → R G MX9_soonestOf 40 [(5, .int q5)] [] qs o) : R G MX9_soonestOf 11 [(0, .ref x0), (2, .int x2), (3, .int x3), (4, .int x4), (5, .int a.1)] [] a.2 o := by
  unfold fX9_soonestOf_l11 at h
  refine R_iload DX9_soonestOf_11 4 rfl ?_
  refine R_aload DX9_soonestOf_13 0 rfl ?_
  obtain ⟨v2, ev2, h⟩ := bind_some h
  refine R_gR DX9_soonestOf_14 fl_RX9_34 ev2 ?_
  refine R_constI DX9_soonestOf_17 ci_3 ?_
  obtain ⟨v3, ev3, h⟩ := bind_some h
  refine R_aI DX9_soonestOf_18 ev3 ?_
  by_cases c4 : v3 ≤ a.1
  · replace h := if_t h c4
    refine R_icmp_ge_t DX9_soonestOf_19 c4 ?_
    refine R.sub (L' := []) [] rfl ?_
    cases h
    exact he0 _ rfl
  · replace h := if_f h c4
    refine R_icmp_ge_f DX9_soonestOf_19 c4 ?_
    refine R_aload DX9_soonestOf_22 0 rfl ?_
    refine R_iload DX9_soonestOf_23 4 rfl ?_
    obtain ⟨s5, es5, h⟩ := bind_some h
    refine R_cV0 [.int a.1] DX9_soonestOf_25 kzvX9_hourFree ml_RX9_464 ⟨Nat.le_of_ble_eq_true rfl, Nat.le_of_ble_eq_true rfl⟩ rfl (Nat.le_of_ble_eq_true rfl) (kX9_hourFree es5) ?_
    refine R_aload DX9_soonestOf_28 0 rfl ?_
    refine R_iload DX9_soonestOf_29 1 rfl ?_
    refine R_iload DX9_soonestOf_30 2 rfl ?_
    refine R_iload DX9_soonestOf_31 3 rfl ?_
    obtain ⟨r6, er6, h⟩ := bind_some h
    refine R_cV1 [.int x2, .int x3, .int x4] DX9_soonestOf_33 kzvX9_mostLeft ml_RX9_461 ⟨Nat.le_of_ble_eq_true rfl, Nat.le_of_ble_eq_true rfl⟩ rfl (Nat.le_of_ble_eq_true rfl) (kX9_mostLeft er6) ?_
    refine R_constI DX9_soonestOf_36 ci_m1 ?_
    by_cases c7 : r6.1 = (iI (-1))
    · replace h := if_t h c7
      refine R_icmp_eq_t DX9_soonestOf_37 c7 ?_
      refine R_iinc [(5, .int (a.1 + iI 1)), (0, .ref x0), (2, .int x2), (3, .int x3), (4, .int x4)] DX9_soonestOf_43 4 rfl (v := a.1 + iI 1) (by rfl) (by decide) rfl ?_
      refine R_goto DX9_soonestOf_46 ?_
      refine R.sub (L' := [(0, .ref x0), (2, .int x2), (3, .int x3), (4, .int x4), (5, .int (a.1 + iI 1))]) [1, 2, 3, 4, 0] rfl ?_
      cases h
      exact hc _ _ rfl
    · replace h := if_f h c7
      refine R_icmp_eq_f DX9_soonestOf_37 c7 ?_
      refine R.sub (L' := [(5, .int a.1)]) [4] rfl ?_
      cases h
      exact he1 _ _ rfl
set_option maxRecDepth 8000 in
theorem kX9_soonestOf {G : Gm} {x0 : Nat} {x1 : Int32} {x2 : Int32} {x3 : Int32} {x4 : Int32} {s : Hp} {w : Int32 × Hp} (h : fX9_soonestOf x0 x1 x2 x3 x4 s = some w) : (s.2.2 x0).1 = 9 ∧ Call G MX9_soonestOf [.ref x0, .int x1, .int x2, .int x3, .int x4] s (some (.int w.1), w.2) := by
  unfold fX9_soonestOf at h
  obtain ⟨_, e0, h⟩ := bind_some h
  refine ⟨ck_some e0, Call.of_R pnRX9 (Nat.le_of_ble_eq_true rfl) ?_⟩
  clear e0
  show R G MX9_soonestOf 0 [(0, .ref x0), (1, .int x1), (2, .int x2), (3, .int x3), (4, .int x4)] [] s (some (.int w.1), w.2)
  refine R_aload DX9_soonestOf_0 0 rfl ?_
  refine R_iload DX9_soonestOf_1 1 rfl ?_
  refine R_constI DX9_soonestOf_2 ci_9 ?_
  refine R_constI DX9_soonestOf_4 ci_0 ?_
  obtain ⟨s1, es1, h⟩ := bind_some h
  refine R_cV0 [.int x1, .int (iI 9), .int (iI 0)] DX9_soonestOf_5 kzvX9_starts ml_RX9_458 ⟨Nat.le_of_ble_eq_true rfl, Nat.le_of_ble_eq_true rfl⟩ rfl (Nat.le_of_ble_eq_true rfl) (kX9_starts es1) ?_
  refine R_constI DX9_soonestOf_8 ci_0 ?_
  refine R_istore [(5, .int (iI 0)), (0, .ref x0), (1, .int x1), (2, .int x2), (3, .int x3), (4, .int x4)] DX9_soonestOf_9 (by decide) rfl ?_
  refine R.sub (L' := [(0, .ref x0), (2, .int x2), (3, .int x3), (4, .int x4), (5, .int (iI 0))]) [1, 3, 4, 5, 0] rfl ?_
  obtain ⟨r8, hi, h⟩ := bind_some h
  have hE : (Sum.elim (fun u11 : Hp => R G MX9_soonestOf 49 [] [] u11 (some (.int w.1), w.2)) (fun u11 : Int32 × Hp => R G MX9_soonestOf 40 [(5, .int u11.1)] [] u11.2 (some (.int w.1), w.2))) r8 → ∀ (q5 : Int32) (qs : Hp), iter (fX9_soonestOf_l11 x0 x2 x3 x4) FU (q5, qs) = some r8 → R G MX9_soonestOf 11 [(0, .ref x0), (2, .int x2), (3, .int x3), (4, .int x4), (5, .int q5)] [] qs (some (.int w.1), w.2) := fun hX q5 qs hj => loop_R (fX9_soonestOf_l11 x0 x2 x3 x4) (fun p11 : Int32 × Hp => R G MX9_soonestOf 11 [(0, .ref x0), (2, .int x2), (3, .int x3), (4, .int x4), (5, .int p11.1)] [] p11.2 (some (.int w.1), w.2)) (Sum.elim (fun u11 : Hp => R G MX9_soonestOf 49 [] [] u11 (some (.int w.1), w.2)) (fun u11 : Int32 × Hp => R G MX9_soonestOf 40 [(5, .int u11.1)] [] u11.2 (some (.int w.1), w.2))) (fun a w hw hc he => tX9_soonestOf_l11 hw (fun q5 qs e => hc (q5, qs) e) (fun qs e => he (.inl qs) e) (fun q5 qs e => he (.inr (q5, qs)) e)) FU (q5, qs) r8 hj hX
  refine hE ?_ _ _ hi
  clear hE hi
  rcases r8 with r8a | r8b
  · replace h := el_l h
    refine R_constI DX9_soonestOf_49 ci_m1 ?_
    cases h
    exact R_ireturn rfl DX9_soonestOf_50
  replace h := el_r h
  refine R_iload DX9_soonestOf_40 0 rfl ?_
  cases h
  exact R_ireturn rfl DX9_soonestOf_42
set_option maxRecDepth 8000 in
theorem tX9_soonest_b36 {G : Gm} {s : Hp} {w : Int32 × Hp} (h : fX9_soonest_b36 s = some w) : R G MX9_soonest 36 [] [] s (some (.int w.1), w.2) := by
  unfold fX9_soonest_b36 at h
  refine R_constI DX9_soonest_36 ci_m2 ?_
  cases h
  exact R_ireturn rfl DX9_soonest_38
set_option maxRecDepth 8000 in
theorem kX9_soonest {G : Gm} {x0 : Nat} {x1 : Int32} {x2 : Int32} {x3 : Int32} {x4 : Int32} {s : Hp} {w : Int32 × Hp} (h : fX9_soonest x0 x1 x2 x3 x4 s = some w) : (s.2.2 x0).1 = 9 ∧ Call G MX9_soonest [.ref x0, .int x1, .int x2, .int x3, .int x4] s (some (.int w.1), w.2) := by
  unfold fX9_soonest at h
  obtain ⟨_, e0, h⟩ := bind_some h
  refine ⟨ck_some e0, Call.of_R pnRX9 (Nat.le_of_ble_eq_true rfl) ?_⟩
  clear e0
  show R G MX9_soonest 0 [(0, .ref x0), (1, .int x1), (2, .int x2), (3, .int x3), (4, .int x4)] [] s (some (.int w.1), w.2)
  refine R_aload DX9_soonest_0 0 rfl ?_
  refine R_constI DX9_soonest_1 ci_0 ?_
  obtain ⟨s1, es1, h⟩ := bind_some h
  refine R_pI DX9_soonest_2 fl_RX9_92 es1 ?_
  refine R_aload DX9_soonest_5 0 rfl ?_
  refine R_iload DX9_soonest_6 1 rfl ?_
  obtain ⟨r2, er2, h⟩ := bind_some h
  refine R_cV1 [.int x1] DX9_soonest_7 kzvX9_isShop ml_RX9_314 ⟨Nat.le_of_ble_eq_true rfl, Nat.le_of_ble_eq_true rfl⟩ rfl (Nat.le_of_ble_eq_true rfl) (kX9_isShop er2) ?_
  by_cases c3 : r2.1 = 0
  · replace h := if_t h c3
    refine R_if_eq_t DX9_soonest_10 c3 ?_
    refine R.sub (L' := []) [] rfl ?_
    exact tX9_soonest_b36 h
  · replace h := if_f h c3
    refine R_if_eq_f DX9_soonest_10 c3 ?_
    refine R_aload DX9_soonest_13 0 rfl ?_
    refine R_iload DX9_soonest_14 2 rfl ?_
    refine R_iload DX9_soonest_15 3 rfl ?_
    refine R_iload DX9_soonest_16 4 rfl ?_
    obtain ⟨r4, er4, h⟩ := bind_some h
    refine R_cV1 [.int x2, .int x3, .int x4] DX9_soonest_18 kzvX9_isCell ml_RX9_455 ⟨Nat.le_of_ble_eq_true rfl, Nat.le_of_ble_eq_true rfl⟩ rfl (Nat.le_of_ble_eq_true rfl) (kX9_isCell er4) ?_
    by_cases c5 : r4.1 = 0
    · replace h := if_t h c5
      refine R_if_eq_t DX9_soonest_21 c5 ?_
      refine R.sub (L' := []) [] rfl ?_
      exact tX9_soonest_b36 h
    · replace h := if_f h c5
      refine R_if_eq_f DX9_soonest_21 c5 ?_
      refine R_aload DX9_soonest_24 0 rfl ?_
      refine R_iload DX9_soonest_25 1 rfl ?_
      refine R_iload DX9_soonest_26 2 rfl ?_
      refine R_iload DX9_soonest_27 3 rfl ?_
      refine R_iload DX9_soonest_28 4 rfl ?_
      obtain ⟨r6, er6, h⟩ := bind_some h
      refine R_cV1 [.int x1, .int x2, .int x3, .int x4] DX9_soonest_30 kzvX9_soonestOf ml_RX9_467 ⟨Nat.le_of_ble_eq_true rfl, Nat.le_of_ble_eq_true rfl⟩ rfl (Nat.le_of_ble_eq_true rfl) (kX9_soonestOf er6) ?_
      refine R_goto DX9_soonest_33 ?_
      cases h
      exact R_ireturn rfl DX9_soonest_38
set_option maxRecDepth 8000 in
theorem tX9_actOf_l52 {G : Gm} {x0 : Nat} {x1 : Int32} {x2 : Int32} {x3 : Int32} {x4 : Int32} {x5 : Int32} {x6 : Int32} {x7 : Int32} {x8 : Int32} {o : Option Value × Hp} {a : Int32 × Hp} {w : (Int32 × Hp) ⊕ ((Hp))} (h : fX9_actOf_l52 x0 x1 x2 x3 x4 x5 x6 x7 x8 a = some w) (hc : ∀ (q9 : Int32) (qs : Hp), w = .inl (q9, qs) → R G MX9_actOf 52 [(0, .ref x0), (1, .int x1), (2, .int x2), (3, .int x3), (4, .int x4), (5, .int x5), (6, .int x6), (7, .int x7), (8, .int x8), (9, .int q9)] [] qs o) (he0 : ∀ (qs : Hp), w = .inr qs → R G MX9_actOf 70 [(0, .ref x0), (1, .int x1), (2, .int x2), (3, .int x3), (4, .int x4), (5, .int x5), (6, .int x6), (7, .int x7), (8, .int x8)] [] qs o) : R G MX9_actOf 52 [(0, .ref x0), (1, .int x1), (2, .int x2), (3, .int x3), (4, .int x4), (5, .int x5), (6, .int x6), (7, .int x7), (8, .int x8), (9, .int a.1)] [] a.2 o := by
  unfold fX9_actOf_l52 at h
  refine R_iload DX9_actOf_52 9 rfl ?_
  refine R_iload DX9_actOf_54 3 rfl ?_
  by_cases c11 : x3 < a.1
  · replace h := if_t h c11
    refine R_icmp_gt_t DX9_actOf_55 c11 ?_
    refine R.sub (L' := [(0, .ref x0), (1, .int x1), (2, .int x2), (3, .int x3), (4, .int x4), (5, .int x5), (6, .int x6), (7, .int x7), (8, .int x8)]) [0, 1, 2, 3, 4, 5, 6, 7, 8] rfl ?_
    cases h
    exact he0 _ rfl
  · replace h := if_f h c11
    refine R_icmp_gt_f DX9_actOf_55 c11 ?_
    refine R_aload DX9_actOf_58 0 rfl ?_
    refine R_iload DX9_actOf_59 9 rfl ?_
    obtain ⟨s12, es12, h⟩ := bind_some h
    refine R_cV0 [.int a.1] DX9_actOf_61 kzvX9_hourFree ml_RX9_464 ⟨Nat.le_of_ble_eq_true rfl, Nat.le_of_ble_eq_true rfl⟩ rfl (Nat.le_of_ble_eq_true rfl) (kX9_hourFree es12) ?_
    refine R_iinc [(9, .int (a.1 + iI 1)), (0, .ref x0), (1, .int x1), (2, .int x2), (3, .int x3), (4, .int x4), (5, .int x5), (6, .int x6), (7, .int x7), (8, .int x8)] DX9_actOf_64 9 rfl (v := a.1 + iI 1) (by rfl) (by decide) rfl ?_
    refine R_goto DX9_actOf_67 ?_
    refine R.sub (L' := [(0, .ref x0), (1, .int x1), (2, .int x2), (3, .int x3), (4, .int x4), (5, .int x5), (6, .int x6), (7, .int x7), (8, .int x8), (9, .int (a.1 + iI 1))]) [1, 2, 3, 4, 5, 6, 7, 8, 9, 0] rfl ?_
    cases h
    exact hc _ _ rfl
set_option maxRecDepth 8000 in
theorem tX9_actOf_b88 {G : Gm} {x0 : Nat} {x1 : Int32} {x2 : Int32} {x3 : Int32} {x4 : Int32} {x5 : Int32} {x6 : Int32} {x7 : Int32} {x8 : Int32} {s : Hp} {o : Option Value × Hp} {w : (Int32 × Hp) ⊕ ((Hp) ⊕ (Int32 × Hp))} (h : fX9_actOf_b88 x0 x1 x2 x3 x4 x5 x6 x7 x8 s = some w) (hc : ∀ (q8 : Int32) (qs : Hp), w = .inl (q8, qs) → R G MX9_actOf 3 [(0, .ref x0), (1, .int x1), (2, .int x2), (3, .int x3), (4, .int x4), (5, .int x5), (6, .int x6), (7, .int x7), (8, .int q8)] [] qs o) (he0 : ∀ (qs : Hp), w = .inr (.inl qs) → R G MX9_actOf 94 [] [] qs o) (he1 : ∀ (q8 : Int32) (qs : Hp), w = .inr (.inr (q8, qs)) → R G MX9_actOf 85 [(8, .int q8)] [] qs o) : R G MX9_actOf 88 [(0, .ref x0), (1, .int x1), (2, .int x2), (3, .int x3), (4, .int x4), (5, .int x5), (6, .int x6), (7, .int x7), (8, .int x8)] [] s o := by
  unfold fX9_actOf_b88 at h
  refine R_iinc [(8, .int (x8 + iI 1)), (0, .ref x0), (1, .int x1), (2, .int x2), (3, .int x3), (4, .int x4), (5, .int x5), (6, .int x6), (7, .int x7)] DX9_actOf_88 8 rfl (v := x8 + iI 1) (by rfl) (by decide) rfl ?_
  refine R_goto DX9_actOf_91 ?_
  refine R.sub (L' := [(0, .ref x0), (1, .int x1), (2, .int x2), (3, .int x3), (4, .int x4), (5, .int x5), (6, .int x6), (7, .int x7), (8, .int (x8 + iI 1))]) [1, 2, 3, 4, 5, 6, 7, 8, 0] rfl ?_
  cases h
  exact hc _ _ rfl
set_option maxRecDepth 8000 in
theorem tX9_actOf_l3 {G : Gm} {x0 : Nat} {x1 : Int32} {x2 : Int32} {x3 : Int32} {x4 : Int32} {x5 : Int32} {x6 : Int32} {x7 : Int32} {o : Option Value × Hp} {a : Int32 × Hp} {w : (Int32 × Hp) ⊕ ((Hp) ⊕ (Int32 × Hp))} (h : fX9_actOf_l3 x0 x1 x2 x3 x4 x5 x6 x7 a = some w) (hc : ∀ (q8 : Int32) (qs : Hp), w = .inl (q8, qs) → R G MX9_actOf 3 [(0, .ref x0), (1, .int x1), (2, .int x2), (3, .int x3), (4, .int x4), (5, .int x5), (6, .int x6), (7, .int x7), (8, .int q8)] [] qs o) (he0 : ∀ (qs : Hp), w = .inr (.inl qs) → R G MX9_actOf 94 [] [] qs o) (he1 : ∀ (q8 : Int32) (qs : Hp), w = .inr (.inr (q8, qs)) → R G MX9_actOf 85 [(8, .int q8)] [] qs o) : R G MX9_actOf 3 [(0, .ref x0), (1, .int x1), (2, .int x2), (3, .int x3), (4, .int x4), (5, .int x5), (6, .int x6), (7, .int x7), (8, .int a.1)] [] a.2 o := by
  unfold fX9_actOf_l3 at h
  refine R_iload DX9_actOf_3 8 rfl ?_
  refine R_constI DX9_actOf_5 ci_2 ?_
  by_cases c1 : (iI 2) ≤ a.1
  · replace h := if_t h c1
    refine R_icmp_ge_t DX9_actOf_6 c1 ?_
    refine R.sub (L' := []) [] rfl ?_
    cases h
    exact he0 _ rfl
  · replace h := if_f h c1
    refine R_icmp_ge_f DX9_actOf_6 c1 ?_
    refine R_aload DX9_actOf_9 0 rfl ?_
    refine R_iload DX9_actOf_10 1 rfl ?_
    obtain ⟨s2, es2, h⟩ := bind_some h
    refine R_cV0 [.int x1] DX9_actOf_11 kzvX9_reads_ ml_RX9_446 ⟨Nat.le_of_ble_eq_true rfl, Nat.le_of_ble_eq_true rfl⟩ rfl (Nat.le_of_ble_eq_true rfl) (kX9_reads_ es2) ?_
    refine R_aload DX9_actOf_14 0 rfl ?_
    refine R_iload DX9_actOf_15 8 rfl ?_
    refine R_iload DX9_actOf_17 2 rfl ?_
    obtain ⟨r3, er3, h⟩ := bind_some h
    refine R_cV1 [.int a.1, .int x2] DX9_actOf_18 kzvX9_acts ml_RX9_448 ⟨Nat.le_of_ble_eq_true rfl, Nat.le_of_ble_eq_true rfl⟩ rfl (Nat.le_of_ble_eq_true rfl) (kX9_acts er3) ?_
    by_cases c4 : r3.1 = 0
    · replace h := if_t h c4
      refine R_if_ne_f DX9_actOf_21 c4 ?_
      refine R_goto DX9_actOf_24 ?_
      exact tX9_actOf_b88 h hc he0 he1
    · replace h := if_f h c4
      refine R_if_ne_t DX9_actOf_21 c4 ?_
      refine R_aload DX9_actOf_27 0 rfl ?_
      refine R_constI DX9_actOf_28 ci_0 ?_
      obtain ⟨s5, es5, h⟩ := bind_some h
      refine R_pI DX9_actOf_29 fl_RX9_420 es5 ?_
      refine R_aload DX9_actOf_32 0 rfl ?_
      obtain ⟨v6, ev6, h⟩ := bind_some h
      refine R_gR DX9_actOf_33 fl_RX9_77 ev6 ?_
      obtain ⟨s7, es7, h⟩ := bind_some h
      refine R_cS0 [.ref v6] DX9_actOf_36 kzsX9_empties ml_RX9_432 ⟨Nat.le_of_ble_eq_true rfl, Nat.le_of_ble_eq_true rfl⟩ rfl (Nat.le_of_ble_eq_true rfl) (kX9_empties es7) ?_
      refine R_aload DX9_actOf_39 0 rfl ?_
      refine R_aload DX9_actOf_40 0 rfl ?_
      obtain ⟨v8, ev8, h⟩ := bind_some h
      refine R_gR DX9_actOf_41 fl_RX9_77 ev8 ?_
      obtain ⟨s9, es9, h⟩ := bind_some h
      refine R_cV0 [.ref v8] DX9_actOf_44 kzvX9_puts ml_RX9_439 ⟨Nat.le_of_ble_eq_true rfl, Nat.le_of_ble_eq_true rfl⟩ rfl (Nat.le_of_ble_eq_true rfl) (kX9_puts es9) ?_
      refine R_iload DX9_actOf_47 2 rfl ?_
      refine R_constI DX9_actOf_48 ci_1 ?_
      refine R_iadd DX9_actOf_49 ?_
      obtain ⟨z10, ez10, h⟩ := lt_some h
      refine R_istoreE ez10 [(9, .int z10), (0, .ref x0), (1, .int x1), (2, .int x2), (3, .int x3), (4, .int x4), (5, .int x5), (6, .int x6), (7, .int x7), (8, .int a.1)] DX9_actOf_50 (by decide) rfl ?_
      refine R.sub (L' := [(0, .ref x0), (1, .int x1), (2, .int x2), (3, .int x3), (4, .int x4), (5, .int x5), (6, .int x6), (7, .int x7), (8, .int a.1), (9, .int z10)]) [1, 2, 3, 4, 5, 6, 7, 8, 9, 0] rfl ?_
      obtain ⟨r13, hi, h⟩ := bind_some h
      have hE : (fun u52 : Hp => R G MX9_actOf 70 [(0, .ref x0), (1, .int x1), (2, .int x2), (3, .int x3), (4, .int x4), (5, .int x5), (6, .int x6), (7, .int x7), (8, .int a.1)] [] u52 o) r13 → ∀ (q9 : Int32) (qs : Hp), iter (fX9_actOf_l52 x0 x1 x2 x3 x4 x5 x6 x7 a.1) FU (q9, qs) = some r13 → R G MX9_actOf 52 [(0, .ref x0), (1, .int x1), (2, .int x2), (3, .int x3), (4, .int x4), (5, .int x5), (6, .int x6), (7, .int x7), (8, .int a.1), (9, .int q9)] [] qs o := fun hX q9 qs hj => loop_R (fX9_actOf_l52 x0 x1 x2 x3 x4 x5 x6 x7 a.1) (fun p52 : Int32 × Hp => R G MX9_actOf 52 [(0, .ref x0), (1, .int x1), (2, .int x2), (3, .int x3), (4, .int x4), (5, .int x5), (6, .int x6), (7, .int x7), (8, .int a.1), (9, .int p52.1)] [] p52.2 o) (fun u52 : Hp => R G MX9_actOf 70 [(0, .ref x0), (1, .int x1), (2, .int x2), (3, .int x3), (4, .int x4), (5, .int x5), (6, .int x6), (7, .int x7), (8, .int a.1)] [] u52 o) (fun a w hw hc he => tX9_actOf_l52 hw (fun q9 qs e => hc (q9, qs) e) (fun qs e => he qs e)) FU (q9, qs) r13 hj hX
      refine hE ?_ _ _ hi
      clear hE hi
      refine R_aload DX9_actOf_70 0 rfl ?_
      refine R_iload DX9_actOf_71 4 rfl ?_
      refine R_iload DX9_actOf_73 5 rfl ?_
      refine R_iload DX9_actOf_75 6 rfl ?_
      obtain ⟨r14, er14, h⟩ := bind_some h
      refine R_cV1 [.int x4, .int x5, .int x6] DX9_actOf_77 kzvX9_mostLeft ml_RX9_461 ⟨Nat.le_of_ble_eq_true rfl, Nat.le_of_ble_eq_true rfl⟩ rfl (Nat.le_of_ble_eq_true rfl) (kX9_mostLeft er14) ?_
      refine R_iload DX9_actOf_80 7 rfl ?_
      by_cases c15 : r14.1 < x7
      · replace h := if_t h c15
        refine R_icmp_lt_t DX9_actOf_82 c15 ?_
        exact tX9_actOf_b88 h hc he0 he1
      · replace h := if_f h c15
        refine R_icmp_lt_f DX9_actOf_82 c15 ?_
        refine R.sub (L' := [(8, .int a.1)]) [8] rfl ?_
        cases h
        exact he1 _ _ rfl
set_option maxRecDepth 8000 in
theorem kX9_actOf {G : Gm} {x0 : Nat} {x1 : Int32} {x2 : Int32} {x3 : Int32} {x4 : Int32} {x5 : Int32} {x6 : Int32} {x7 : Int32} {s : Hp} {w : Int32 × Hp} (h : fX9_actOf x0 x1 x2 x3 x4 x5 x6 x7 s = some w) : (s.2.2 x0).1 = 9 ∧ Call G MX9_actOf [.ref x0, .int x1, .int x2, .int x3, .int x4, .int x5, .int x6, .int x7] s (some (.int w.1), w.2) := by
  unfold fX9_actOf at h
  obtain ⟨_, e0, h⟩ := bind_some h
  refine ⟨ck_some e0, Call.of_R pnRX9 (Nat.le_of_ble_eq_true rfl) ?_⟩
  clear e0
  show R G MX9_actOf 0 [(0, .ref x0), (1, .int x1), (2, .int x2), (3, .int x3), (4, .int x4), (5, .int x5), (6, .int x6), (7, .int x7)] [] s (some (.int w.1), w.2)
  refine R_constI DX9_actOf_0 ci_0 ?_
  refine R_istore [(8, .int (iI 0)), (0, .ref x0), (1, .int x1), (2, .int x2), (3, .int x3), (4, .int x4), (5, .int x5), (6, .int x6), (7, .int x7)] DX9_actOf_1 (by decide) rfl ?_
  refine R.sub (L' := [(0, .ref x0), (1, .int x1), (2, .int x2), (3, .int x3), (4, .int x4), (5, .int x5), (6, .int x6), (7, .int x7), (8, .int (iI 0))]) [1, 2, 3, 4, 5, 6, 7, 8, 0] rfl ?_
  obtain ⟨r16, hi, h⟩ := bind_some h
  have hE : (Sum.elim (fun u3 : Hp => R G MX9_actOf 94 [] [] u3 (some (.int w.1), w.2)) (fun u3 : Int32 × Hp => R G MX9_actOf 85 [(8, .int u3.1)] [] u3.2 (some (.int w.1), w.2))) r16 → ∀ (q8 : Int32) (qs : Hp), iter (fX9_actOf_l3 x0 x1 x2 x3 x4 x5 x6 x7) FU (q8, qs) = some r16 → R G MX9_actOf 3 [(0, .ref x0), (1, .int x1), (2, .int x2), (3, .int x3), (4, .int x4), (5, .int x5), (6, .int x6), (7, .int x7), (8, .int q8)] [] qs (some (.int w.1), w.2) := fun hX q8 qs hj => loop_R (fX9_actOf_l3 x0 x1 x2 x3 x4 x5 x6 x7) (fun p3 : Int32 × Hp => R G MX9_actOf 3 [(0, .ref x0), (1, .int x1), (2, .int x2), (3, .int x3), (4, .int x4), (5, .int x5), (6, .int x6), (7, .int x7), (8, .int p3.1)] [] p3.2 (some (.int w.1), w.2)) (Sum.elim (fun u3 : Hp => R G MX9_actOf 94 [] [] u3 (some (.int w.1), w.2)) (fun u3 : Int32 × Hp => R G MX9_actOf 85 [(8, .int u3.1)] [] u3.2 (some (.int w.1), w.2))) (fun a w hw hc he => tX9_actOf_l3 hw (fun q8 qs e => hc (q8, qs) e) (fun qs e => he (.inl qs) e) (fun q8 qs e => he (.inr (q8, qs)) e)) FU (q8, qs) r16 hj hX
  refine hE ?_ _ _ hi
  clear hE hi
  rcases r16 with r16a | r16b
  · replace h := el_l h
    refine R_constI DX9_actOf_94 ci_2 ?_
    cases h
    exact R_ireturn rfl DX9_actOf_95
  replace h := el_r h
  refine R_iload DX9_actOf_85 0 rfl ?_
  cases h
  exact R_ireturn rfl DX9_actOf_87
