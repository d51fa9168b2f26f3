set_option maxRecDepth 8000 in
theorem kX0_init {G : Gm} {x0 : Nat} {s : Hp} {w : Hp} (h : fX0_init x0 s = some w) : (s.2.2 x0).1 = 0 ∧ Call G MX0_init [.ref x0] s (none, w) := by
  unfold fX0_init at h
  obtain ⟨_, e0, h⟩ := bind_some h
  refine ⟨ck_some e0, Call.of_R pnRX0 (Nat.le_of_ble_eq_true rfl) ?_⟩
  clear e0
  show R G MX0_init 0 [(0, .ref x0)] [] s (none, w)
  refine R_aload DX0_init_0 0 rfl ?_
  refine R_objInit DX0_init_1 oi_RX0_5 ⟨Nat.le_of_ble_eq_true rfl, Nat.le_of_ble_eq_true rfl⟩ ?_
  refine R_aload DX0_init_4 0 rfl ?_
  refine R_constI DX0_init_5 ci_5 ?_
  obtain ⟨s1, es1, h⟩ := bind_some h
  refine R_newa at21 aw21 DX0_init_6 es1 ?_
  obtain ⟨s2, es2, h⟩ := bind_some h
  refine R_pAF DX0_init_8 fl_RX0_11 ⟨rfl, _, rfl⟩ es2 ?_
  cases h
  exact R_return rfl DX0_init_11
set_option maxRecDepth 8000 in
theorem kX8_xOf {G : Gm} {x0 : Int32} {s : Hp} {w : Int32 × Hp} (h : fX8_xOf x0 s = some w) : Call G MX8_xOf [.int x0] s (some (.int w.1), w.2) := by
  unfold fX8_xOf at h
  refine Call.of_R pnRX8 (Nat.le_of_ble_eq_true rfl) ?_
  show R G MX8_xOf 0 [(0, .int x0)] [] s (some (.int w.1), w.2)
  refine R_iload DX8_xOf_0 0 rfl ?_
  refine R_constI DX8_xOf_1 ci_8 ?_
  obtain ⟨v1, ev1, h⟩ := bind_some h
  refine R_mI DX8_xOf_3 ev1 ?_
  cases h
  exact R_ireturn rfl DX8_xOf_4
set_option maxRecDepth 8000 in
theorem kX8_yOf {G : Gm} {x0 : Int32} {s : Hp} {w : Int32 × Hp} (h : fX8_yOf x0 s = some w) : Call G MX8_yOf [.int x0] s (some (.int w.1), w.2) := by
  unfold fX8_yOf at h
  refine Call.of_R pnRX8 (Nat.le_of_ble_eq_true rfl) ?_
  show R G MX8_yOf 0 [(0, .int x0)] [] s (some (.int w.1), w.2)
  refine R_iload DX8_yOf_0 0 rfl ?_
  refine R_constI DX8_yOf_1 ci_8 ?_
  obtain ⟨v1, ev1, h⟩ := bind_some h
  refine R_dI DX8_yOf_3 ev1 ?_
  cases h
  exact R_ireturn rfl DX8_yOf_4
set_option maxRecDepth 8000 in
theorem tX6_hasColumn_b28 {G : Gm} {s : Hp} {w : Int32 × Hp} (h : fX6_hasColumn_b28 s = some w) : R G MX6_hasColumn 28 [] [] s (some (.int w.1), w.2) := by
  unfold fX6_hasColumn_b28 at h
  refine R_constI DX6_hasColumn_28 ci_0 ?_
  cases h
  exact R_zreturn rfl DX6_hasColumn_29 (by decide)
set_option maxRecDepth 8000 in
theorem kX6_hasColumn {G : Gm} {x0 : Nat} {x1 : Int32} {x2 : Int32} {s : Hp} {w : Int32 × Hp} (h : fX6_hasColumn x0 x1 x2 s = some w) : (s.2.2 x0).1 = 6 ∧ Call G MX6_hasColumn [.ref x0, .int x1, .int x2] s (some (.int w.1), w.2) := by
  unfold fX6_hasColumn at h
  obtain ⟨_, e0, h⟩ := bind_some h
  refine ⟨ck_some e0, Call.of_R pnRX6 (Nat.le_of_ble_eq_true rfl) ?_⟩
  clear e0
  show R G MX6_hasColumn 0 [(0, .ref x0), (1, .int x1), (2, .int x2)] [] s (some (.int w.1), w.2)
  refine R_iload DX6_hasColumn_0 1 rfl ?_
  by_cases c1 : x1 < 0
  · replace h := if_t h c1
    refine R_if_lt_t DX6_hasColumn_1 c1 ?_
    refine R.sub (L' := []) [] rfl ?_
    exact tX6_hasColumn_b28 h
  · replace h := if_f h c1
    refine R_if_lt_f DX6_hasColumn_1 c1 ?_
    refine R_iload DX6_hasColumn_4 1 rfl ?_
    refine R_aload DX6_hasColumn_5 0 rfl ?_
    obtain ⟨v2, ev2, h⟩ := bind_some h
    refine R_gI DX6_hasColumn_6 fl_RX6_50 ev2 ?_
    by_cases c3 : v2 ≤ x1
    · replace h := if_t h c3
      refine R_icmp_ge_t DX6_hasColumn_9 c3 ?_
      refine R.sub (L' := []) [] rfl ?_
      exact tX6_hasColumn_b28 h
    · replace h := if_f h c3
      refine R_icmp_ge_f DX6_hasColumn_9 c3 ?_
      refine R_iload DX6_hasColumn_12 2 rfl ?_
      by_cases c4 : x2 < 0
      · replace h := if_t h c4
        refine R_if_lt_t DX6_hasColumn_13 c4 ?_
        refine R.sub (L' := []) [] rfl ?_
        exact tX6_hasColumn_b28 h
      · replace h := if_f h c4
        refine R_if_lt_f DX6_hasColumn_13 c4 ?_
        refine R_iload DX6_hasColumn_16 2 rfl ?_
        refine R_aload DX6_hasColumn_17 0 rfl ?_
        obtain ⟨v5, ev5, h⟩ := bind_some h
        refine R_gI DX6_hasColumn_18 fl_RX6_53 ev5 ?_
        by_cases c6 : v5 ≤ x2
        · replace h := if_t h c6
          refine R_icmp_ge_t DX6_hasColumn_21 c6 ?_
          refine R.sub (L' := []) [] rfl ?_
          exact tX6_hasColumn_b28 h
        · replace h := if_f h c6
          refine R_icmp_ge_f DX6_hasColumn_21 c6 ?_
          refine R_constI DX6_hasColumn_24 ci_1 ?_
          refine R_goto DX6_hasColumn_25 ?_
          cases h
          exact R_zreturn rfl DX6_hasColumn_29 (by decide)
set_option maxRecDepth 8000 in
theorem kX8_bitOf {G : Gm} {x0 : Int32} {s : Hp} {w : Int64 × Hp} (h : fX8_bitOf x0 s = some w) : Call G MX8_bitOf [.int x0] s (some (.long w.1), w.2) := by
  unfold fX8_bitOf at h
  refine Call.of_R pnRX8 (Nat.le_of_ble_eq_true rfl) ?_
  show R G MX8_bitOf 0 [(0, .int x0)] [] s (some (.long w.1), w.2)
  refine R_lconst DX8_bitOf_0 ?_
  refine R_iload DX8_bitOf_1 0 rfl ?_
  refine R_lshl DX8_bitOf_2 ?_
  cases h
  exact R_lreturn rfl DX8_bitOf_3
set_option maxRecDepth 8000 in
theorem kX8_columnOf {G : Gm} {x0 : Int32} {x1 : Int32} {s : Hp} {w : Int32 × Hp} (h : fX8_columnOf x0 x1 s = some w) : Call G MX8_columnOf [.int x0, .int x1] s (some (.int w.1), w.2) := by
  unfold fX8_columnOf at h
  refine Call.of_R pnRX8 (Nat.le_of_ble_eq_true rfl) ?_
  show R G MX8_columnOf 0 [(0, .int x0), (1, .int x1)] [] s (some (.int w.1), w.2)
  refine R_iload DX8_columnOf_0 1 rfl ?_
  refine R_constI DX8_columnOf_1 ci_8 ?_
  refine R_imul DX8_columnOf_3 ?_
  refine R_iload DX8_columnOf_4 0 rfl ?_
  refine R_iadd DX8_columnOf_5 ?_
  cases h
  exact R_ireturn rfl DX8_columnOf_6
set_option maxRecDepth 8000 in
theorem tX6_carried_b52 {G : Gm} {x0 : Nat} {x1 : Int32} {x3 : Int32} {y0 : Int32} {y1 : Int32} {s : Hp} {w : Int32 × Hp} (h : fX6_carried_b52 x0 x1 x3 y0 y1 s = some w) : R G MX6_carried 52 [(0, .ref x0), (1, .int x1), (3, .int x3)] [.int y1, .int y0] s (some (.int w.1), w.2) := by
  unfold fX6_carried_b52 at h
  refine R_isub DX6_carried_52 ?_
  obtain ⟨z8, ez8, h⟩ := lt_some h
  refine R_istoreE ez8 [(4, .int z8), (0, .ref x0), (1, .int x1), (3, .int x3)] DX6_carried_53 (by decide) rfl ?_
  refine R_aload DX6_carried_55 1 rfl ?_
  refine R_iload DX6_carried_56 3 rfl ?_
  refine R_iload DX6_carried_57 0 rfl ?_
  obtain ⟨r9, er9, h⟩ := bind_some h
  refine R_cV1 [.int x3, .int z8] DX6_carried_59 kzvX6_hasColumn ml_RX6_84 ⟨Nat.le_of_ble_eq_true rfl, Nat.le_of_ble_eq_true rfl⟩ rfl (Nat.le_of_ble_eq_true rfl) (kX6_hasColumn er9) ?_
  by_cases c10 : r9.1 = 0
  · replace h := if_t h c10
    refine R_if_eq_t DX6_carried_62 c10 ?_
    refine R_iload DX6_carried_74 2 rfl ?_
    cases h
    exact R_ireturn rfl DX6_carried_75
  · replace h := if_f h c10
    refine R_if_eq_f DX6_carried_62 c10 ?_
    refine R_iload DX6_carried_65 3 rfl ?_
    refine R_iload DX6_carried_66 0 rfl ?_
    obtain ⟨r11, er11, h⟩ := bind_some h
    refine R_cSN1 [.int x3, .int z8] DX6_carried_68 kzsX8_columnOf ml_RX6_60 ⟨Nat.le_of_ble_eq_true rfl, Nat.le_of_ble_eq_true rfl⟩ rfl (Nat.le_of_ble_eq_true rfl) (kX8_columnOf er11) ?_
    refine R_goto DX6_carried_71 ?_
    cases h
    exact R_ireturn rfl DX6_carried_75
set_option maxRecDepth 8000 in
theorem tX6_carried_b41 {G : Gm} {x0 : Nat} {x1 : Int32} {x2 : Int32} {x3 : Int32} {y0 : Int32} {y1 : Int32} {s : Hp} {w : Int32 × Hp} (h : fX6_carried_b41 x0 x1 x2 x3 y0 y1 s = some w) : R G MX6_carried 41 [(0, .ref x0), (1, .int x1), (2, .int x2), (3, .int x3)] [.int y1, .int y0] s (some (.int w.1), w.2) := by
  unfold fX6_carried_b41 at h
  refine R_iadd DX6_carried_41 ?_
  refine R_iload DX6_carried_42 2 rfl ?_
  refine R_constI DX6_carried_43 ci_1 ?_
  by_cases c7 : x2 = (iI 1)
  · replace h := if_t h c7
    refine R_icmp_ne_f DX6_carried_44 c7 ?_
    refine R_constI DX6_carried_47 ci_1 ?_
    refine R_goto DX6_carried_48 ?_
    refine R.sub (L' := [(0, .ref x0), (1, .int x1), (3, .int x3)]) [0, 1, 3] rfl ?_
    exact tX6_carried_b52 h
  · replace h := if_f h c7
    refine R_icmp_ne_t DX6_carried_44 c7 ?_
    refine R_constI DX6_carried_51 ci_0 ?_
    refine R.sub (L' := [(0, .ref x0), (1, .int x1), (3, .int x3)]) [0, 1, 3] rfl ?_
    exact tX6_carried_b52 h
set_option maxRecDepth 8000 in
theorem tX6_carried_b25 {G : Gm} {x0 : Nat} {x1 : Int32} {x2 : Int32} {y0 : Int32} {y1 : Int32} {s : Hp} {w : Int32 × Hp} (h : fX6_carried_b25 x0 x1 x2 y0 y1 s = some w) : R G MX6_carried 25 [(0, .ref x0), (1, .int x1), (2, .int x2)] [.int y1, .int y0] s (some (.int w.1), w.2) := by
  unfold fX6_carried_b25 at h
  refine R_isub DX6_carried_25 ?_
  obtain ⟨z4, ez4, h⟩ := lt_some h
  refine R_istoreE ez4 [(3, .int z4), (0, .ref x0), (1, .int x1), (2, .int x2)] DX6_carried_26 (by decide) rfl ?_
  refine R_iload DX6_carried_27 2 rfl ?_
  obtain ⟨r5, er5, h⟩ := bind_some h
  refine R_cSN1 [.int x1] DX6_carried_28 kzsX8_yOf ml_RX6_81 ⟨Nat.le_of_ble_eq_true rfl, Nat.le_of_ble_eq_true rfl⟩ rfl (Nat.le_of_ble_eq_true rfl) (kX8_yOf er5) ?_
  refine R_iload DX6_carried_31 3 rfl ?_
  refine R_constI DX6_carried_32 ci_3 ?_
  by_cases c6 : x2 = (iI 3)
  · replace h := if_t h c6
    refine R_icmp_ne_f DX6_carried_33 c6 ?_
    refine R_constI DX6_carried_36 ci_1 ?_
    refine R_goto DX6_carried_37 ?_
    refine R.sub (L' := [(0, .ref x0), (1, .int x1), (2, .int x2), (3, .int z4)]) [1, 2, 3, 0] rfl ?_
    exact tX6_carried_b41 h
  · replace h := if_f h c6
    refine R_icmp_ne_t DX6_carried_33 c6 ?_
    refine R_constI DX6_carried_40 ci_0 ?_
    refine R.sub (L' := [(0, .ref x0), (1, .int x1), (2, .int x2), (3, .int z4)]) [1, 2, 3, 0] rfl ?_
    exact tX6_carried_b41 h
set_option maxRecDepth 8000 in
theorem tX6_carried_b14 {G : Gm} {x0 : Nat} {x1 : Int32} {x2 : Int32} {y0 : Int32} {y1 : Int32} {s : Hp} {w : Int32 × Hp} (h : fX6_carried_b14 x0 x1 x2 y0 y1 s = some w) : R G MX6_carried 14 [(0, .ref x0), (1, .int x1), (2, .int x2)] [.int y1, .int y0] s (some (.int w.1), w.2) := by
  unfold fX6_carried_b14 at h
  refine R_iadd DX6_carried_14 ?_
  refine R_iload DX6_carried_15 2 rfl ?_
  refine R_constI DX6_carried_16 ci_4 ?_
  by_cases c3 : x2 = (iI 4)
  · replace h := if_t h c3
    refine R_icmp_ne_f DX6_carried_17 c3 ?_
    refine R_constI DX6_carried_20 ci_1 ?_
    refine R_goto DX6_carried_21 ?_
    exact tX6_carried_b25 h
  · replace h := if_f h c3
    refine R_icmp_ne_t DX6_carried_17 c3 ?_
    refine R_constI DX6_carried_24 ci_0 ?_
    exact tX6_carried_b25 h
set_option maxRecDepth 8000 in
theorem kX6_carried {G : Gm} {x0 : Nat} {x1 : Int32} {x2 : Int32} {s : Hp} {w : Int32 × Hp} (h : fX6_carried x0 x1 x2 s = some w) : (s.2.2 x0).1 = 6 ∧ Call G MX6_carried [.ref x0, .int x1, .int x2] s (some (.int w.1), w.2) := by
  unfold fX6_carried at h
  obtain ⟨_, e0, h⟩ := bind_some h
  refine ⟨ck_some e0, Call.of_R pnRX6 (Nat.le_of_ble_eq_true rfl) ?_⟩
  clear e0
  show R G MX6_carried 0 [(0, .ref x0), (1, .int x1), (2, .int x2)] [] s (some (.int w.1), w.2)
  refine R_iload DX6_carried_0 1 rfl ?_
  obtain ⟨r1, er1, h⟩ := bind_some h
  refine R_cSN1 [.int x1] DX6_carried_1 kzsX8_xOf ml_RX6_77 ⟨Nat.le_of_ble_eq_true rfl, Nat.le_of_ble_eq_true rfl⟩ rfl (Nat.le_of_ble_eq_true rfl) (kX8_xOf er1) ?_
  refine R_iload DX6_carried_4 2 rfl ?_
  refine R_constI DX6_carried_5 ci_2 ?_
  by_cases c2 : x2 = (iI 2)
  · replace h := if_t h c2
    refine R_icmp_ne_f DX6_carried_6 c2 ?_
    refine R_constI DX6_carried_9 ci_1 ?_
    refine R_goto DX6_carried_10 ?_
    exact tX6_carried_b14 h
  · replace h := if_f h c2
    refine R_icmp_ne_t DX6_carried_6 c2 ?_
    refine R_constI DX6_carried_13 ci_0 ?_
    exact tX6_carried_b14 h
set_option maxRecDepth 8000 in
theorem tX0_fit_l7 {G : Gm} {x0 : Nat} {x1 : Nat} {o : Option Value × Hp} {a : Int32 × Hp} {w : (Int32 × Hp) ⊕ ((Hp))} (h : fX0_fit_l7 x0 x1 a = some w) (hc : ∀ (q2 : Int32) (qs : Hp), w = .inl (q2, qs) → R G MX0_fit 7 [(0, .ref x0), (1, .ref x1), (2, .int q2)] [] qs o) (he0 : ∀ (qs : Hp), w = .inr qs → R G MX0_fit 25 [(0, .ref x0), (1, .ref x1)] [] qs o) : R G MX0_fit 7 [(0, .ref x0), (1, .ref x1), (2, .int a.1)] [] a.2 o := by
  unfold fX0_fit_l7 at h
  refine R_iload DX0_fit_7 2 rfl ?_
  refine R_constI DX0_fit_8 ci_5 ?_
  by_cases c2 : (iI 5) ≤ a.1
  · replace h := if_t h c2
    refine R_icmp_ge_t DX0_fit_9 c2 ?_
    refine R.sub (L' := [(0, .ref x0), (1, .ref x1)]) [0, 1] rfl ?_
    cases h
    exact he0 _ rfl
  · replace h := if_f h c2
    refine R_icmp_ge_f DX0_fit_9 c2 ?_
    refine R_aload DX0_fit_12 0 rfl ?_
    obtain ⟨v3, ev3, h⟩ := bind_some h
    refine R_gR DX0_fit_13 fl_RX0_11 ev3 ?_
    refine R_iload DX0_fit_16 2 rfl ?_
    refine R_lconst DX0_fit_17 ?_
    obtain ⟨s4, es4, h⟩ := bind_some h
    refine R_sL DX0_fit_18 es4 ?_
    refine R_iinc [(2, .int (a.1 + iI 1)), (0, .ref x0), (1, .ref x1)] DX0_fit_19 2 rfl (v := a.1 + iI 1) (by rfl) (by decide) rfl ?_
    refine R_goto DX0_fit_22 ?_
    refine R.sub (L' := [(0, .ref x0), (1, .ref x1), (2, .int (a.1 + iI 1))]) [1, 2, 0] rfl ?_
    cases h
    exact hc _ _ rfl
set_option maxRecDepth 8000 in
theorem tX0_fit_b105 {G : Gm} {x0 : Nat} {x1 : Nat} {x2 : Int32} {x3 : Int32} {x4 : Int32} {s : Hp} {o : Option Value × Hp} {w : (Int32 × Hp) ⊕ ((Hp))} (h : fX0_fit_b105 x0 x1 x2 x3 x4 s = some w) (hc : ∀ (q4 : Int32) (qs : Hp), w = .inl (q4, qs) → R G MX0_fit 70 [(0, .ref x0), (1, .ref x1), (2, .int x2), (3, .int x3), (4, .int q4)] [] qs o) (he0 : ∀ (qs : Hp), w = .inr qs → R G MX0_fit 111 [(0, .ref x0), (1, .ref x1), (2, .int x2)] [] qs o) : R G MX0_fit 105 [(0, .ref x0), (1, .ref x1), (2, .int x2), (3, .int x3), (4, .int x4)] [] s o := by
  unfold fX0_fit_b105 at h
  refine R_iinc [(4, .int (x4 + iI 1)), (0, .ref x0), (1, .ref x1), (2, .int x2), (3, .int x3)] DX0_fit_105 4 rfl (v := x4 + iI 1) (by rfl) (by decide) rfl ?_
  refine R_goto DX0_fit_108 ?_
  refine R.sub (L' := [(0, .ref x0), (1, .ref x1), (2, .int x2), (3, .int x3), (4, .int (x4 + iI 1))]) [1, 2, 3, 4, 0] rfl ?_
  cases h
  exact hc _ _ rfl
set_option maxRecDepth 8000 in
theorem tX0_fit_l70 {G : Gm} {x0 : Nat} {x1 : Nat} {x2 : Int32} {x3 : Int32} {o : Option Value × Hp} {a : Int32 × Hp} {w : (Int32 × Hp) ⊕ ((Hp))} (h : fX0_fit_l70 x0 x1 x2 x3 a = some w) (hc : ∀ (q4 : Int32) (qs : Hp), w = .inl (q4, qs) → R G MX0_fit 70 [(0, .ref x0), (1, .ref x1), (2, .int x2), (3, .int x3), (4, .int q4)] [] qs o) (he0 : ∀ (qs : Hp), w = .inr qs → R G MX0_fit 111 [(0, .ref x0), (1, .ref x1), (2, .int x2)] [] qs o) : R G MX0_fit 70 [(0, .ref x0), (1, .ref x1), (2, .int x2), (3, .int x3), (4, .int a.1)] [] a.2 o := by
  unfold fX0_fit_l70 at h
  refine R_iload DX0_fit_70 4 rfl ?_
  refine R_constI DX0_fit_72 ci_5 ?_
  by_cases c13 : (iI 5) ≤ a.1
  · replace h := if_t h c13
    refine R_icmp_ge_t DX0_fit_73 c13 ?_
    refine R.sub (L' := [(0, .ref x0), (1, .ref x1), (2, .int x2)]) [0, 1, 2] rfl ?_
    cases h
    exact he0 _ rfl
  · replace h := if_f h c13
    refine R_icmp_ge_f DX0_fit_73 c13 ?_
    refine R_iload DX0_fit_76 3 rfl ?_
    by_cases c14 : x3 = 0
    · replace h := if_t h c14
      refine R_if_eq_t DX0_fit_77 c14 ?_
      refine R.sub (L' := [(0, .ref x0), (1, .ref x1), (2, .int x2)]) [0, 1, 2] rfl ?_
      cases h
      exact he0 _ rfl
    · replace h := if_f h c14
      refine R_if_eq_f DX0_fit_77 c14 ?_
      refine R_aload DX0_fit_80 1 rfl ?_
      refine R_iload DX0_fit_81 2 rfl ?_
      refine R_iload DX0_fit_82 4 rfl ?_
      obtain ⟨r15, er15, h⟩ := bind_some h
      refine R_cV1 [.int x2, .int a.1] DX0_fit_84 kzvX6_carried ml_RX0_36 ⟨Nat.le_of_ble_eq_true rfl, Nat.le_of_ble_eq_true rfl⟩ rfl (Nat.le_of_ble_eq_true rfl) (kX6_carried er15) ?_
      refine R_iload DX0_fit_87 2 rfl ?_
      by_cases c16 : r15.1 = x2
      · replace h := if_t h c16
        refine R_icmp_ne_f DX0_fit_88 c16 ?_
        refine R_aload DX0_fit_91 0 rfl ?_
        obtain ⟨v17, ev17, h⟩ := bind_some h
        refine R_gR DX0_fit_92 fl_RX0_11 ev17 ?_
        refine R_iload DX0_fit_95 4 rfl ?_
        refine R_dup2 DX0_fit_97 rfl rfl ?_
        obtain ⟨v18, ev18, h⟩ := bind_some h
        refine R_aL DX0_fit_98 ev18 ?_
        refine R_iload DX0_fit_99 2 rfl ?_
        obtain ⟨r19, er19, h⟩ := bind_some h
        refine R_cSN1 [.int x2] DX0_fit_100 kzsX8_bitOf ml_RX0_32 ⟨Nat.le_of_ble_eq_true rfl, Nat.le_of_ble_eq_true rfl⟩ rfl (Nat.le_of_ble_eq_true rfl) (kX8_bitOf er19) ?_
        refine R_lor DX0_fit_103 ?_
        obtain ⟨s20, es20, h⟩ := bind_some h
        refine R_sL DX0_fit_104 es20 ?_
        exact tX0_fit_b105 h hc he0
      · replace h := if_f h c16
        refine R_icmp_ne_t DX0_fit_88 c16 ?_
        exact tX0_fit_b105 h hc he0
set_option maxRecDepth 8000 in
theorem tX0_fit_b111 {G : Gm} {x0 : Nat} {x1 : Nat} {x2 : Int32} {s : Hp} {o : Option Value × Hp} {w : (Int32 × Hp) ⊕ ((Hp))} (h : fX0_fit_b111 x0 x1 x2 s = some w) (hc : ∀ (q2 : Int32) (qs : Hp), w = .inl (q2, qs) → R G MX0_fit 27 [(0, .ref x0), (1, .ref x1), (2, .int q2)] [] qs o) (he0 : ∀ (qs : Hp), w = .inr qs → R G MX0_fit 117 [] [] qs o) : R G MX0_fit 111 [(0, .ref x0), (1, .ref x1), (2, .int x2)] [] s o := by
  unfold fX0_fit_b111 at h
  refine R_iinc [(2, .int (x2 + iI 1)), (0, .ref x0), (1, .ref x1)] DX0_fit_111 2 rfl (v := x2 + iI 1) (by rfl) (by decide) rfl ?_
  refine R_goto DX0_fit_114 ?_
  refine R.sub (L' := [(0, .ref x0), (1, .ref x1), (2, .int (x2 + iI 1))]) [1, 2, 0] rfl ?_
  cases h
  exact hc _ _ rfl
set_option maxRecDepth 8000 in
theorem tX0_fit_b63 {G : Gm} {x0 : Nat} {x1 : Nat} {x2 : Int32} {x3 : Int32} {y0 : Nat} {y1 : Int64} {y2 : Int64} {s : Hp} {o : Option Value × Hp} {w : (Int32 × Hp) ⊕ ((Hp))} (h : fX0_fit_b63 x0 x1 x2 x3 y0 y1 y2 s = some w) (hc : ∀ (q2 : Int32) (qs : Hp), w = .inl (q2, qs) → R G MX0_fit 27 [(0, .ref x0), (1, .ref x1), (2, .int q2)] [] qs o) (he0 : ∀ (qs : Hp), w = .inr qs → R G MX0_fit 117 [] [] qs o) : R G MX0_fit 63 [(0, .ref x0), (1, .ref x1), (2, .int x2), (3, .int x3)] [.long y2, .long y1, .ref y0] s o := by
  unfold fX0_fit_b63 at h
  refine R_lor DX0_fit_63 ?_
  obtain ⟨s12, es12, h⟩ := bind_some h
  refine R_pL DX0_fit_64 fl_RX0_15 es12 ?_
  refine R_constI DX0_fit_67 ci_0 ?_
  refine R_istore [(4, .int (iI 0)), (0, .ref x0), (1, .ref x1), (2, .int x2), (3, .int x3)] DX0_fit_68 (by decide) rfl ?_
  refine R.sub (L' := [(0, .ref x0), (1, .ref x1), (2, .int x2), (3, .int x3), (4, .int (iI 0))]) [1, 2, 3, 4, 0] rfl ?_
  obtain ⟨r21, hi, h⟩ := bind_some h
  have hE : (fun u70 : Hp => R G MX0_fit 111 [(0, .ref x0), (1, .ref x1), (2, .int x2)] [] u70 o) r21 → ∀ (q4 : Int32) (qs : Hp), iter (fX0_fit_l70 x0 x1 x2 x3) FU (q4, qs) = some r21 → R G MX0_fit 70 [(0, .ref x0), (1, .ref x1), (2, .int x2), (3, .int x3), (4, .int q4)] [] qs o := fun hX q4 qs hj => loop_R (fX0_fit_l70 x0 x1 x2 x3) (fun p70 : Int32 × Hp => R G MX0_fit 70 [(0, .ref x0), (1, .ref x1), (2, .int x2), (3, .int x3), (4, .int p70.1)] [] p70.2 o) (fun u70 : Hp => R G MX0_fit 111 [(0, .ref x0), (1, .ref x1), (2, .int x2)] [] u70 o) (fun a w hw hc he => tX0_fit_l70 hw (fun q4 qs e => hc (q4, qs) e) (fun qs e => he qs e)) FU (q4, qs) r21 hj hX
  refine hE ?_ _ _ hi
  clear hE hi
  exact tX0_fit_b111 h hc he0
set_option maxRecDepth 8000 in
theorem tX0_fit_l27 {G : Gm} {x0 : Nat} {x1 : Nat} {o : Option Value × Hp} {a : Int32 × Hp} {w : (Int32 × Hp) ⊕ ((Hp))} (h : fX0_fit_l27 x0 x1 a = some w) (hc : ∀ (q2 : Int32) (qs : Hp), w = .inl (q2, qs) → R G MX0_fit 27 [(0, .ref x0), (1, .ref x1), (2, .int q2)] [] qs o) (he0 : ∀ (qs : Hp), w = .inr qs → R G MX0_fit 117 [] [] qs o) : R G MX0_fit 27 [(0, .ref x0), (1, .ref x1), (2, .int a.1)] [] a.2 o := by
  unfold fX0_fit_l27 at h
  refine R_iload DX0_fit_27 2 rfl ?_
  refine R_constI DX0_fit_28 ci_64 ?_
  by_cases c6 : (iI 64) ≤ a.1
  · replace h := if_t h c6
    refine R_icmp_ge_t DX0_fit_30 c6 ?_
    refine R.sub (L' := []) [] rfl ?_
    cases h
    exact he0 _ rfl
  · replace h := if_f h c6
    refine R_icmp_ge_f DX0_fit_30 c6 ?_
    refine R_aload DX0_fit_33 1 rfl ?_
    refine R_iload DX0_fit_34 2 rfl ?_
    obtain ⟨r7, er7, h⟩ := bind_some h
    refine R_cSN1 [.int a.1] DX0_fit_35 kzsX8_xOf ml_RX0_19 ⟨Nat.le_of_ble_eq_true rfl, Nat.le_of_ble_eq_true rfl⟩ rfl (Nat.le_of_ble_eq_true rfl) (kX8_xOf er7) ?_
    refine R_iload DX0_fit_38 2 rfl ?_
    obtain ⟨r8, er8, h⟩ := bind_some h
    refine R_cSN1 [.int a.1] DX0_fit_39 kzsX8_yOf ml_RX0_23 ⟨Nat.le_of_ble_eq_true rfl, Nat.le_of_ble_eq_true rfl⟩ rfl (Nat.le_of_ble_eq_true rfl) (kX8_yOf er8) ?_
    obtain ⟨r9, er9, h⟩ := bind_some h
    refine R_cV1 [.int r7.1, .int r8.1] DX0_fit_42 kzvX6_hasColumn ml_RX0_26 ⟨Nat.le_of_ble_eq_true rfl, Nat.le_of_ble_eq_true rfl⟩ rfl (Nat.le_of_ble_eq_true rfl) (kX6_hasColumn er9) ?_
    refine R_istore [(3, .int r9.1), (0, .ref x0), (1, .ref x1), (2, .int a.1)] DX0_fit_45 (by decide) rfl ?_
    refine R_aload DX0_fit_46 1 rfl ?_
    refine R_dup DX0_fit_47 rfl ?_
    obtain ⟨v10, ev10, h⟩ := bind_some h
    refine R_gL DX0_fit_48 fl_RX0_15 ev10 ?_
    refine R_iload DX0_fit_51 0 rfl ?_
    by_cases c11 : r9.1 = 0
    · replace h := if_t h c11
      refine R_if_eq_t DX0_fit_52 c11 ?_
      refine R_lconst DX0_fit_62 ?_
      refine R.sub (L' := [(0, .ref x0), (1, .ref x1), (2, .int a.1), (3, .int r9.1)]) [1, 2, 3, 0] rfl ?_
      exact tX0_fit_b63 h hc he0
    · replace h := if_f h c11
      refine R_if_eq_f DX0_fit_52 c11 ?_
      refine R_iload DX0_fit_55 3 rfl ?_
      obtain ⟨r22, er22, h⟩ := bind_some h
      refine R_cSN1 [.int a.1] DX0_fit_56 kzsX8_bitOf ml_RX0_32 ⟨Nat.le_of_ble_eq_true rfl, Nat.le_of_ble_eq_true rfl⟩ rfl (Nat.le_of_ble_eq_true rfl) (kX8_bitOf er22) ?_
      refine R_goto DX0_fit_59 ?_
      refine R.sub (L' := [(0, .ref x0), (1, .ref x1), (2, .int a.1), (3, .int r9.1)]) [1, 2, 3, 0] rfl ?_
      exact tX0_fit_b63 h hc he0
set_option maxRecDepth 8000 in
theorem kX0_fit {G : Gm} {x0 : Nat} {x1 : Nat} {s : Hp} {w : Hp} (h : fX0_fit x0 x1 s = some w) : (s.2.2 x0).1 = 0 ∧ Call G MX0_fit [.ref x0, .ref x1] s (none, w) := by
  unfold fX0_fit at h
  obtain ⟨_, e0, h⟩ := bind_some h
  refine ⟨ck_some e0, Call.of_R pnRX0 (Nat.le_of_ble_eq_true rfl) ?_⟩
  clear e0
  show R G MX0_fit 0 [(0, .ref x0), (1, .ref x1)] [] s (none, w)
  refine R_aload DX0_fit_0 0 rfl ?_
  refine R_lconst DX0_fit_1 ?_
  obtain ⟨s1, es1, h⟩ := bind_some h
  refine R_pL DX0_fit_2 fl_RX0_15 es1 ?_
  refine R_constI DX0_fit_5 ci_0 ?_
  refine R_istore [(2, .int (iI 0)), (0, .ref x0), (1, .ref x1)] DX0_fit_6 (by decide) rfl ?_
  refine R.sub (L' := [(0, .ref x0), (1, .ref x1), (2, .int (iI 0))]) [1, 2, 0] rfl ?_
  obtain ⟨r5, hi, h⟩ := bind_some h
  have hE : (fun u7 : Hp => R G MX0_fit 25 [(0, .ref x0), (1, .ref x1)] [] u7 (none, w)) r5 → ∀ (q2 : Int32) (qs : Hp), iter (fX0_fit_l7 x0 x1) FU (q2, qs) = some r5 → R G MX0_fit 7 [(0, .ref x0), (1, .ref x1), (2, .int q2)] [] qs (none, w) := fun hX q2 qs hj => loop_R (fX0_fit_l7 x0 x1) (fun p7 : Int32 × Hp => R G MX0_fit 7 [(0, .ref x0), (1, .ref x1), (2, .int p7.1)] [] p7.2 (none, w)) (fun u7 : Hp => R G MX0_fit 25 [(0, .ref x0), (1, .ref x1)] [] u7 (none, w)) (fun a w hw hc he => tX0_fit_l7 hw (fun q2 qs e => hc (q2, qs) e) (fun qs e => he qs e)) FU (q2, qs) r5 hj hX
  refine hE ?_ _ _ hi
  clear hE hi
  refine R_constI DX0_fit_25 ci_0 ?_
  refine R_istore [(2, .int (iI 0)), (0, .ref x0), (1, .ref x1)] DX0_fit_26 (by decide) rfl ?_
  refine R.sub (L' := [(0, .ref x0), (1, .ref x1), (2, .int (iI 0))]) [1, 2, 0] rfl ?_
  obtain ⟨r23, hi, h⟩ := bind_some h
  have hE : (fun u27 : Hp => R G MX0_fit 117 [] [] u27 (none, w)) r23 → ∀ (q2 : Int32) (qs : Hp), iter (fX0_fit_l27 x0 x1) FU (q2, qs) = some r23 → R G MX0_fit 27 [(0, .ref x0), (1, .ref x1), (2, .int q2)] [] qs (none, w) := fun hX q2 qs hj => loop_R (fX0_fit_l27 x0 x1) (fun p27 : Int32 × Hp => R G MX0_fit 27 [(0, .ref x0), (1, .ref x1), (2, .int p27.1)] [] p27.2 (none, w)) (fun u27 : Hp => R G MX0_fit 117 [] [] u27 (none, w)) (fun a w hw hc he => tX0_fit_l27 hw (fun q2 qs e => hc (q2, qs) e) (fun qs e => he qs e)) FU (q2, qs) r23 hj hX
  refine hE ?_ _ _ hi
  clear hE hi
  cases h
  exact R_return rfl DX0_fit_117
set_option maxRecDepth 8000 in
theorem kX0_shifted {G : Gm} {x0 : Int64} {x2 : Int32} {s : Hp} {w : Int64 × Hp} (h : fX0_shifted x0 x2 s = some w) : Call G MX0_shifted [.long x0, .int x2] s (some (.long w.1), w.2) := by
  unfold fX0_shifted at h
  refine Call.of_R pnRX0 (Nat.le_of_ble_eq_true rfl) ?_
  show R G MX0_shifted 0 [(0, .long x0), (2, .int x2)] [] s (some (.long w.1), w.2)
  refine R_iload DX0_shifted_0 1 rfl ?_
  by_cases c1 : x2 = (iI 1)
  · replace h := if_t h c1
    refine R_tabIn (t := 32) DX0_shifted_1 (by rw [c1]; decide) (by rw [c1]; decide) (off := 31) (by rw [c1]; rfl) (by decide) ?_
    refine R_lload DX0_shifted_32 0 rfl ?_
    refine R_constI DX0_shifted_33 ci_8 ?_
    refine R_lushr DX0_shifted_35 ?_
    cases h
    exact R_lreturn rfl DX0_shifted_36
  replace h := if_f h c1
  by_cases c2 : x2 = (iI 2)
  · replace h := if_t h c2
    refine R_tabIn (t := 37) DX0_shifted_1 (by rw [c2]; decide) (by rw [c2]; decide) (off := 36) (by rw [c2]; rfl) (by decide) ?_
    refine R_lload DX0_shifted_37 0 rfl ?_
    refine R_constI DX0_shifted_38 ci_1 ?_
    refine R_lshl DX0_shifted_39 ?_
    cases h
    exact R_lreturn rfl DX0_shifted_40
  replace h := if_f h c2
  by_cases c3 : x2 = (iI 3)
  · replace h := if_t h c3
    refine R_tabIn (t := 41) DX0_shifted_1 (by rw [c3]; decide) (by rw [c3]; decide) (off := 40) (by rw [c3]; rfl) (by decide) ?_
    refine R_lload DX0_shifted_41 0 rfl ?_
    refine R_constI DX0_shifted_42 ci_8 ?_
    refine R_lshl DX0_shifted_44 ?_
    cases h
    exact R_lreturn rfl DX0_shifted_45
  replace h := if_f h c3
  by_cases c4 : x2 = (iI 4)
  · replace h := if_t h c4
    refine R_tabIn (t := 46) DX0_shifted_1 (by rw [c4]; decide) (by rw [c4]; decide) (off := 45) (by rw [c4]; rfl) (by decide) ?_
    refine R_lload DX0_shifted_46 0 rfl ?_
    refine R_constI DX0_shifted_47 ci_1 ?_
    refine R_lushr DX0_shifted_48 ?_
    cases h
    exact R_lreturn rfl DX0_shifted_49
  replace h := if_f h c4
  have hto : x2.toInt < 1 ∨ 4 < x2.toInt := by
    refine tab_out fun k h1 h2 hk => ?_
    rcases (show k = 1 ∨ k = 2 ∨ k = 3 ∨ k = 4 by omega) with rfl | rfl | rfl | rfl
    · exact c1 (Int32.toInt_inj.mp (hk.trans (by decide)))
    · exact c2 (Int32.toInt_inj.mp (hk.trans (by decide)))
    · exact c3 (Int32.toInt_inj.mp (hk.trans (by decide)))
    · exact c4 (Int32.toInt_inj.mp (hk.trans (by decide)))
  refine R_tabOut (t := 50) DX0_shifted_1 hto (by decide) ?_
  refine R_lload DX0_shifted_50 0 rfl ?_
  cases h
  exact R_lreturn rfl DX0_shifted_51
set_option maxRecDepth 8000 in
theorem kX0_carriedSet {G : Gm} {x0 : Nat} {x1 : Int64} {x3 : Int32} {s : Hp} {w : Int64 × Hp} (h : fX0_carriedSet x0 x1 x3 s = some w) : (s.2.2 x0).1 = 0 ∧ Call G MX0_carriedSet [.ref x0, .long x1, .int x3] s (some (.long w.1), w.2) := by
  unfold fX0_carriedSet at h
  obtain ⟨_, e0, h⟩ := bind_some h
  refine ⟨ck_some e0, Call.of_R pnRX0 (Nat.le_of_ble_eq_true rfl) ?_⟩
  clear e0
  show R G MX0_carriedSet 0 [(0, .ref x0), (1, .long x1), (3, .int x3)] [] s (some (.long w.1), w.2)
  refine R_lload DX0_carriedSet_0 1 rfl ?_
  refine R_aload DX0_carriedSet_1 0 rfl ?_
  obtain ⟨v1, ev1, h⟩ := bind_some h
  refine R_gR DX0_carriedSet_2 fl_RX0_11 ev1 ?_
  refine R_iload DX0_carriedSet_5 2 rfl ?_
  obtain ⟨v2, ev2, h⟩ := bind_some h
  refine R_aL DX0_carriedSet_6 ev2 ?_
  refine R_land DX0_carriedSet_7 ?_
  obtain ⟨z3, ez3, h⟩ := lt_some h
  refine R_lstoreE ez3 [(4, .long z3), (0, .ref x0), (1, .long x1), (3, .int x3)] DX0_carriedSet_8 (by decide) rfl ?_
  refine R_lload DX0_carriedSet_10 0 rfl ?_
  refine R_lload DX0_carriedSet_12 2 rfl ?_
  refine R_lload DX0_carriedSet_13 0 rfl ?_
  refine R_ldc2 DX0_carriedSet_15 cw_RX0_40 ?_
  refine R_lxor DX0_carriedSet_18 ?_
  refine R_land DX0_carriedSet_19 ?_
  refine R_iload DX0_carriedSet_20 3 rfl ?_
  obtain ⟨r4, er4, h⟩ := bind_some h
  refine R_cS1 [.long (x1 &&& (z3 ^^^ (-1))), .int x3] DX0_carriedSet_21 kzsX0_shifted ml_RX0_42 ⟨Nat.le_of_ble_eq_true rfl, Nat.le_of_ble_eq_true rfl⟩ rfl (Nat.le_of_ble_eq_true rfl) (kX0_shifted er4) ?_
  refine R_lor DX0_carriedSet_24 ?_
  cases h
  exact R_lreturn rfl DX0_carriedSet_25
set_option maxRecDepth 8000 in
theorem kX0_reverseOf {G : Gm} {x0 : Int32} {s : Hp} {w : Int32 × Hp} (h : fX0_reverseOf x0 s = some w) : Call G MX0_reverseOf [.int x0] s (some (.int w.1), w.2) := by
  unfold fX0_reverseOf at h
  refine Call.of_R pnRX0 (Nat.le_of_ble_eq_true rfl) ?_
  show R G MX0_reverseOf 0 [(0, .int x0)] [] s (some (.int w.1), w.2)
  refine R_iload DX0_reverseOf_0 0 rfl ?_
  by_cases c1 : x0 = 0
  · replace h := if_t h c1
    refine R_if_ne_f DX0_reverseOf_1 c1 ?_
    refine R_constI DX0_reverseOf_4 ci_0 ?_
    refine R_goto DX0_reverseOf_5 ?_
    cases h
    exact R_ireturn rfl DX0_reverseOf_15
  · replace h := if_f h c1
    refine R_if_ne_t DX0_reverseOf_1 c1 ?_
    refine R_iload DX0_reverseOf_8 0 rfl ?_
    refine R_constI DX0_reverseOf_9 ci_1 ?_
    refine R_iadd DX0_reverseOf_10 ?_
    refine R_constI DX0_reverseOf_11 ci_4 ?_
    obtain ⟨v2, ev2, h⟩ := bind_some h
    refine R_mI DX0_reverseOf_12 ev2 ?_
    refine R_constI DX0_reverseOf_13 ci_1 ?_
    refine R_iadd DX0_reverseOf_14 ?_
    cases h
    exact R_ireturn rfl DX0_reverseOf_15
set_option maxRecDepth 8000 in
theorem kX0_sourcesOf {G : Gm} {x0 : Nat} {x1 : Int64} {x3 : Int32} {s : Hp} {w : Int64 × Hp} (h : fX0_sourcesOf x0 x1 x3 s = some w) : (s.2.2 x0).1 = 0 ∧ Call G MX0_sourcesOf [.ref x0, .long x1, .int x3] s (some (.long w.1), w.2) := by
  unfold fX0_sourcesOf at h
  obtain ⟨_, e0, h⟩ := bind_some h
  refine ⟨ck_some e0, Call.of_R pnRX0 (Nat.le_of_ble_eq_true rfl) ?_⟩
  clear e0
  show R G MX0_sourcesOf 0 [(0, .ref x0), (1, .long x1), (3, .int x3)] [] s (some (.long w.1), w.2)
  refine R_lload DX0_sourcesOf_0 1 rfl ?_
  refine R_iload DX0_sourcesOf_1 2 rfl ?_
  obtain ⟨r1, er1, h⟩ := bind_some h
  refine R_cS1 [.int x3] DX0_sourcesOf_2 kzsX0_reverseOf ml_RX0_46 ⟨Nat.le_of_ble_eq_true rfl, Nat.le_of_ble_eq_true rfl⟩ rfl (Nat.le_of_ble_eq_true rfl) (kX0_reverseOf er1) ?_
  obtain ⟨r2, er2, h⟩ := bind_some h
  refine R_cS1 [.long x1, .int r1.1] DX0_sourcesOf_5 kzsX0_shifted ml_RX0_42 ⟨Nat.le_of_ble_eq_true rfl, Nat.le_of_ble_eq_true rfl⟩ rfl (Nat.le_of_ble_eq_true rfl) (kX0_shifted er2) ?_
  refine R_aload DX0_sourcesOf_8 0 rfl ?_
  obtain ⟨v3, ev3, h⟩ := bind_some h
  refine R_gL DX0_sourcesOf_9 fl_RX0_15 ev3 ?_
  refine R_land DX0_sourcesOf_12 ?_
  refine R_aload DX0_sourcesOf_13 0 rfl ?_
  obtain ⟨v4, ev4, h⟩ := bind_some h
  refine R_gR DX0_sourcesOf_14 fl_RX0_11 ev4 ?_
  refine R_iload DX0_sourcesOf_17 2 rfl ?_
  obtain ⟨v5, ev5, h⟩ := bind_some h
  refine R_aL DX0_sourcesOf_18 ev5 ?_
  refine R_ldc2 DX0_sourcesOf_19 cw_RX0_40 ?_
  refine R_lxor DX0_sourcesOf_22 ?_
  refine R_land DX0_sourcesOf_23 ?_
  obtain ⟨z6, ez6, h⟩ := lt_some h
  refine R_lstoreE ez6 [(4, .long z6), (0, .ref x0), (1, .long x1), (3, .int x3)] DX0_sourcesOf_24 (by decide) rfl ?_
  refine R_lload DX0_sourcesOf_26 0 rfl ?_
  refine R_lload DX0_sourcesOf_28 2 rfl ?_
  refine R_aload DX0_sourcesOf_29 1 rfl ?_
  obtain ⟨v7, ev7, h⟩ := bind_some h
  refine R_gR DX0_sourcesOf_30 fl_RX0_11 ev7 ?_
  refine R_iload DX0_sourcesOf_33 3 rfl ?_
  obtain ⟨v8, ev8, h⟩ := bind_some h
  refine R_aL DX0_sourcesOf_34 ev8 ?_
  refine R_land DX0_sourcesOf_35 ?_
  refine R_lor DX0_sourcesOf_36 ?_
  cases h
  exact R_lreturn rfl DX0_sourcesOf_37
set_option maxRecDepth 8000 in
theorem kX0_widened {G : Gm} {x0 : Int64} {s : Hp} {w : Int64 × Hp} (h : fX0_widened x0 s = some w) : Call G MX0_widened [.long x0] s (some (.long w.1), w.2) := by
  unfold fX0_widened at h
  refine Call.of_R pnRX0 (Nat.le_of_ble_eq_true rfl) ?_
  show R G MX0_widened 0 [(0, .long x0)] [] s (some (.long w.1), w.2)
  refine R_lload DX0_widened_0 0 rfl ?_
  refine R_lload DX0_widened_1 0 rfl ?_
  refine R_ldc2 DX0_widened_2 cw_RX0_49 ?_
  refine R_land DX0_widened_5 ?_
  refine R_constI DX0_widened_6 ci_1 ?_
  refine R_lshl DX0_widened_7 ?_
  refine R_lor DX0_widened_8 ?_
  refine R_lload DX0_widened_9 0 rfl ?_
  refine R_ldc2 DX0_widened_10 cw_RX0_51 ?_
  refine R_land DX0_widened_13 ?_
  refine R_constI DX0_widened_14 ci_1 ?_
  refine R_lushr DX0_widened_15 ?_
  refine R_lor DX0_widened_16 ?_
  obtain ⟨z1, ez1, h⟩ := lt_some h
  refine R_lstoreE ez1 [(2, .long z1), (0, .long x0)] DX0_widened_17 (by decide) rfl ?_
  refine R_lload DX0_widened_18 0 rfl ?_
  refine R_lload DX0_widened_19 0 rfl ?_
  refine R_constI DX0_widened_20 ci_8 ?_
  refine R_lshl DX0_widened_22 ?_
  refine R_lor DX0_widened_23 ?_
  refine R_lload DX0_widened_24 0 rfl ?_
  refine R_constI DX0_widened_25 ci_8 ?_
  refine R_lushr DX0_widened_27 ?_
  refine R_lor DX0_widened_28 ?_
  cases h
  exact R_lreturn rfl DX0_widened_29
set_option maxRecDepth 8000 in
theorem kX1_init {G : Gm} {x0 : Nat} {s : Hp} {w : Hp} (h : fX1_init x0 s = some w) : (s.2.2 x0).1 = 1 ∧ Call G MX1_init [.ref x0] s (none, w) := by
  unfold fX1_init at h
  obtain ⟨_, e0, h⟩ := bind_some h
  refine ⟨ck_some e0, Call.of_R pnRX1 (Nat.le_of_ble_eq_true rfl) ?_⟩
  clear e0
  show R G MX1_init 0 [(0, .ref x0)] [] s (none, w)
  refine R_aload DX1_init_0 0 rfl ?_
  refine R_objInit DX1_init_1 oi_RX1_3 ⟨Nat.le_of_ble_eq_true rfl, Nat.le_of_ble_eq_true rfl⟩ ?_
  refine R_aload DX1_init_4 0 rfl ?_
  refine R_constI DX1_init_5 ci_24 ?_
  obtain ⟨s1, es1, h⟩ := bind_some h
  refine R_newa at20 aw20 DX1_init_7 es1 ?_
  obtain ⟨s2, es2, h⟩ := bind_some h
  refine R_pAF DX1_init_9 fl_RX1_9 ⟨rfl, _, rfl⟩ es2 ?_
  refine R_aload DX1_init_12 0 rfl ?_
  refine R_constI DX1_init_13 ci_m1 ?_
  obtain ⟨s3, es3, h⟩ := bind_some h
  refine R_pI DX1_init_14 fl_RX1_15 es3 ?_
  cases h
  exact R_return rfl DX1_init_17
set_option maxRecDepth 8000 in
theorem kX1_take {G : Gm} {x0 : Nat} {x1 : Nat} {x2 : Nat} {s : Hp} {w : Hp} (h : fX1_take x0 x1 x2 s = some w) : (s.2.2 x0).1 = 1 ∧ Call G MX1_take [.ref x0, .ref x1, .ref x2] s (none, w) := by
  unfold fX1_take at h
  obtain ⟨_, e0, h⟩ := bind_some h
  refine ⟨ck_some e0, Call.of_R pnRX1 (Nat.le_of_ble_eq_true rfl) ?_⟩
  clear e0
  show R G MX1_take 0 [(0, .ref x0), (1, .ref x1), (2, .ref x2)] [] s (none, w)
  refine R_aload DX1_take_0 0 rfl ?_
  refine R_aload DX1_take_1 1 rfl ?_
  obtain ⟨s1, es1, h⟩ := bind_some h
  refine R_pA DX1_take_2 fl_RX1_19 es1 ?_
  refine R_aload DX1_take_5 0 rfl ?_
  refine R_aload DX1_take_6 2 rfl ?_
  obtain ⟨s2, es2, h⟩ := bind_some h
  refine R_pR DX1_take_7 fl_RX1_23 es2 ?_
  cases h
  exact R_return rfl DX1_take_10
set_option maxRecDepth 8000 in
theorem tX1_knows_b28 {G : Gm} {s : Hp} {w : Int32 × Hp} (h : fX1_knows_b28 s = some w) : R G MX1_knows 28 [] [] s (some (.int w.1), w.2) := by
  unfold fX1_knows_b28 at h
  refine R_constI DX1_knows_28 ci_0 ?_
  cases h
  exact R_zreturn rfl DX1_knows_29 (by decide)
set_option maxRecDepth 8000 in
theorem kX1_knows {G : Gm} {x0 : Nat} {x1 : Int32} {x2 : Int32} {x3 : Int32} {s : Hp} {w : Int32 × Hp} (h : fX1_knows x0 x1 x2 x3 s = some w) : (s.2.2 x0).1 = 1 ∧ Call G MX1_knows [.ref x0, .int x1, .int x2, .int x3] s (some (.int w.1), w.2) := by
  unfold fX1_knows at h
  obtain ⟨_, e0, h⟩ := bind_some h
  refine ⟨ck_some e0, Call.of_R pnRX1 (Nat.le_of_ble_eq_true rfl) ?_⟩
  clear e0
  show R G MX1_knows 0 [(0, .ref x0), (1, .int x1), (2, .int x2), (3, .int x3)] [] s (some (.int w.1), w.2)
  refine R_aload DX1_knows_0 0 rfl ?_
  obtain ⟨v1, ev1, h⟩ := bind_some h
  refine R_gI DX1_knows_1 fl_RX1_27 ev1 ?_
  refine R_iload DX1_knows_4 1 rfl ?_
  by_cases c2 : v1 = x1
  · replace h := if_t h c2
    refine R_icmp_ne_f DX1_knows_5 c2 ?_
    refine R_aload DX1_knows_8 0 rfl ?_
    obtain ⟨v3, ev3, h⟩ := bind_some h
    refine R_gI DX1_knows_9 fl_RX1_30 ev3 ?_
    refine R_iload DX1_knows_12 2 rfl ?_
    by_cases c4 : v3 = x2
    · replace h := if_t h c4
      refine R_icmp_ne_f DX1_knows_13 c4 ?_
      refine R_aload DX1_knows_16 0 rfl ?_
      obtain ⟨v5, ev5, h⟩ := bind_some h
      refine R_gI DX1_knows_17 fl_RX1_33 ev5 ?_
      refine R_iload DX1_knows_20 3 rfl ?_
      by_cases c6 : v5 = x3
      · replace h := if_t h c6
        refine R_icmp_ne_f DX1_knows_21 c6 ?_
        refine R_constI DX1_knows_24 ci_1 ?_
        refine R_goto DX1_knows_25 ?_
        cases h
        exact R_zreturn rfl DX1_knows_29 (by decide)
      · replace h := if_f h c6
        refine R_icmp_ne_t DX1_knows_21 c6 ?_
        refine R.sub (L' := []) [] rfl ?_
        exact tX1_knows_b28 h
    · replace h := if_f h c4
      refine R_icmp_ne_t DX1_knows_13 c4 ?_
      refine R.sub (L' := []) [] rfl ?_
      exact tX1_knows_b28 h
  · replace h := if_f h c2
    refine R_icmp_ne_t DX1_knows_5 c2 ?_
    refine R.sub (L' := []) [] rfl ?_
    exact tX1_knows_b28 h
set_option maxRecDepth 8000 in
theorem kX1_remember {G : Gm} {x0 : Nat} {x1 : Int32} {x2 : Int32} {x3 : Int32} {s : Hp} {w : Hp} (h : fX1_remember x0 x1 x2 x3 s = some w) : (s.2.2 x0).1 = 1 ∧ Call G MX1_remember [.ref x0, .int x1, .int x2, .int x3] s (none, w) := by
  unfold fX1_remember at h
  obtain ⟨_, e0, h⟩ := bind_some h
  refine ⟨ck_some e0, Call.of_R pnRX1 (Nat.le_of_ble_eq_true rfl) ?_⟩
  clear e0
  show R G MX1_remember 0 [(0, .ref x0), (1, .int x1), (2, .int x2), (3, .int x3)] [] s (none, w)
  refine R_aload DX1_remember_0 0 rfl ?_
  refine R_iload DX1_remember_1 1 rfl ?_
  obtain ⟨s1, es1, h⟩ := bind_some h
  refine R_pI DX1_remember_2 fl_RX1_27 es1 ?_
  refine R_aload DX1_remember_5 0 rfl ?_
  refine R_iload DX1_remember_6 2 rfl ?_
  obtain ⟨s2, es2, h⟩ := bind_some h
  refine R_pI DX1_remember_7 fl_RX1_30 es2 ?_
  refine R_aload DX1_remember_10 0 rfl ?_
  refine R_iload DX1_remember_11 3 rfl ?_
  obtain ⟨s3, es3, h⟩ := bind_some h
  refine R_pI DX1_remember_12 fl_RX1_33 es3 ?_
  cases h
  exact R_return rfl DX1_remember_15
set_option maxRecDepth 8000 in
theorem kX1_actIn {G : Gm} {x0 : Nat} {x1 : Int32} {s : Hp} {w : Int32 × Hp} (h : fX1_actIn x0 x1 s = some w) : (s.2.2 x0).1 = 1 ∧ Call G MX1_actIn [.ref x0, .int x1] s (some (.int w.1), w.2) := by
  unfold fX1_actIn at h
  obtain ⟨_, e0, h⟩ := bind_some h
  refine ⟨ck_some e0, Call.of_R pnRX1 (Nat.le_of_ble_eq_true rfl) ?_⟩
  clear e0
  show R G MX1_actIn 0 [(0, .ref x0), (1, .int x1)] [] s (some (.int w.1), w.2)
  refine R_iload DX1_actIn_0 1 rfl ?_
  refine R_aload DX1_actIn_1 0 rfl ?_
  obtain ⟨v1, ev1, h⟩ := bind_some h
  refine R_gI DX1_actIn_2 fl_RX1_15 ev1 ?_
  by_cases c2 : v1 < x1
  · replace h := if_t h c2
    refine R_icmp_gt_t DX1_actIn_5 c2 ?_
    refine R_constI DX1_actIn_17 ci_m1 ?_
    cases h
    exact R_ireturn rfl DX1_actIn_18
  · replace h := if_f h c2
    refine R_icmp_gt_f DX1_actIn_5 c2 ?_
    refine R_aload DX1_actIn_8 0 rfl ?_
    obtain ⟨v3, ev3, h⟩ := bind_some h
    refine R_gR DX1_actIn_9 fl_RX1_9 ev3 ?_
    refine R_iload DX1_actIn_12 1 rfl ?_
    obtain ⟨v4, ev4, h⟩ := bind_some h
    refine R_aI DX1_actIn_13 ev4 ?_
    refine R_goto DX1_actIn_14 ?_
    cases h
    exact R_ireturn rfl DX1_actIn_18
set_option maxRecDepth 8000 in
theorem kX2_placeOf {G : Gm} {x0 : Int32} {x1 : Int32} {x2 : Int32} {s : Hp} {w : Int32 × Hp} (h : fX2_placeOf x0 x1 x2 s = some w) : Call G MX2_placeOf [.int x0, .int x1, .int x2] s (some (.int w.1), w.2) := by
  unfold fX2_placeOf at h
  refine Call.of_R pnRX2 (Nat.le_of_ble_eq_true rfl) ?_
  show R G MX2_placeOf 0 [(0, .int x0), (1, .int x1), (2, .int x2)] [] s (some (.int w.1), w.2)
  refine R_iload DX2_placeOf_0 0 rfl ?_
  refine R_constI DX2_placeOf_1 ci_5 ?_
  refine R_imul DX2_placeOf_2 ?_
  refine R_iload DX2_placeOf_3 1 rfl ?_
  refine R_iadd DX2_placeOf_4 ?_
  refine R_constI DX2_placeOf_5 ci_10 ?_
  refine R_imul DX2_placeOf_7 ?_
  refine R_iload DX2_placeOf_8 2 rfl ?_
  refine R_iadd DX2_placeOf_9 ?_
  cases h
  exact R_ireturn rfl DX2_placeOf_10
set_option maxRecDepth 8000 in
theorem tX2_leastAt_l3 {G : Gm} {x0 : Nat} {x1 : Int32} {x2 : Int32} {x3 : Int64} {o : Option Value × Hp} {a : Int32 × Hp} {w : (Int32 × Hp) ⊕ ((Hp) ⊕ (Int32 × Hp))} (h : fX2_leastAt_l3 x0 x1 x2 x3 a = some w) (hc : ∀ (q5 : Int32) (qs : Hp), w = .inl (q5, qs) → R G MX2_leastAt 3 [(0, .ref x0), (1, .int x1), (2, .int x2), (3, .long x3), (5, .int q5)] [] qs o) (he0 : ∀ (qs : Hp), w = .inr (.inl qs) → R G MX2_leastAt 38 [] [] qs o) (he1 : ∀ (q5 : Int32) (qs : Hp), w = .inr (.inr (q5, qs)) → R G MX2_leastAt 29 [(5, .int q5)] [] qs o) : R G MX2_leastAt 3 [(0, .ref x0), (1, .int x1), (2, .int x2), (3, .long x3), (5, .int a.1)] [] a.2 o := by
  unfold fX2_leastAt_l3 at h
  refine R_iload DX2_leastAt_3 4 rfl ?_
  refine R_constI DX2_leastAt_5 ci_9 ?_
  by_cases c1 : (iI 9) < a.1
  · replace h := if_t h c1
    refine R_icmp_gt_t DX2_leastAt_7 c1 ?_
    refine R.sub (L' := []) [] rfl ?_
    cases h
    exact he0 _ rfl
  · replace h := if_f h c1
    refine R_icmp_gt_f DX2_leastAt_7 c1 ?_
    refine R_aload DX2_leastAt_10 0 rfl ?_
    obtain ⟨v2, ev2, h⟩ := bind_some h
    refine R_gR DX2_leastAt_11 fl_RX2_9 ev2 ?_
    refine R_iload DX2_leastAt_14 1 rfl ?_
    refine R_iload DX2_leastAt_15 2 rfl ?_
    refine R_iload DX2_leastAt_16 4 rfl ?_
    obtain ⟨r3, er3, h⟩ := bind_some h
    refine R_cS1 [.int x1, .int x2, .int a.1] DX2_leastAt_18 kzsX2_placeOf ml_RX2_22 ⟨Nat.le_of_ble_eq_true rfl, Nat.le_of_ble_eq_true rfl⟩ rfl (Nat.le_of_ble_eq_true rfl) (kX2_placeOf er3) ?_
    obtain ⟨v4, ev4, h⟩ := bind_some h
    refine R_aL DX2_leastAt_21 ev4 ?_
    refine R_lload DX2_leastAt_22 3 rfl ?_
    refine R_land DX2_leastAt_23 ?_
    refine R_lconst DX2_leastAt_24 ?_
    refine R_lcmp DX2_leastAt_25 ?_
    by_cases c5 : (lg_cmp (v4 &&& x3) 0) = 0
    · replace h := if_t h c5
      refine R_if_eq_t DX2_leastAt_26 c5 ?_
      refine R_iinc [(5, .int (a.1 + iI 1)), (0, .ref x0), (1, .int x1), (2, .int x2), (3, .long x3)] DX2_leastAt_32 4 rfl (v := a.1 + iI 1) (by rfl) (by decide) rfl ?_
      refine R_goto DX2_leastAt_35 ?_
      refine R.sub (L' := [(0, .ref x0), (1, .int x1), (2, .int x2), (3, .long x3), (5, .int (a.1 + iI 1))]) [1, 2, 3, 4, 0] rfl ?_
      cases h
      exact hc _ _ rfl
    · replace h := if_f h c5
      refine R_if_eq_f DX2_leastAt_26 c5 ?_
      refine R.sub (L' := [(5, .int a.1)]) [4] rfl ?_
      cases h
      exact he1 _ _ rfl
set_option maxRecDepth 8000 in
theorem kX2_leastAt {G : Gm} {x0 : Nat} {x1 : Int32} {x2 : Int32} {x3 : Int64} {s : Hp} {w : Int32 × Hp} (h : fX2_leastAt x0 x1 x2 x3 s = some w) : (s.2.2 x0).1 = 2 ∧ Call G MX2_leastAt [.ref x0, .int x1, .int x2, .long x3] s (some (.int w.1), w.2) := by
  unfold fX2_leastAt at h
  obtain ⟨_, e0, h⟩ := bind_some h
  refine ⟨ck_some e0, Call.of_R pnRX2 (Nat.le_of_ble_eq_true rfl) ?_⟩
  clear e0
  show R G MX2_leastAt 0 [(0, .ref x0), (1, .int x1), (2, .int x2), (3, .long x3)] [] s (some (.int w.1), w.2)
  refine R_constI DX2_leastAt_0 ci_0 ?_
  refine R_istore [(5, .int (iI 0)), (0, .ref x0), (1, .int x1), (2, .int x2), (3, .long x3)] DX2_leastAt_1 (by decide) rfl ?_
  refine R.sub (L' := [(0, .ref x0), (1, .int x1), (2, .int x2), (3, .long x3), (5, .int (iI 0))]) [1, 2, 3, 4, 0] rfl ?_
  obtain ⟨r6, hi, h⟩ := bind_some h
  have hE : (Sum.elim (fun u3 : Hp => R G MX2_leastAt 38 [] [] u3 (some (.int w.1), w.2)) (fun u3 : Int32 × Hp => R G MX2_leastAt 29 [(5, .int u3.1)] [] u3.2 (some (.int w.1), w.2))) r6 → ∀ (q5 : Int32) (qs : Hp), iter (fX2_leastAt_l3 x0 x1 x2 x3) FU (q5, qs) = some r6 → R G MX2_leastAt 3 [(0, .ref x0), (1, .int x1), (2, .int x2), (3, .long x3), (5, .int q5)] [] qs (some (.int w.1), w.2) := fun hX q5 qs hj => loop_R (fX2_leastAt_l3 x0 x1 x2 x3) (fun p3 : Int32 × Hp => R G MX2_leastAt 3 [(0, .ref x0), (1, .int x1), (2, .int x2), (3, .long x3), (5, .int p3.1)] [] p3.2 (some (.int w.1), w.2)) (Sum.elim (fun u3 : Hp => R G MX2_leastAt 38 [] [] u3 (some (.int w.1), w.2)) (fun u3 : Int32 × Hp => R G MX2_leastAt 29 [(5, .int u3.1)] [] u3.2 (some (.int w.1), w.2))) (fun a w hw hc he => tX2_leastAt_l3 hw (fun q5 qs e => hc (q5, qs) e) (fun qs e => he (.inl qs) e) (fun q5 qs e => he (.inr (q5, qs)) e)) FU (q5, qs) r6 hj hX
  refine hE ?_ _ _ hi
  clear hE hi
  rcases r6 with r6a | r6b
  · replace h := el_l h
    refine R_constI DX2_leastAt_38 ci_99 ?_
    cases h
    exact R_ireturn rfl DX2_leastAt_40
  replace h := el_r h
  refine R_iload DX2_leastAt_29 0 rfl ?_
  cases h
  exact R_ireturn rfl DX2_leastAt_31
set_option maxRecDepth 8000 in
theorem tX2_soonestOf_l3 {G : Gm} {x0 : Nat} {x1 : Int32} {x2 : Int32} {x3 : Int64} {o : Option Value × Hp} {a : Int32 × Hp} {w : (Int32 × Hp) ⊕ ((Hp) ⊕ (Int32 × Hp))} (h : fX2_soonestOf_l3 x0 x1 x2 x3 a = some w) (hc : ∀ (q5 : Int32) (qs : Hp), w = .inl (q5, qs) → R G MX2_soonestOf 3 [(0, .ref x0), (1, .int x1), (2, .int x2), (3, .long x3), (5, .int q5)] [] qs o) (he0 : ∀ (qs : Hp), w = .inr (.inl qs) → R G MX2_soonestOf 31 [] [] qs o) (he1 : ∀ (q5 : Int32) (qs : Hp), w = .inr (.inr (q5, qs)) → R G MX2_soonestOf 22 [(5, .int q5)] [] qs o) : R G MX2_soonestOf 3 [(0, .ref x0), (1, .int x1), (2, .int x2), (3, .long x3), (5, .int a.1)] [] a.2 o := by
  unfold fX2_soonestOf_l3 at h
  refine R_iload DX2_soonestOf_3 4 rfl ?_
  refine R_iload DX2_soonestOf_5 1 rfl ?_
  by_cases c1 : x1 ≤ a.1
  · replace h := if_t h c1
    refine R_icmp_ge_t DX2_soonestOf_6 c1 ?_
    refine R.sub (L' := []) [] rfl ?_
    cases h
    exact he0 _ rfl
  · replace h := if_f h c1
    refine R_icmp_ge_f DX2_soonestOf_6 c1 ?_
    refine R_aload DX2_soonestOf_9 0 rfl ?_
    refine R_iload DX2_soonestOf_10 4 rfl ?_
    refine R_iload DX2_soonestOf_12 2 rfl ?_
    refine R_lload DX2_soonestOf_13 3 rfl ?_
    obtain ⟨r2, er2, h⟩ := bind_some h
    refine R_cV1 [.int a.1, .int x2, .long x3] DX2_soonestOf_14 kzvX2_leastAt ml_RX2_26 ⟨Nat.le_of_ble_eq_true rfl, Nat.le_of_ble_eq_true rfl⟩ rfl (Nat.le_of_ble_eq_true rfl) (kX2_leastAt er2) ?_
    refine R_constI DX2_soonestOf_17 ci_99 ?_
    by_cases c3 : r2.1 = (iI 99)
    · replace h := if_t h c3
      refine R_icmp_eq_t DX2_soonestOf_19 c3 ?_
      refine R_iinc [(5, .int (a.1 + iI 1)), (0, .ref x0), (1, .int x1), (2, .int x2), (3, .long x3)] DX2_soonestOf_25 4 rfl (v := a.1 + iI 1) (by rfl) (by decide) rfl ?_
      refine R_goto DX2_soonestOf_28 ?_
      refine R.sub (L' := [(0, .ref x0), (1, .int x1), (2, .int x2), (3, .long x3), (5, .int (a.1 + iI 1))]) [1, 2, 3, 4, 0] rfl ?_
      cases h
      exact hc _ _ rfl
    · replace h := if_f h c3
      refine R_icmp_eq_f DX2_soonestOf_19 c3 ?_
      refine R.sub (L' := [(5, .int a.1)]) [4] rfl ?_
      cases h
      exact he1 _ _ rfl
set_option maxRecDepth 8000 in
theorem kX2_soonestOf {G : Gm} {x0 : Nat} {x1 : Int32} {x2 : Int32} {x3 : Int64} {s : Hp} {w : Int32 × Hp} (h : fX2_soonestOf x0 x1 x2 x3 s = some w) : (s.2.2 x0).1 = 2 ∧ Call G MX2_soonestOf [.ref x0, .int x1, .int x2, .long x3] s (some (.int w.1), w.2) := by
  unfold fX2_soonestOf at h
  obtain ⟨_, e0, h⟩ := bind_some h
  refine ⟨ck_some e0, Call.of_R pnRX2 (Nat.le_of_ble_eq_true rfl) ?_⟩
  clear e0
  show R G MX2_soonestOf 0 [(0, .ref x0), (1, .int x1), (2, .int x2), (3, .long x3)] [] s (some (.int w.1), w.2)
  refine R_constI DX2_soonestOf_0 ci_0 ?_
  refine R_istore [(5, .int (iI 0)), (0, .ref x0), (1, .int x1), (2, .int x2), (3, .long x3)] DX2_soonestOf_1 (by decide) rfl ?_
  refine R.sub (L' := [(0, .ref x0), (1, .int x1), (2, .int x2), (3, .long x3), (5, .int (iI 0))]) [1, 2, 3, 4, 0] rfl ?_
  obtain ⟨r4, hi, h⟩ := bind_some h
  have hE : (Sum.elim (fun u3 : Hp => R G MX2_soonestOf 31 [] [] u3 (some (.int w.1), w.2)) (fun u3 : Int32 × Hp => R G MX2_soonestOf 22 [(5, .int u3.1)] [] u3.2 (some (.int w.1), w.2))) r4 → ∀ (q5 : Int32) (qs : Hp), iter (fX2_soonestOf_l3 x0 x1 x2 x3) FU (q5, qs) = some r4 → R G MX2_soonestOf 3 [(0, .ref x0), (1, .int x1), (2, .int x2), (3, .long x3), (5, .int q5)] [] qs (some (.int w.1), w.2) := fun hX q5 qs hj => loop_R (fX2_soonestOf_l3 x0 x1 x2 x3) (fun p3 : Int32 × Hp => R G MX2_soonestOf 3 [(0, .ref x0), (1, .int x1), (2, .int x2), (3, .long x3), (5, .int p3.1)] [] p3.2 (some (.int w.1), w.2)) (Sum.elim (fun u3 : Hp => R G MX2_soonestOf 31 [] [] u3 (some (.int w.1), w.2)) (fun u3 : Int32 × Hp => R G MX2_soonestOf 22 [(5, .int u3.1)] [] u3.2 (some (.int w.1), w.2))) (fun a w hw hc he => tX2_soonestOf_l3 hw (fun q5 qs e => hc (q5, qs) e) (fun qs e => he (.inl qs) e) (fun q5 qs e => he (.inr (q5, qs)) e)) FU (q5, qs) r4 hj hX
  refine hE ?_ _ _ hi
  clear hE hi
  rcases r4 with r4a | r4b
  · replace h := el_l h
    refine R_constI DX2_soonestOf_31 ci_m1 ?_
    cases h
    exact R_ireturn rfl DX2_soonestOf_32
  replace h := el_r h
  refine R_iload DX2_soonestOf_22 0 rfl ?_
  cases h
  exact R_ireturn rfl DX2_soonestOf_24
set_option maxRecDepth 8000 in
theorem kX6_shopFact {G : Gm} {x0 : Nat} {x1 : Int32} {x2 : Int32} {s : Hp} {w : Int32 × Hp} (h : fX6_shopFact x0 x1 x2 s = some w) : (s.2.2 x0).1 = 6 ∧ Call G MX6_shopFact [.ref x0, .int x1, .int x2] s (some (.int w.1), w.2) := by
  unfold fX6_shopFact at h
  obtain ⟨_, e0, h⟩ := bind_some h
  refine ⟨ck_some e0, Call.of_R pnRX6 (Nat.le_of_ble_eq_true rfl) ?_⟩
  clear e0
  show R G MX6_shopFact 0 [(0, .ref x0), (1, .int x1), (2, .int x2)] [] s (some (.int w.1), w.2)
  refine R_aload DX6_shopFact_0 0 rfl ?_
  obtain ⟨v1, ev1, h⟩ := bind_some h
  refine R_gR DX6_shopFact_1 fl_RX6_19 ev1 ?_
  refine R_iload DX6_shopFact_4 1 rfl ?_
  refine R_constI DX6_shopFact_5 ci_6 ?_
  refine R_imul DX6_shopFact_7 ?_
  refine R_iload DX6_shopFact_8 2 rfl ?_
  refine R_iadd DX6_shopFact_9 ?_
  obtain ⟨v2, ev2, h⟩ := bind_some h
  refine R_aI DX6_shopFact_10 ev2 ?_
  cases h
  exact R_ireturn rfl DX6_shopFact_11
set_option maxRecDepth 8000 in
theorem kX1_placeOf {G : Gm} {x0 : Nat} {x1 : Int32} {x2 : Int32} {x3 : Int32} {x4 : Int32} {s : Hp} {w : Int32 × Hp} (h : fX1_placeOf x0 x1 x2 x3 x4 s = some w) : (s.2.2 x0).1 = 1 ∧ Call G MX1_placeOf [.ref x0, .int x1, .int x2, .int x3, .int x4] s (some (.int w.1), w.2) := by
  unfold fX1_placeOf at h
  obtain ⟨_, e0, h⟩ := bind_some h
  refine ⟨ck_some e0, Call.of_R pnRX1 (Nat.le_of_ble_eq_true rfl) ?_⟩
  clear e0
  show R G MX1_placeOf 0 [(0, .ref x0), (1, .int x1), (2, .int x2), (3, .int x3), (4, .int x4)] [] s (some (.int w.1), w.2)
  refine R_iload DX1_placeOf_0 1 rfl ?_
  refine R_aload DX1_placeOf_1 0 rfl ?_
  obtain ⟨v1, ev1, h⟩ := bind_some h
  refine R_gI DX1_placeOf_2 fl_RX1_58 ev1 ?_
  refine R_constI DX1_placeOf_5 ci_1 ?_
  refine R_iadd DX1_placeOf_6 ?_
  refine R_imul DX1_placeOf_7 ?_
  refine R_iload DX1_placeOf_8 2 rfl ?_
  refine R_iadd DX1_placeOf_9 ?_
  refine R_aload DX1_placeOf_10 0 rfl ?_
  obtain ⟨v2, ev2, h⟩ := bind_some h
  refine R_gI DX1_placeOf_11 fl_RX1_65 ev2 ?_
  refine R_constI DX1_placeOf_14 ci_1 ?_
  refine R_iadd DX1_placeOf_15 ?_
  refine R_imul DX1_placeOf_16 ?_
  refine R_iload DX1_placeOf_17 3 rfl ?_
  refine R_iadd DX1_placeOf_18 ?_
  refine R_aload DX1_placeOf_19 0 rfl ?_
  obtain ⟨v3, ev3, h⟩ := bind_some h
  refine R_gR DX1_placeOf_20 fl_RX1_36 ev3 ?_
  obtain ⟨v4, ev4, h⟩ := bind_some h
  refine R_gI DX1_placeOf_23 fl_RX1_68 ev4 ?_
  refine R_imul DX1_placeOf_26 ?_
  refine R_iload DX1_placeOf_27 4 rfl ?_
  refine R_iadd DX1_placeOf_29 ?_
  cases h
  exact R_ireturn rfl DX1_placeOf_30
set_option maxRecDepth 8000 in
theorem tX1_canAct_b51 {G : Gm} {s : Hp} {w : Int32 × Hp} (h : fX1_canAct_b51 s = some w) : R G MX1_canAct 51 [] [] s (some (.int w.1), w.2) := by
  unfold fX1_canAct_b51 at h
  refine R_constI DX1_canAct_51 ci_1 ?_
  refine R_goto DX1_canAct_52 ?_
  cases h
  exact R_zreturn rfl DX1_canAct_56 (by decide)
set_option maxRecDepth 8000 in
theorem tX1_canAct_b55 {G : Gm} {s : Hp} {w : Int32 × Hp} (h : fX1_canAct_b55 s = some w) : R G MX1_canAct 55 [] [] s (some (.int w.1), w.2) := by
  unfold fX1_canAct_b55 at h
  refine R_constI DX1_canAct_55 ci_0 ?_
  cases h
  exact R_zreturn rfl DX1_canAct_56 (by decide)
set_option maxRecDepth 8000 in
theorem tX1_canAct_b31 {G : Gm} {s : Hp} {w : Int32 × Hp} (h : fX1_canAct_b31 s = some w) : R G MX1_canAct 31 [] [] s (some (.int w.1), w.2) := by
  unfold fX1_canAct_b31 at h
  refine R_constI DX1_canAct_31 ci_0 ?_
  cases h
  exact R_zreturn rfl DX1_canAct_32 (by decide)
set_option maxRecDepth 8000 in
theorem kX1_canAct {G : Gm} {x0 : Nat} {x1 : Int32} {x2 : Int32} {x3 : Int32} {x4 : Int32} {s : Hp} {w : Int32 × Hp} (h : fX1_canAct x0 x1 x2 x3 x4 s = some w) : (s.2.2 x0).1 = 1 ∧ Call G MX1_canAct [.ref x0, .int x1, .int x2, .int x3, .int x4] s (some (.int w.1), w.2) := by
  unfold fX1_canAct at h
  obtain ⟨_, e0, h⟩ := bind_some h
  refine ⟨ck_some e0, Call.of_R pnRX1 (Nat.le_of_ble_eq_true rfl) ?_⟩
  clear e0
  show R G MX1_canAct 0 [(0, .ref x0), (1, .int x1), (2, .int x2), (3, .int x3), (4, .int x4)] [] s (some (.int w.1), w.2)
  refine R_iload DX1_canAct_0 1 rfl ?_
  refine R_constI DX1_canAct_1 ci_1 ?_
  by_cases c1 : x1 = (iI 1)
  · replace h := if_t h c1
    refine R_icmp_ne_f DX1_canAct_2 c1 ?_
    refine R_iload DX1_canAct_5 2 rfl ?_
    refine R_aload DX1_canAct_6 0 rfl ?_
    obtain ⟨v6, ev6, h⟩ := bind_some h
    refine R_gI DX1_canAct_7 fl_RX1_58 ev6 ?_
    by_cases c7 : v6 ≤ x2
    · replace h := if_t h c7
      refine R_icmp_ge_t DX1_canAct_10 c7 ?_
      refine R.sub (L' := []) [] rfl ?_
      exact tX1_canAct_b31 h
    · replace h := if_f h c7
      refine R_icmp_ge_f DX1_canAct_10 c7 ?_
      refine R_iload DX1_canAct_13 4 rfl ?_
      refine R_aload DX1_canAct_15 0 rfl ?_
      obtain ⟨v8, ev8, h⟩ := bind_some h
      refine R_gR DX1_canAct_16 fl_RX1_36 ev8 ?_
      obtain ⟨v9, ev9, h⟩ := bind_some h
      refine R_gI DX1_canAct_19 fl_RX1_68 ev9 ?_
      refine R_constI DX1_canAct_22 ci_1 ?_
      refine R_isub DX1_canAct_23 ?_
      by_cases c10 : (v9 - (iI 1)) ≤ x4
      · replace h := if_t h c10
        refine R_icmp_ge_t DX1_canAct_24 c10 ?_
        refine R.sub (L' := []) [] rfl ?_
        exact tX1_canAct_b31 h
      · replace h := if_f h c10
        refine R_icmp_ge_f DX1_canAct_24 c10 ?_
        refine R_constI DX1_canAct_27 ci_1 ?_
        refine R_goto DX1_canAct_28 ?_
        cases h
        exact R_zreturn rfl DX1_canAct_32 (by decide)
  · replace h := if_f h c1
    refine R_icmp_ne_t DX1_canAct_2 c1 ?_
    refine R_iload DX1_canAct_33 1 rfl ?_
    refine R_constI DX1_canAct_34 ci_2 ?_
    by_cases c2 : x1 = (iI 2)
    · replace h := if_t h c2
      refine R_icmp_ne_f DX1_canAct_35 c2 ?_
      refine R_iload DX1_canAct_38 3 rfl ?_
      refine R_aload DX1_canAct_39 0 rfl ?_
      obtain ⟨v3, ev3, h⟩ := bind_some h
      refine R_gI DX1_canAct_40 fl_RX1_65 ev3 ?_
      by_cases c4 : v3 ≤ x3
      · replace h := if_t h c4
        refine R_icmp_ge_t DX1_canAct_43 c4 ?_
        refine R.sub (L' := []) [] rfl ?_
        exact tX1_canAct_b55 h
      · replace h := if_f h c4
        refine R_icmp_ge_f DX1_canAct_43 c4 ?_
        refine R_iload DX1_canAct_46 4 rfl ?_
        by_cases c5 : x4 ≤ 0
        · replace h := if_t h c5
          refine R_if_le_t DX1_canAct_48 c5 ?_
          refine R.sub (L' := []) [] rfl ?_
          exact tX1_canAct_b55 h
        · replace h := if_f h c5
          refine R_if_le_f DX1_canAct_48 c5 ?_
          refine R.sub (L' := []) [] rfl ?_
          exact tX1_canAct_b51 h
    · replace h := if_f h c2
      refine R_icmp_ne_t DX1_canAct_35 c2 ?_
      refine R.sub (L' := []) [] rfl ?_
      exact tX1_canAct_b51 h
set_option maxRecDepth 8000 in
theorem tX1_levelBy_b22 {G : Gm} {y0 : Int32} {y1 : Int32} {s : Hp} {w : Int32 × Hp} (h : fX1_levelBy_b22 y0 y1 s = some w) : R G MX1_levelBy 22 [] [.int y1, .int y0] s (some (.int w.1), w.2) := by
  unfold fX1_levelBy_b22 at h
  refine R_isub DX1_levelBy_22 ?_
  cases h
  exact R_ireturn rfl DX1_levelBy_23
set_option maxRecDepth 8000 in
theorem tX1_levelBy_b11 {G : Gm} {x0 : Int32} {y0 : Int32} {y1 : Int32} {s : Hp} {w : Int32 × Hp} (h : fX1_levelBy_b11 x0 y0 y1 s = some w) : R G MX1_levelBy 11 [(0, .int x0)] [.int y1, .int y0] s (some (.int w.1), w.2) := by
  unfold fX1_levelBy_b11 at h
  refine R_iadd DX1_levelBy_11 ?_
  refine R_iload DX1_levelBy_12 0 rfl ?_
  refine R_constI DX1_levelBy_13 ci_2 ?_
  by_cases c2 : x0 = (iI 2)
  · replace h := if_t h c2
    refine R_icmp_ne_f DX1_levelBy_14 c2 ?_
    refine R_constI DX1_levelBy_17 ci_1 ?_
    refine R_goto DX1_levelBy_18 ?_
    refine R.sub (L' := []) [] rfl ?_
    exact tX1_levelBy_b22 h
  · replace h := if_f h c2
    refine R_icmp_ne_t DX1_levelBy_14 c2 ?_
    refine R_constI DX1_levelBy_21 ci_0 ?_
    refine R.sub (L' := []) [] rfl ?_
    exact tX1_levelBy_b22 h
set_option maxRecDepth 8000 in
theorem kX1_levelBy {G : Gm} {x0 : Int32} {x1 : Int32} {s : Hp} {w : Int32 × Hp} (h : fX1_levelBy x0 x1 s = some w) : Call G MX1_levelBy [.int x0, .int x1] s (some (.int w.1), w.2) := by
  unfold fX1_levelBy at h
  refine Call.of_R pnRX1 (Nat.le_of_ble_eq_true rfl) ?_
  show R G MX1_levelBy 0 [(0, .int x0), (1, .int x1)] [] s (some (.int w.1), w.2)
  refine R_iload DX1_levelBy_0 1 rfl ?_
  refine R_iload DX1_levelBy_1 0 rfl ?_
  refine R_constI DX1_levelBy_2 ci_1 ?_
  by_cases c1 : x0 = (iI 1)
  · replace h := if_t h c1
    refine R_icmp_ne_f DX1_levelBy_3 c1 ?_
    refine R_constI DX1_levelBy_6 ci_1 ?_
    refine R_goto DX1_levelBy_7 ?_
    refine R.sub (L' := [(0, .int x0)]) [0] rfl ?_
    exact tX1_levelBy_b11 h
  · replace h := if_f h c1
    refine R_icmp_ne_t DX1_levelBy_3 c1 ?_
    refine R_constI DX1_levelBy_10 ci_0 ?_
    refine R.sub (L' := [(0, .int x0)]) [0] rfl ?_
    exact tX1_levelBy_b11 h
set_option maxRecDepth 8000 in
theorem tX6_coolsIn_b22 {G : Gm} {s : Hp} {w : Int32 × Hp} (h : fX6_coolsIn_b22 s = some w) : R G MX6_coolsIn 22 [] [] s (some (.int w.1), w.2) := by
  unfold fX6_coolsIn_b22 at h
  refine R_constI DX6_coolsIn_22 ci_0 ?_
  cases h
  exact R_zreturn rfl DX6_coolsIn_23 (by decide)
set_option maxRecDepth 8000 in
theorem kX6_coolsIn {G : Gm} {x0 : Nat} {x1 : Int32} {s : Hp} {w : Int32 × Hp} (h : fX6_coolsIn x0 x1 s = some w) : (s.2.2 x0).1 = 6 ∧ Call G MX6_coolsIn [.ref x0, .int x1] s (some (.int w.1), w.2) := by
  unfold fX6_coolsIn at h
  obtain ⟨_, e0, h⟩ := bind_some h
  refine ⟨ck_some e0, Call.of_R pnRX6 (Nat.le_of_ble_eq_true rfl) ?_⟩
  clear e0
  show R G MX6_coolsIn 0 [(0, .ref x0), (1, .int x1)] [] s (some (.int w.1), w.2)
  refine R_aload DX6_coolsIn_0 0 rfl ?_
  obtain ⟨v1, ev1, h⟩ := bind_some h
  refine R_gI DX6_coolsIn_1 fl_RX6_66 ev1 ?_
  by_cases c2 : v1 ≤ 0
  · replace h := if_t h c2
    refine R_if_le_t DX6_coolsIn_4 c2 ?_
    refine R.sub (L' := []) [] rfl ?_
    exact tX6_coolsIn_b22 h
  · replace h := if_f h c2
    refine R_if_le_f DX6_coolsIn_4 c2 ?_
    refine R_iload DX6_coolsIn_7 1 rfl ?_
    refine R_constI DX6_coolsIn_8 ci_1 ?_
    refine R_iadd DX6_coolsIn_9 ?_
    refine R_aload DX6_coolsIn_10 0 rfl ?_
    obtain ⟨v3, ev3, h⟩ := bind_some h
    refine R_gI DX6_coolsIn_11 fl_RX6_66 ev3 ?_
    obtain ⟨v4, ev4, h⟩ := bind_some h
    refine R_mI DX6_coolsIn_14 ev4 ?_
    by_cases c5 : v4 = 0
    · replace h := if_t h c5
      refine R_if_ne_f DX6_coolsIn_15 c5 ?_
      refine R_constI DX6_coolsIn_18 ci_1 ?_
      refine R_goto DX6_coolsIn_19 ?_
      cases h
      exact R_zreturn rfl DX6_coolsIn_23 (by decide)
    · replace h := if_f h c5
      refine R_if_ne_t DX6_coolsIn_15 c5 ?_
      refine R.sub (L' := []) [] rfl ?_
      exact tX6_coolsIn_b22 h
set_option maxRecDepth 8000 in
theorem kX1_cooled {G : Gm} {x0 : Nat} {x1 : Int32} {x2 : Int32} {s : Hp} {w : Int32 × Hp} (h : fX1_cooled x0 x1 x2 s = some w) : (s.2.2 x0).1 = 1 ∧ Call G MX1_cooled [.ref x0, .int x1, .int x2] s (some (.int w.1), w.2) := by
  unfold fX1_cooled at h
  obtain ⟨_, e0, h⟩ := bind_some h
  refine ⟨ck_some e0, Call.of_R pnRX1 (Nat.le_of_ble_eq_true rfl) ?_⟩
  clear e0
  show R G MX1_cooled 0 [(0, .ref x0), (1, .int x1), (2, .int x2)] [] s (some (.int w.1), w.2)
  refine R_aload DX1_cooled_0 0 rfl ?_
  obtain ⟨v1, ev1, h⟩ := bind_some h
  refine R_gR DX1_cooled_1 fl_RX1_36 ev1 ?_
  refine R_iload DX1_cooled_4 2 rfl ?_
  obtain ⟨r2, er2, h⟩ := bind_some h
  refine R_cV1 [.int x2] DX1_cooled_5 kzvX6_coolsIn ml_RX1_109 ⟨Nat.le_of_ble_eq_true rfl, Nat.le_of_ble_eq_true rfl⟩ rfl (Nat.le_of_ble_eq_true rfl) (kX6_coolsIn er2) ?_
  by_cases c3 : r2.1 = 0
  · replace h := if_t h c3
    refine R_if_eq_t DX1_cooled_8 c3 ?_
    refine R_iload DX1_cooled_21 1 rfl ?_
    cases h
    exact R_ireturn rfl DX1_cooled_22
  · replace h := if_f h c3
    refine R_if_eq_f DX1_cooled_8 c3 ?_
    refine R_constI DX1_cooled_11 ci_0 ?_
    refine R_iload DX1_cooled_12 1 rfl ?_
    refine R_constI DX1_cooled_13 ci_1 ?_
    refine R_isub DX1_cooled_14 ?_
    refine R_mmax DX1_cooled_15 mw_RX1_113 ⟨Nat.le_of_ble_eq_true rfl, Nat.le_of_ble_eq_true rfl⟩ ?_
    refine R_goto DX1_cooled_18 ?_
    cases h
    exact R_ireturn rfl DX1_cooled_22
set_option maxRecDepth 8000 in
theorem tX1_goalOf_b26 {G : Gm} {x0 : Nat} {x2 : Int32} {x5 : Int32} {x6 : Int32} {y0 : Int32} {y1 : Int32} {s : Hp} {w : Int64 × Hp} (h : fX1_goalOf_b26 x0 x2 x5 x6 y0 y1 s = some w) : R G MX1_goalOf 26 [(0, .ref x0), (2, .int x2), (5, .int x5), (6, .int x6)] [.int y1, .int y0] s (some (.long w.1), w.2) := by
  unfold fX1_goalOf_b26 at h
  refine R_iadd DX1_goalOf_26 ?_
  obtain ⟨z4, ez4, h⟩ := lt_some h
  refine R_istoreE ez4 [(7, .int z4), (0, .ref x0), (2, .int x2), (5, .int x5), (6, .int x6)] DX1_goalOf_27 (by decide) rfl ?_
  refine R_aload DX1_goalOf_29 1 rfl ?_
  obtain ⟨v5, ev5, h⟩ := bind_some h
  refine R_gR DX1_goalOf_30 fl_RX1_19 ev5 ?_
  refine R_aload DX1_goalOf_33 1 rfl ?_
  refine R_iload DX1_goalOf_34 2 rfl ?_
  refine R_constI DX1_goalOf_35 ci_1 ?_
  refine R_iadd DX1_goalOf_36 ?_
  refine R_iload DX1_goalOf_37 4 rfl ?_
  refine R_iload DX1_goalOf_39 0 rfl ?_
  refine R_aload DX1_goalOf_41 1 rfl ?_
  refine R_iload DX1_goalOf_42 3 rfl ?_
  refine R_iload DX1_goalOf_44 2 rfl ?_
  obtain ⟨r6, er6, h⟩ := bind_some h
  refine R_cV1 [.int x5, .int x2] DX1_goalOf_45 kzvX1_cooled ml_RX1_106 ⟨Nat.le_of_ble_eq_true rfl, Nat.le_of_ble_eq_true rfl⟩ rfl (Nat.le_of_ble_eq_true rfl) (kX1_cooled er6) ?_
  obtain ⟨r7, er7, h⟩ := bind_some h
  refine R_cV1 [.int (x2 + (iI 1)), .int x6, .int z4, .int r6.1] DX1_goalOf_48 kzvX1_placeOf ml_RX1_71 ⟨Nat.le_of_ble_eq_true rfl, Nat.le_of_ble_eq_true rfl⟩ rfl (Nat.le_of_ble_eq_true rfl) (kX1_placeOf er7) ?_
  obtain ⟨v8, ev8, h⟩ := bind_some h
  refine R_aL DX1_goalOf_51 ev8 ?_
  cases h
  exact R_lreturn rfl DX1_goalOf_52
set_option maxRecDepth 8000 in
theorem tX1_goalOf_b11 {G : Gm} {x0 : Nat} {x1 : Int32} {x2 : Int32} {x4 : Int32} {x5 : Int32} {y0 : Int32} {y1 : Int32} {s : Hp} {w : Int64 × Hp} (h : fX1_goalOf_b11 x0 x1 x2 x4 x5 y0 y1 s = some w) : R G MX1_goalOf 11 [(0, .ref x0), (1, .int x1), (2, .int x2), (4, .int x4), (5, .int x5)] [.int y1, .int y0] s (some (.long w.1), w.2) := by
  unfold fX1_goalOf_b11 at h
  refine R_iadd DX1_goalOf_11 ?_
  obtain ⟨z2, ez2, h⟩ := lt_some h
  refine R_istoreE ez2 [(6, .int z2), (0, .ref x0), (1, .int x1), (2, .int x2), (4, .int x4), (5, .int x5)] DX1_goalOf_12 (by decide) rfl ?_
  refine R_iload DX1_goalOf_14 4 rfl ?_
  refine R_iload DX1_goalOf_16 2 rfl ?_
  refine R_constI DX1_goalOf_17 ci_2 ?_
  by_cases c3 : x1 = (iI 2)
  · replace h := if_t h c3
    refine R_icmp_ne_f DX1_goalOf_18 c3 ?_
    refine R_constI DX1_goalOf_21 ci_1 ?_
    refine R_goto DX1_goalOf_22 ?_
    refine R.sub (L' := [(0, .ref x0), (2, .int x2), (5, .int x5), (6, .int z2)]) [1, 3, 5, 0] rfl ?_
    exact tX1_goalOf_b26 h
  · replace h := if_f h c3
    refine R_icmp_ne_t DX1_goalOf_18 c3 ?_
    refine R_constI DX1_goalOf_25 ci_0 ?_
    refine R.sub (L' := [(0, .ref x0), (2, .int x2), (5, .int x5), (6, .int z2)]) [1, 3, 5, 0] rfl ?_
    exact tX1_goalOf_b26 h
set_option maxRecDepth 8000 in
theorem kX1_goalOf {G : Gm} {x0 : Nat} {x1 : Int32} {x2 : Int32} {x3 : Int32} {x4 : Int32} {x5 : Int32} {s : Hp} {w : Int64 × Hp} (h : fX1_goalOf x0 x1 x2 x3 x4 x5 s = some w) : (s.2.2 x0).1 = 1 ∧ Call G MX1_goalOf [.ref x0, .int x1, .int x2, .int x3, .int x4, .int x5] s (some (.long w.1), w.2) := by
  unfold fX1_goalOf at h
  obtain ⟨_, e0, h⟩ := bind_some h
  refine ⟨ck_some e0, Call.of_R pnRX1 (Nat.le_of_ble_eq_true rfl) ?_⟩
  clear e0
  show R G MX1_goalOf 0 [(0, .ref x0), (1, .int x1), (2, .int x2), (3, .int x3), (4, .int x4), (5, .int x5)] [] s (some (.long w.1), w.2)
  refine R_iload DX1_goalOf_0 3 rfl ?_
  refine R_iload DX1_goalOf_1 1 rfl ?_
  refine R_constI DX1_goalOf_2 ci_1 ?_
  by_cases c1 : x1 = (iI 1)
  · replace h := if_t h c1
    refine R_icmp_ne_f DX1_goalOf_3 c1 ?_
    refine R_constI DX1_goalOf_6 ci_1 ?_
    refine R_goto DX1_goalOf_7 ?_
    refine R.sub (L' := [(0, .ref x0), (1, .int x1), (2, .int x2), (4, .int x4), (5, .int x5)]) [0, 1, 2, 4, 5] rfl ?_
    exact tX1_goalOf_b11 h
  · replace h := if_f h c1
    refine R_icmp_ne_t DX1_goalOf_3 c1 ?_
    refine R_constI DX1_goalOf_10 ci_0 ?_
    refine R.sub (L' := [(0, .ref x0), (1, .int x1), (2, .int x2), (4, .int x4), (5, .int x5)]) [0, 1, 2, 4, 5] rfl ?_
    exact tX1_goalOf_b11 h
set_option maxRecDepth 8000 in
theorem kX6_windAt {G : Gm} {x0 : Nat} {x1 : Int32} {x2 : Int32} {s : Hp} {w : Int32 × Hp} (h : fX6_windAt x0 x1 x2 s = some w) : (s.2.2 x0).1 = 6 ∧ Call G MX6_windAt [.ref x0, .int x1, .int x2] s (some (.int w.1), w.2) := by
  unfold fX6_windAt at h
  obtain ⟨_, e0, h⟩ := bind_some h
  refine ⟨ck_some e0, Call.of_R pnRX6 (Nat.le_of_ble_eq_true rfl) ?_⟩
  clear e0
  show R G MX6_windAt 0 [(0, .ref x0), (1, .int x1), (2, .int x2)] [] s (some (.int w.1), w.2)
  refine R_aload DX6_windAt_0 0 rfl ?_
  obtain ⟨v1, ev1, h⟩ := bind_some h
  refine R_gR DX6_windAt_1 fl_RX6_15 ev1 ?_
  refine R_iload DX6_windAt_4 1 rfl ?_
  refine R_constI DX6_windAt_5 ci_24 ?_
  refine R_imul DX6_windAt_7 ?_
  refine R_iload DX6_windAt_8 2 rfl ?_
  refine R_iadd DX6_windAt_9 ?_
  obtain ⟨v2, ev2, h⟩ := bind_some h
  refine R_aI DX6_windAt_10 ev2 ?_
  cases h
  exact R_ireturn rfl DX6_windAt_11
set_option maxRecDepth 8000 in
theorem tX1_leading_b71 {G : Gm} {x0 : Nat} {x1 : Int32} {x2 : Int32} {x3 : Int32} {x4 : Int32} {x5 : Int64} {x7 : Int32} {s : Hp} {o : Option Value × Hp} {w : (Int64 × Int32 × Hp) ⊕ ((Int64 × Hp))} (h : fX1_leading_b71 x0 x1 x2 x3 x4 x5 x7 s = some w) (hc : ∀ (q5 : Int64) (q7 : Int32) (qs : Hp), w = .inl (q5, q7, qs) → R G MX1_leading 6 [(0, .ref x0), (1, .int x1), (2, .int x2), (3, .int x3), (4, .int x4), (5, .long q5), (7, .int q7)] [] qs o) (he0 : ∀ (q5 : Int64) (qs : Hp), w = .inr (q5, qs) → R G MX1_leading 77 [(5, .long q5)] [] qs o) : R G MX1_leading 71 [(0, .ref x0), (1, .int x1), (2, .int x2), (3, .int x3), (4, .int x4), (5, .long x5), (7, .int x7)] [] s o := by
  unfold fX1_leading_b71 at h
  refine R_iinc [(7, .int (x7 + iI 1)), (0, .ref x0), (1, .int x1), (2, .int x2), (3, .int x3), (4, .int x4), (5, .long x5)] DX1_leading_71 6 rfl (v := x7 + iI 1) (by rfl) (by decide) rfl ?_
  refine R_goto DX1_leading_74 ?_
  refine R.sub (L' := [(0, .ref x0), (1, .int x1), (2, .int x2), (3, .int x3), (4, .int x4), (5, .long x5), (7, .int (x7 + iI 1))]) [1, 2, 3, 4, 5, 6, 0] rfl ?_
  cases h
  exact hc _ _ _ rfl
set_option maxRecDepth 8000 in
theorem tX1_leading_l6 {G : Gm} {x0 : Nat} {x1 : Int32} {x2 : Int32} {x3 : Int32} {x4 : Int32} {o : Option Value × Hp} {a : Int64 × Int32 × Hp} {w : (Int64 × Int32 × Hp) ⊕ ((Int64 × Hp))} (h : fX1_leading_l6 x0 x1 x2 x3 x4 a = some w) (hc : ∀ (q5 : Int64) (q7 : Int32) (qs : Hp), w = .inl (q5, q7, qs) → R G MX1_leading 6 [(0, .ref x0), (1, .int x1), (2, .int x2), (3, .int x3), (4, .int x4), (5, .long q5), (7, .int q7)] [] qs o) (he0 : ∀ (q5 : Int64) (qs : Hp), w = .inr (q5, qs) → R G MX1_leading 77 [(5, .long q5)] [] qs o) : R G MX1_leading 6 [(0, .ref x0), (1, .int x1), (2, .int x2), (3, .int x3), (4, .int x4), (5, .long a.1), (7, .int a.2.1)] [] a.2.2 o := by
  unfold fX1_leading_l6 at h
  refine R_iload DX1_leading_6 6 rfl ?_
  refine R_constI DX1_leading_8 ci_3 ?_
  by_cases c1 : (iI 3) ≤ a.2.1
  · replace h := if_t h c1
    refine R_icmp_ge_t DX1_leading_9 c1 ?_
    refine R.sub (L' := [(5, .long a.1)]) [5] rfl ?_
    cases h
    exact he0 _ _ rfl
  · replace h := if_f h c1
    refine R_icmp_ge_f DX1_leading_9 c1 ?_
    refine R_aload DX1_leading_12 0 rfl ?_
    refine R_iload DX1_leading_13 6 rfl ?_
    refine R_iload DX1_leading_15 2 rfl ?_
    refine R_iload DX1_leading_16 3 rfl ?_
    refine R_iload DX1_leading_17 4 rfl ?_
    obtain ⟨r2, er2, h⟩ := bind_some h
    refine R_cV1 [.int a.2.1, .int x2, .int x3, .int x4] DX1_leading_19 kzvX1_canAct ml_RX1_86 ⟨Nat.le_of_ble_eq_true rfl, Nat.le_of_ble_eq_true rfl⟩ rfl (Nat.le_of_ble_eq_true rfl) (kX1_canAct er2) ?_
    by_cases c3 : r2.1 = 0
    · replace h := if_t h c3
      refine R_if_eq_t DX1_leading_22 c3 ?_
      exact tX1_leading_b71 h hc he0
    · replace h := if_f h c3
      refine R_if_eq_f DX1_leading_22 c3 ?_
      refine R_iload DX1_leading_25 6 rfl ?_
      refine R_iload DX1_leading_27 4 rfl ?_
      obtain ⟨r4, er4, h⟩ := bind_some h
      refine R_cS1 [.int a.2.1, .int x4] DX1_leading_29 kzsX1_levelBy ml_RX1_90 ⟨Nat.le_of_ble_eq_true rfl, Nat.le_of_ble_eq_true rfl⟩ rfl (Nat.le_of_ble_eq_true rfl) (kX1_levelBy er4) ?_
      refine R_istore [(8, .int r4.1), (0, .ref x0), (1, .int x1), (2, .int x2), (3, .int x3), (4, .int x4), (5, .long a.1), (7, .int a.2.1)] DX1_leading_32 (by decide) rfl ?_
      refine R_aload DX1_leading_34 1 rfl ?_
      refine R_iload DX1_leading_35 7 rfl ?_
      refine R_iload DX1_leading_37 2 rfl ?_
      refine R_iload DX1_leading_38 3 rfl ?_
      refine R_iload DX1_leading_39 4 rfl ?_
      refine R_iload DX1_leading_40 0 rfl ?_
      obtain ⟨r5, er5, h⟩ := bind_some h
      refine R_cV1 [.int a.2.1, .int x1, .int x2, .int x3, .int r4.1] DX1_leading_42 kzvX1_goalOf ml_RX1_93 ⟨Nat.le_of_ble_eq_true rfl, Nat.le_of_ble_eq_true rfl⟩ rfl (Nat.le_of_ble_eq_true rfl) (kX1_goalOf er5) ?_
      refine R_lstore [(9, .long r5.1), (8, .int r4.1), (0, .ref x0), (1, .int x1), (2, .int x2), (3, .int x3), (4, .int x4), (5, .long a.1), (7, .int a.2.1)] DX1_leading_45 (by decide) rfl ?_
      refine R_lload DX1_leading_47 7 rfl ?_
      refine R_aload DX1_leading_49 2 rfl ?_
      obtain ⟨v6, ev6, h⟩ := bind_some h
      refine R_gR DX1_leading_50 fl_RX1_23 ev6 ?_
      refine R_lload DX1_leading_53 0 rfl ?_
      refine R_aload DX1_leading_55 2 rfl ?_
      obtain ⟨v7, ev7, h⟩ := bind_some h
      refine R_gR DX1_leading_56 fl_RX1_36 ev7 ?_
      refine R_iload DX1_leading_59 1 rfl ?_
      refine R_iload DX1_leading_61 3 rfl ?_
      obtain ⟨r8, er8, h⟩ := bind_some h
      refine R_cV1 [.int r4.1, .int x1] DX1_leading_62 kzvX6_windAt ml_RX1_97 ⟨Nat.le_of_ble_eq_true rfl, Nat.le_of_ble_eq_true rfl⟩ rfl (Nat.le_of_ble_eq_true rfl) (kX6_windAt er8) ?_
      obtain ⟨r9, er9, h⟩ := bind_some h
      refine R_cV1 [.long r5.1, .int r8.1] DX1_leading_65 kzvX0_sourcesOf ml_RX1_100 ⟨Nat.le_of_ble_eq_true rfl, Nat.le_of_ble_eq_true rfl⟩ rfl (Nat.le_of_ble_eq_true rfl) (kX0_sourcesOf er9) ?_
      refine R_lor DX1_leading_68 ?_
      obtain ⟨z10, ez10, h⟩ := lt_some h
      refine R_lstoreE ez10 [(5, .long z10), (9, .long r5.1), (8, .int r4.1), (0, .ref x0), (1, .int x1), (2, .int x2), (3, .int x3), (4, .int x4), (7, .int a.2.1)] DX1_leading_69 (by decide) rfl ?_
      refine R.sub (L' := [(0, .ref x0), (1, .int x1), (2, .int x2), (3, .int x3), (4, .int x4), (5, .long z10), (7, .int a.2.1)]) [3, 4, 5, 6, 7, 0, 8] rfl ?_
      exact tX1_leading_b71 h hc he0
set_option maxRecDepth 8000 in
theorem kX1_leading {G : Gm} {x0 : Nat} {x1 : Int32} {x2 : Int32} {x3 : Int32} {x4 : Int32} {s : Hp} {w : Int64 × Hp} (h : fX1_leading x0 x1 x2 x3 x4 s = some w) : (s.2.2 x0).1 = 1 ∧ Call G MX1_leading [.ref x0, .int x1, .int x2, .int x3, .int x4] s (some (.long w.1), w.2) := by
  unfold fX1_leading at h
  obtain ⟨_, e0, h⟩ := bind_some h
  refine ⟨ck_some e0, Call.of_R pnRX1 (Nat.le_of_ble_eq_true rfl) ?_⟩
  clear e0
  show R G MX1_leading 0 [(0, .ref x0), (1, .int x1), (2, .int x2), (3, .int x3), (4, .int x4)] [] s (some (.long w.1), w.2)
  refine R_lconst DX1_leading_0 ?_
  refine R_lstore [(5, .long 0), (0, .ref x0), (1, .int x1), (2, .int x2), (3, .int x3), (4, .int x4)] DX1_leading_1 (by decide) rfl ?_
  refine R_constI DX1_leading_3 ci_0 ?_
  refine R_istore [(7, .int (iI 0)), (5, .long 0), (0, .ref x0), (1, .int x1), (2, .int x2), (3, .int x3), (4, .int x4)] DX1_leading_4 (by decide) rfl ?_
  refine R.sub (L' := [(0, .ref x0), (1, .int x1), (2, .int x2), (3, .int x3), (4, .int x4), (5, .long 0), (7, .int (iI 0))]) [2, 3, 4, 5, 6, 1, 0] rfl ?_
  obtain ⟨r11, hi, h⟩ := bind_some h
  have hE : (fun u6 : Int64 × Hp => R G MX1_leading 77 [(5, .long u6.1)] [] u6.2 (some (.long w.1), w.2)) r11 → ∀ (q5 : Int64) (q7 : Int32) (qs : Hp), iter (fX1_leading_l6 x0 x1 x2 x3 x4) FU (q5, q7, qs) = some r11 → R G MX1_leading 6 [(0, .ref x0), (1, .int x1), (2, .int x2), (3, .int x3), (4, .int x4), (5, .long q5), (7, .int q7)] [] qs (some (.long w.1), w.2) := fun hX q5 q7 qs hj => loop_R (fX1_leading_l6 x0 x1 x2 x3 x4) (fun p6 : Int64 × Int32 × Hp => R G MX1_leading 6 [(0, .ref x0), (1, .int x1), (2, .int x2), (3, .int x3), (4, .int x4), (5, .long p6.1), (7, .int p6.2.1)] [] p6.2.2 (some (.long w.1), w.2)) (fun u6 : Int64 × Hp => R G MX1_leading 77 [(5, .long u6.1)] [] u6.2 (some (.long w.1), w.2)) (fun a w hw hc he => tX1_leading_l6 hw (fun q5 q7 qs e => hc (q5, q7, qs) e) (fun q5 qs e => he (q5, qs) e)) FU (q5, q7, qs) r11 hj hX
  refine hE ?_ _ _ _ hi
  clear hE hi
  refine R_lload DX1_leading_77 0 rfl ?_
  cases h
  exact R_lreturn rfl DX1_leading_79
set_option maxRecDepth 8000 in
theorem tX1_markHour_l23 {G : Gm} {x0 : Nat} {x1 : Int32} {x2 : Int32} {x3 : Int32} {o : Option Value × Hp} {a : Int32 × Hp} {w : (Int32 × Hp) ⊕ ((Hp))} (h : fX1_markHour_l23 x0 x1 x2 x3 a = some w) (hc : ∀ (q4 : Int32) (qs : Hp), w = .inl (q4, qs) → R G MX1_markHour 23 [(0, .ref x0), (1, .int x1), (2, .int x2), (3, .int x3), (4, .int q4)] [] qs o) (he0 : ∀ (qs : Hp), w = .inr qs → R G MX1_markHour 64 [(0, .ref x0), (1, .int x1), (2, .int x2), (3, .int x3)] [] qs o) : R G MX1_markHour 23 [(0, .ref x0), (1, .int x1), (2, .int x2), (3, .int x3), (4, .int a.1)] [] a.2 o := by
  unfold fX1_markHour_l23 at h
  refine R_iload DX1_markHour_23 4 rfl ?_
  refine R_aload DX1_markHour_25 0 rfl ?_
  obtain ⟨v5, ev5, h⟩ := bind_some h
  refine R_gR DX1_markHour_26 fl_RX1_36 ev5 ?_
  obtain ⟨v6, ev6, h⟩ := bind_some h
  refine R_gI DX1_markHour_29 fl_RX1_68 ev6 ?_
  by_cases c7 : v6 ≤ a.1
  · replace h := if_t h c7
    refine R_icmp_ge_t DX1_markHour_32 c7 ?_
    refine R.sub (L' := [(0, .ref x0), (1, .int x1), (2, .int x2), (3, .int x3)]) [0, 1, 2, 3] rfl ?_
    cases h
    exact he0 _ rfl
  · replace h := if_f h c7
    refine R_icmp_ge_f DX1_markHour_32 c7 ?_
    refine R_aload DX1_markHour_35 0 rfl ?_
    obtain ⟨v8, ev8, h⟩ := bind_some h
    refine R_gR DX1_markHour_36 fl_RX1_19 ev8 ?_
    refine R_aload DX1_markHour_39 0 rfl ?_
    refine R_iload DX1_markHour_40 1 rfl ?_
    refine R_iload DX1_markHour_41 2 rfl ?_
    refine R_iload DX1_markHour_42 3 rfl ?_
    refine R_iload DX1_markHour_43 4 rfl ?_
    obtain ⟨r9, er9, h⟩ := bind_some h
    refine R_cV1 [.int x1, .int x2, .int x3, .int a.1] DX1_markHour_45 kzvX1_placeOf ml_RX1_71 ⟨Nat.le_of_ble_eq_true rfl, Nat.le_of_ble_eq_true rfl⟩ rfl (Nat.le_of_ble_eq_true rfl) (kX1_placeOf er9) ?_
    refine R_aload DX1_markHour_48 0 rfl ?_
    refine R_iload DX1_markHour_49 1 rfl ?_
    refine R_iload DX1_markHour_50 2 rfl ?_
    refine R_iload DX1_markHour_51 3 rfl ?_
    refine R_iload DX1_markHour_52 4 rfl ?_
    obtain ⟨r10, er10, h⟩ := bind_some h
    refine R_cV1 [.int x1, .int x2, .int x3, .int a.1] DX1_markHour_54 kzvX1_leading ml_RX1_82 ⟨Nat.le_of_ble_eq_true rfl, Nat.le_of_ble_eq_true rfl⟩ rfl (Nat.le_of_ble_eq_true rfl) (kX1_leading er10) ?_
    obtain ⟨s11, es11, h⟩ := bind_some h
    refine R_sL DX1_markHour_57 es11 ?_
    refine R_iinc [(4, .int (a.1 + iI 1)), (0, .ref x0), (1, .int x1), (2, .int x2), (3, .int x3)] DX1_markHour_58 4 rfl (v := a.1 + iI 1) (by rfl) (by decide) rfl ?_
    refine R_goto DX1_markHour_61 ?_
    refine R.sub (L' := [(0, .ref x0), (1, .int x1), (2, .int x2), (3, .int x3), (4, .int (a.1 + iI 1))]) [1, 2, 3, 4, 0] rfl ?_
    cases h
    exact hc _ _ rfl
set_option maxRecDepth 8000 in
theorem tX1_markHour_l12 {G : Gm} {x0 : Nat} {x1 : Int32} {x2 : Int32} {o : Option Value × Hp} {a : Int32 × Hp} {w : (Int32 × Hp) ⊕ ((Hp))} (h : fX1_markHour_l12 x0 x1 x2 a = some w) (hc : ∀ (q3 : Int32) (qs : Hp), w = .inl (q3, qs) → R G MX1_markHour 12 [(0, .ref x0), (1, .int x1), (2, .int x2), (3, .int q3)] [] qs o) (he0 : ∀ (qs : Hp), w = .inr qs → R G MX1_markHour 70 [(0, .ref x0), (1, .int x1), (2, .int x2)] [] qs o) : R G MX1_markHour 12 [(0, .ref x0), (1, .int x1), (2, .int x2), (3, .int a.1)] [] a.2 o := by
  unfold fX1_markHour_l12 at h
  refine R_iload DX1_markHour_12 3 rfl ?_
  refine R_aload DX1_markHour_13 0 rfl ?_
  obtain ⟨v3, ev3, h⟩ := bind_some h
  refine R_gI DX1_markHour_14 fl_RX1_65 ev3 ?_
  by_cases c4 : v3 < a.1
  · replace h := if_t h c4
    refine R_icmp_gt_t DX1_markHour_17 c4 ?_
    refine R.sub (L' := [(0, .ref x0), (1, .int x1), (2, .int x2)]) [0, 1, 2] rfl ?_
    cases h
    exact he0 _ rfl
  · replace h := if_f h c4
    refine R_icmp_gt_f DX1_markHour_17 c4 ?_
    refine R_constI DX1_markHour_20 ci_0 ?_
    refine R_istore [(4, .int (iI 0)), (0, .ref x0), (1, .int x1), (2, .int x2), (3, .int a.1)] DX1_markHour_21 (by decide) rfl ?_
    refine R.sub (L' := [(0, .ref x0), (1, .int x1), (2, .int x2), (3, .int a.1), (4, .int (iI 0))]) [1, 2, 3, 4, 0] rfl ?_
    obtain ⟨r12, hi, h⟩ := bind_some h
    have hE : (fun u23 : Hp => R G MX1_markHour 64 [(0, .ref x0), (1, .int x1), (2, .int x2), (3, .int a.1)] [] u23 o) r12 → ∀ (q4 : Int32) (qs : Hp), iter (fX1_markHour_l23 x0 x1 x2 a.1) FU (q4, qs) = some r12 → R G MX1_markHour 23 [(0, .ref x0), (1, .int x1), (2, .int x2), (3, .int a.1), (4, .int q4)] [] qs o := fun hX q4 qs hj => loop_R (fX1_markHour_l23 x0 x1 x2 a.1) (fun p23 : Int32 × Hp => R G MX1_markHour 23 [(0, .ref x0), (1, .int x1), (2, .int x2), (3, .int a.1), (4, .int p23.1)] [] p23.2 o) (fun u23 : Hp => R G MX1_markHour 64 [(0, .ref x0), (1, .int x1), (2, .int x2), (3, .int a.1)] [] u23 o) (fun a w hw hc he => tX1_markHour_l23 hw (fun q4 qs e => hc (q4, qs) e) (fun qs e => he qs e)) FU (q4, qs) r12 hj hX
    refine hE ?_ _ _ hi
    clear hE hi
    refine R_iinc [(3, .int (a.1 + iI 1)), (0, .ref x0), (1, .int x1), (2, .int x2)] DX1_markHour_64 3 rfl (v := a.1 + iI 1) (by rfl) (by decide) rfl ?_
    refine R_goto DX1_markHour_67 ?_
    refine R.sub (L' := [(0, .ref x0), (1, .int x1), (2, .int x2), (3, .int (a.1 + iI 1))]) [1, 2, 3, 0] rfl ?_
    cases h
    exact hc _ _ rfl
set_option maxRecDepth 8000 in
theorem tX1_markHour_l2 {G : Gm} {x0 : Nat} {x1 : Int32} {o : Option Value × Hp} {a : Int32 × Hp} {w : (Int32 × Hp) ⊕ ((Hp))} (h : fX1_markHour_l2 x0 x1 a = some w) (hc : ∀ (q2 : Int32) (qs : Hp), w = .inl (q2, qs) → R G MX1_markHour 2 [(0, .ref x0), (1, .int x1), (2, .int q2)] [] qs o) (he0 : ∀ (qs : Hp), w = .inr qs → R G MX1_markHour 76 [] [] qs o) : R G MX1_markHour 2 [(0, .ref x0), (1, .int x1), (2, .int a.1)] [] a.2 o := by
  unfold fX1_markHour_l2 at h
  refine R_iload DX1_markHour_2 2 rfl ?_
  refine R_aload DX1_markHour_3 0 rfl ?_
  obtain ⟨v1, ev1, h⟩ := bind_some h
  refine R_gI DX1_markHour_4 fl_RX1_58 ev1 ?_
  by_cases c2 : v1 < a.1
  · replace h := if_t h c2
    refine R_icmp_gt_t DX1_markHour_7 c2 ?_
    refine R.sub (L' := []) [] rfl ?_
    cases h
    exact he0 _ rfl
  · replace h := if_f h c2
    refine R_icmp_gt_f DX1_markHour_7 c2 ?_
    refine R_constI DX1_markHour_10 ci_0 ?_
    refine R_istore [(3, .int (iI 0)), (0, .ref x0), (1, .int x1), (2, .int a.1)] DX1_markHour_11 (by decide) rfl ?_
    refine R.sub (L' := [(0, .ref x0), (1, .int x1), (2, .int a.1), (3, .int (iI 0))]) [1, 2, 3, 0] rfl ?_
    obtain ⟨r13, hi, h⟩ := bind_some h
    have hE : (fun u12 : Hp => R G MX1_markHour 70 [(0, .ref x0), (1, .int x1), (2, .int a.1)] [] u12 o) r13 → ∀ (q3 : Int32) (qs : Hp), iter (fX1_markHour_l12 x0 x1 a.1) FU (q3, qs) = some r13 → R G MX1_markHour 12 [(0, .ref x0), (1, .int x1), (2, .int a.1), (3, .int q3)] [] qs o := fun hX q3 qs hj => loop_R (fX1_markHour_l12 x0 x1 a.1) (fun p12 : Int32 × Hp => R G MX1_markHour 12 [(0, .ref x0), (1, .int x1), (2, .int a.1), (3, .int p12.1)] [] p12.2 o) (fun u12 : Hp => R G MX1_markHour 70 [(0, .ref x0), (1, .int x1), (2, .int a.1)] [] u12 o) (fun a w hw hc he => tX1_markHour_l12 hw (fun q3 qs e => hc (q3, qs) e) (fun qs e => he qs e)) FU (q3, qs) r13 hj hX
    refine hE ?_ _ _ hi
    clear hE hi
    refine R_iinc [(2, .int (a.1 + iI 1)), (0, .ref x0), (1, .int x1)] DX1_markHour_70 2 rfl (v := a.1 + iI 1) (by rfl) (by decide) rfl ?_
    refine R_goto DX1_markHour_73 ?_
    refine R.sub (L' := [(0, .ref x0), (1, .int x1), (2, .int (a.1 + iI 1))]) [1, 2, 0] rfl ?_
    cases h
    exact hc _ _ rfl
set_option maxRecDepth 8000 in
theorem kX1_markHour {G : Gm} {x0 : Nat} {x1 : Int32} {s : Hp} {w : Hp} (h : fX1_markHour x0 x1 s = some w) : (s.2.2 x0).1 = 1 ∧ Call G MX1_markHour [.ref x0, .int x1] s (none, w) := by
  unfold fX1_markHour at h
  obtain ⟨_, e0, h⟩ := bind_some h
  refine ⟨ck_some e0, Call.of_R pnRX1 (Nat.le_of_ble_eq_true rfl) ?_⟩
  clear e0
  show R G MX1_markHour 0 [(0, .ref x0), (1, .int x1)] [] s (none, w)
  refine R_constI DX1_markHour_0 ci_0 ?_
  refine R_istore [(2, .int (iI 0)), (0, .ref x0), (1, .int x1)] DX1_markHour_1 (by decide) rfl ?_
  refine R.sub (L' := [(0, .ref x0), (1, .int x1), (2, .int (iI 0))]) [1, 2, 0] rfl ?_
  obtain ⟨r14, hi, h⟩ := bind_some h
  have hE : (fun u2 : Hp => R G MX1_markHour 76 [] [] u2 (none, w)) r14 → ∀ (q2 : Int32) (qs : Hp), iter (fX1_markHour_l2 x0 x1) FU (q2, qs) = some r14 → R G MX1_markHour 2 [(0, .ref x0), (1, .int x1), (2, .int q2)] [] qs (none, w) := fun hX q2 qs hj => loop_R (fX1_markHour_l2 x0 x1) (fun p2 : Int32 × Hp => R G MX1_markHour 2 [(0, .ref x0), (1, .int x1), (2, .int p2.1)] [] p2.2 (none, w)) (fun u2 : Hp => R G MX1_markHour 76 [] [] u2 (none, w)) (fun a w hw hc he => tX1_markHour_l2 hw (fun q2 qs e => hc (q2, qs) e) (fun qs e => he qs e)) FU (q2, qs) r14 hj hX
  refine hE ?_ _ _ hi
  clear hE hi
  cases h
  exact R_return rfl DX1_markHour_76
set_option maxRecDepth 8000 in
theorem kX6_shopColumn {G : Gm} {x0 : Nat} {x1 : Int32} {s : Hp} {w : Int32 × Hp} (h : fX6_shopColumn x0 x1 s = some w) : (s.2.2 x0).1 = 6 ∧ Call G MX6_shopColumn [.ref x0, .int x1] s (some (.int w.1), w.2) := by
  unfold fX6_shopColumn at h
  obtain ⟨_, e0, h⟩ := bind_some h
  refine ⟨ck_some e0, Call.of_R pnRX6 (Nat.le_of_ble_eq_true rfl) ?_⟩
  clear e0
  show R G MX6_shopColumn 0 [(0, .ref x0), (1, .int x1)] [] s (some (.int w.1), w.2)
  refine R_aload DX6_shopColumn_0 0 rfl ?_
  refine R_iload DX6_shopColumn_1 1 rfl ?_
  refine R_constI DX6_shopColumn_2 ci_0 ?_
  obtain ⟨r1, er1, h⟩ := bind_some h
  refine R_cV1 [.int x1, .int (iI 0)] DX6_shopColumn_3 kzvX6_shopFact ml_RX6_63 ⟨Nat.le_of_ble_eq_true rfl, Nat.le_of_ble_eq_true rfl⟩ rfl (Nat.le_of_ble_eq_true rfl) (kX6_shopFact er1) ?_
  refine R_aload DX6_shopColumn_6 0 rfl ?_
  refine R_iload DX6_shopColumn_7 1 rfl ?_
  refine R_constI DX6_shopColumn_8 ci_1 ?_
  obtain ⟨r2, er2, h⟩ := bind_some h
  refine R_cV1 [.int x1, .int (iI 1)] DX6_shopColumn_9 kzvX6_shopFact ml_RX6_63 ⟨Nat.le_of_ble_eq_true rfl, Nat.le_of_ble_eq_true rfl⟩ rfl (Nat.le_of_ble_eq_true rfl) (kX6_shopFact er2) ?_
  obtain ⟨r3, er3, h⟩ := bind_some h
  refine R_cSN1 [.int r1.1, .int r2.1] DX6_shopColumn_12 kzsX8_columnOf ml_RX6_60 ⟨Nat.le_of_ble_eq_true rfl, Nat.le_of_ble_eq_true rfl⟩ rfl (Nat.le_of_ble_eq_true rfl) (kX8_columnOf er3) ?_
  cases h
  exact R_ireturn rfl DX6_shopColumn_15
set_option maxRecDepth 8000 in
theorem tX1_firstAct_b77 {G : Gm} {x0 : Nat} {x1 : Int32} {x2 : Int32} {x3 : Int32} {x4 : Int32} {x5 : Int32} {x6 : Int32} {s : Hp} {o : Option Value × Hp} {w : (Int32 × Hp) ⊕ ((Hp) ⊕ (Int32 × Hp))} (h : fX1_firstAct_b77 x0 x1 x2 x3 x4 x5 x6 s = some w) (hc : ∀ (q6 : Int32) (qs : Hp), w = .inl (q6, qs) → R G MX1_firstAct 3 [(0, .ref x0), (1, .int x1), (2, .int x2), (3, .int x3), (4, .int x4), (5, .int x5), (6, .int q6)] [] qs o) (he0 : ∀ (qs : Hp), w = .inr (.inl qs) → R G MX1_firstAct 83 [] [] qs o) (he1 : ∀ (q6 : Int32) (qs : Hp), w = .inr (.inr (q6, qs)) → R G MX1_firstAct 74 [(6, .int q6)] [] qs o) : R G MX1_firstAct 77 [(0, .ref x0), (1, .int x1), (2, .int x2), (3, .int x3), (4, .int x4), (5, .int x5), (6, .int x6)] [] s o := by
  unfold fX1_firstAct_b77 at h
  refine R_iinc [(6, .int (x6 + iI 1)), (0, .ref x0), (1, .int x1), (2, .int x2), (3, .int x3), (4, .int x4), (5, .int x5)] DX1_firstAct_77 6 rfl (v := x6 + iI 1) (by rfl) (by decide) rfl ?_
  refine R_goto DX1_firstAct_80 ?_
  refine R.sub (L' := [(0, .ref x0), (1, .int x1), (2, .int x2), (3, .int x3), (4, .int x4), (5, .int x5), (6, .int (x6 + iI 1))]) [1, 2, 3, 4, 5, 6, 0] rfl ?_
  cases h
  exact hc _ _ rfl
set_option maxRecDepth 8000 in
theorem tX1_firstAct_l3 {G : Gm} {x0 : Nat} {x1 : Int32} {x2 : Int32} {x3 : Int32} {x4 : Int32} {x5 : Int32} {o : Option Value × Hp} {a : Int32 × Hp} {w : (Int32 × Hp) ⊕ ((Hp) ⊕ (Int32 × Hp))} (h : fX1_firstAct_l3 x0 x1 x2 x3 x4 x5 a = some w) (hc : ∀ (q6 : Int32) (qs : Hp), w = .inl (q6, qs) → R G MX1_firstAct 3 [(0, .ref x0), (1, .int x1), (2, .int x2), (3, .int x3), (4, .int x4), (5, .int x5), (6, .int q6)] [] qs o) (he0 : ∀ (qs : Hp), w = .inr (.inl qs) → R G MX1_firstAct 83 [] [] qs o) (he1 : ∀ (q6 : Int32) (qs : Hp), w = .inr (.inr (q6, qs)) → R G MX1_firstAct 74 [(6, .int q6)] [] qs o) : R G MX1_firstAct 3 [(0, .ref x0), (1, .int x1), (2, .int x2), (3, .int x3), (4, .int x4), (5, .int x5), (6, .int a.1)] [] a.2 o := by
  unfold fX1_firstAct_l3 at h
  refine R_iload DX1_firstAct_3 6 rfl ?_
  refine R_constI DX1_firstAct_5 ci_3 ?_
  by_cases c1 : (iI 3) ≤ a.1
  · replace h := if_t h c1
    refine R_icmp_ge_t DX1_firstAct_6 c1 ?_
    refine R.sub (L' := []) [] rfl ?_
    cases h
    exact he0 _ rfl
  · replace h := if_f h c1
    refine R_icmp_ge_f DX1_firstAct_6 c1 ?_
    refine R_aload DX1_firstAct_9 0 rfl ?_
    refine R_iload DX1_firstAct_10 6 rfl ?_
    refine R_iload DX1_firstAct_12 2 rfl ?_
    refine R_iload DX1_firstAct_13 3 rfl ?_
    refine R_iload DX1_firstAct_14 4 rfl ?_
    obtain ⟨r2, er2, h⟩ := bind_some h
    refine R_cV1 [.int a.1, .int x2, .int x3, .int x4] DX1_firstAct_16 kzvX1_canAct ml_RX1_86 ⟨Nat.le_of_ble_eq_true rfl, Nat.le_of_ble_eq_true rfl⟩ rfl (Nat.le_of_ble_eq_true rfl) (kX1_canAct er2) ?_
    by_cases c3 : r2.1 = 0
    · replace h := if_t h c3
      refine R_if_eq_t DX1_firstAct_19 c3 ?_
      exact tX1_firstAct_b77 h hc he0 he1
    · replace h := if_f h c3
      refine R_if_eq_f DX1_firstAct_19 c3 ?_
      refine R_iload DX1_firstAct_22 6 rfl ?_
      refine R_iload DX1_firstAct_24 4 rfl ?_
      obtain ⟨r4, er4, h⟩ := bind_some h
      refine R_cS1 [.int a.1, .int x4] DX1_firstAct_26 kzsX1_levelBy ml_RX1_90 ⟨Nat.le_of_ble_eq_true rfl, Nat.le_of_ble_eq_true rfl⟩ rfl (Nat.le_of_ble_eq_true rfl) (kX1_levelBy er4) ?_
      refine R_istore [(7, .int r4.1), (0, .ref x0), (1, .int x1), (2, .int x2), (3, .int x3), (4, .int x4), (5, .int x5), (6, .int a.1)] DX1_firstAct_29 (by decide) rfl ?_
      refine R_aload DX1_firstAct_31 1 rfl ?_
      obtain ⟨v5, ev5, h⟩ := bind_some h
      refine R_gR DX1_firstAct_32 fl_RX1_36 ev5 ?_
      refine R_iload DX1_firstAct_35 6 rfl ?_
      refine R_aload DX1_firstAct_37 1 rfl ?_
      obtain ⟨v6, ev6, h⟩ := bind_some h
      refine R_gR DX1_firstAct_38 fl_RX1_36 ev6 ?_
      refine R_iload DX1_firstAct_41 0 rfl ?_
      refine R_iload DX1_firstAct_43 2 rfl ?_
      obtain ⟨r7, er7, h⟩ := bind_some h
      refine R_cV1 [.int r4.1, .int x1] DX1_firstAct_44 kzvX6_windAt ml_RX1_97 ⟨Nat.le_of_ble_eq_true rfl, Nat.le_of_ble_eq_true rfl⟩ rfl (Nat.le_of_ble_eq_true rfl) (kX6_windAt er7) ?_
      obtain ⟨r8, er8, h⟩ := bind_some h
      refine R_cV1 [.int x5, .int r7.1] DX1_firstAct_47 kzvX6_carried ml_RX1_126 ⟨Nat.le_of_ble_eq_true rfl, Nat.le_of_ble_eq_true rfl⟩ rfl (Nat.le_of_ble_eq_true rfl) (kX6_carried er8) ?_
      refine R_istore [(8, .int r8.1), (7, .int r4.1), (0, .ref x0), (1, .int x1), (2, .int x2), (3, .int x3), (4, .int x4), (5, .int x5), (6, .int a.1)] DX1_firstAct_50 (by decide) rfl ?_
      refine R_aload DX1_firstAct_52 2 rfl ?_
      refine R_iload DX1_firstAct_53 8 rfl ?_
      refine R_iload DX1_firstAct_55 3 rfl ?_
      refine R_iload DX1_firstAct_56 4 rfl ?_
      refine R_iload DX1_firstAct_57 5 rfl ?_
      refine R_iload DX1_firstAct_58 1 rfl ?_
      obtain ⟨r9, er9, h⟩ := bind_some h
      refine R_cV1 [.int a.1, .int x1, .int x2, .int x3, .int r4.1] DX1_firstAct_60 kzvX1_goalOf ml_RX1_93 ⟨Nat.le_of_ble_eq_true rfl, Nat.le_of_ble_eq_true rfl⟩ rfl (Nat.le_of_ble_eq_true rfl) (kX1_goalOf er9) ?_
      refine R_iload DX1_firstAct_63 0 rfl ?_
      obtain ⟨r10, er10, h⟩ := bind_some h
      refine R_cSN1 [.int r8.1] DX1_firstAct_65 kzsX8_bitOf ml_RX1_45 ⟨Nat.le_of_ble_eq_true rfl, Nat.le_of_ble_eq_true rfl⟩ rfl (Nat.le_of_ble_eq_true rfl) (kX8_bitOf er10) ?_
      refine R_land DX1_firstAct_68 ?_
      refine R_lconst DX1_firstAct_69 ?_
      refine R_lcmp DX1_firstAct_70 ?_
      by_cases c11 : (lg_cmp (r9.1 &&& r10.1) 0) = 0
      · replace h := if_t h c11
        refine R_if_eq_t DX1_firstAct_71 c11 ?_
        refine R.sub (L' := [(0, .ref x0), (1, .int x1), (2, .int x2), (3, .int x3), (4, .int x4), (5, .int x5), (6, .int a.1)]) [2, 3, 4, 5, 6, 7, 8] rfl ?_
        exact tX1_firstAct_b77 h hc he0 he1
      · replace h := if_f h c11
        refine R_if_eq_f DX1_firstAct_71 c11 ?_
        refine R.sub (L' := [(6, .int a.1)]) [8] rfl ?_
        cases h
        exact he1 _ _ rfl
set_option maxRecDepth 8000 in
theorem kX1_firstAct {G : Gm} {x0 : Nat} {x1 : Int32} {x2 : Int32} {x3 : Int32} {x4 : Int32} {x5 : Int32} {s : Hp} {w : Int32 × Hp} (h : fX1_firstAct x0 x1 x2 x3 x4 x5 s = some w) : (s.2.2 x0).1 = 1 ∧ Call G MX1_firstAct [.ref x0, .int x1, .int x2, .int x3, .int x4, .int x5] s (some (.int w.1), w.2) := by
  unfold fX1_firstAct at h
  obtain ⟨_, e0, h⟩ := bind_some h
  refine ⟨ck_some e0, Call.of_R pnRX1 (Nat.le_of_ble_eq_true rfl) ?_⟩
  clear e0
  show R G MX1_firstAct 0 [(0, .ref x0), (1, .int x1), (2, .int x2), (3, .int x3), (4, .int x4), (5, .int x5)] [] s (some (.int w.1), w.2)
  refine R_constI DX1_firstAct_0 ci_0 ?_
  refine R_istore [(6, .int (iI 0)), (0, .ref x0), (1, .int x1), (2, .int x2), (3, .int x3), (4, .int x4), (5, .int x5)] DX1_firstAct_1 (by decide) rfl ?_
  refine R.sub (L' := [(0, .ref x0), (1, .int x1), (2, .int x2), (3, .int x3), (4, .int x4), (5, .int x5), (6, .int (iI 0))]) [1, 2, 3, 4, 5, 6, 0] rfl ?_
  obtain ⟨r12, hi, h⟩ := bind_some h
  have hE : (Sum.elim (fun u3 : Hp => R G MX1_firstAct 83 [] [] u3 (some (.int w.1), w.2)) (fun u3 : Int32 × Hp => R G MX1_firstAct 74 [(6, .int u3.1)] [] u3.2 (some (.int w.1), w.2))) r12 → ∀ (q6 : Int32) (qs : Hp), iter (fX1_firstAct_l3 x0 x1 x2 x3 x4 x5) FU (q6, qs) = some r12 → R G MX1_firstAct 3 [(0, .ref x0), (1, .int x1), (2, .int x2), (3, .int x3), (4, .int x4), (5, .int x5), (6, .int q6)] [] qs (some (.int w.1), w.2) := fun hX q6 qs hj => loop_R (fX1_firstAct_l3 x0 x1 x2 x3 x4 x5) (fun p3 : Int32 × Hp => R G MX1_firstAct 3 [(0, .ref x0), (1, .int x1), (2, .int x2), (3, .int x3), (4, .int x4), (5, .int x5), (6, .int p3.1)] [] p3.2 (some (.int w.1), w.2)) (Sum.elim (fun u3 : Hp => R G MX1_firstAct 83 [] [] u3 (some (.int w.1), w.2)) (fun u3 : Int32 × Hp => R G MX1_firstAct 74 [(6, .int u3.1)] [] u3.2 (some (.int w.1), w.2))) (fun a w hw hc he => tX1_firstAct_l3 hw (fun q6 qs e => hc (q6, qs) e) (fun qs e => he (.inl qs) e) (fun q6 qs e => he (.inr (q6, qs)) e)) FU (q6, qs) r12 hj hX
  refine hE ?_ _ _ hi
  clear hE hi
  rcases r12 with r12a | r12b
  · replace h := el_l h
    refine R_constI DX1_firstAct_83 ci_0 ?_
    cases h
    exact R_ireturn rfl DX1_firstAct_84
  replace h := el_r h
  refine R_iload DX1_firstAct_74 0 rfl ?_
  cases h
  exact R_ireturn rfl DX1_firstAct_76
set_option maxRecDepth 8000 in
theorem tX1_walk_b97 {G : Gm} {x0 : Nat} {x2 : Int32} {x4 : Int32} {x6 : Int32} {x8 : Int32} {y0 : Int32} {y1 : Int32} {s : Hp} {o : Option Value × Hp} {w : (Int32 × Int32 × Int32 × Int32 × Int32 × Hp) ⊕ ((Hp))} (h : fX1_walk_b97 x0 x2 x4 x6 x8 y0 y1 s = some w) (hc : ∀ (q2 : Int32) (q3 : Int32) (q4 : Int32) (q5 : Int32) (q6 : Int32) (qs : Hp), w = .inl (q2, q3, q4, q5, q6, qs) → R G MX1_walk 28 [(0, .ref x0), (2, .int q2), (3, .int q3), (4, .int q4), (5, .int q5), (6, .int q6)] [] qs o) (he0 : ∀ (qs : Hp), w = .inr qs → R G MX1_walk 135 [] [] qs o) : R G MX1_walk 97 [(0, .ref x0), (2, .int x2), (4, .int x4), (6, .int x6), (8, .int x8)] [.int y1, .int y0] s o := by
  unfold fX1_walk_b97 at h
  refine R_iadd DX1_walk_97 ?_
  obtain ⟨z14, ez14, h⟩ := lt_some h
  refine R_istoreE ez14 [(5, .int z14), (0, .ref x0), (2, .int x2), (4, .int x4), (6, .int x6), (8, .int x8)] DX1_walk_98 (by decide) rfl ?_
  refine R_aload DX1_walk_100 1 rfl ?_
  obtain ⟨v15, ev15, h⟩ := bind_some h
  refine R_gR DX1_walk_101 fl_RX1_36 ev15 ?_
  refine R_iload DX1_walk_104 2 rfl ?_
  refine R_aload DX1_walk_105 1 rfl ?_
  obtain ⟨v16, ev16, h⟩ := bind_some h
  refine R_gR DX1_walk_106 fl_RX1_36 ev16 ?_
  refine R_iload DX1_walk_109 5 rfl ?_
  refine R_iload DX1_walk_111 4 rfl ?_
  obtain ⟨r17, er17, h⟩ := bind_some h
  refine R_cV1 [.int x8, .int x6] DX1_walk_113 kzvX6_windAt ml_RX1_97 ⟨Nat.le_of_ble_eq_true rfl, Nat.le_of_ble_eq_true rfl⟩ rfl (Nat.le_of_ble_eq_true rfl) (kX6_windAt er17) ?_
  obtain ⟨r18, er18, h⟩ := bind_some h
  refine R_cV1 [.int x2, .int r17.1] DX1_walk_116 kzvX6_carried ml_RX1_126 ⟨Nat.le_of_ble_eq_true rfl, Nat.le_of_ble_eq_true rfl⟩ rfl (Nat.le_of_ble_eq_true rfl) (kX6_carried er18) ?_
  refine R_istore [(2, .int r18.1), (5, .int z14), (0, .ref x0), (4, .int x4), (6, .int x6), (8, .int x8)] DX1_walk_119 (by decide) rfl ?_
  refine R_aload DX1_walk_120 2 rfl ?_
  refine R_iload DX1_walk_121 5 rfl ?_
  refine R_iload DX1_walk_123 4 rfl ?_
  obtain ⟨r19, er19, h⟩ := bind_some h
  refine R_cV1 [.int x8, .int x6] DX1_walk_125 kzvX1_cooled ml_RX1_106 ⟨Nat.le_of_ble_eq_true rfl, Nat.le_of_ble_eq_true rfl⟩ rfl (Nat.le_of_ble_eq_true rfl) (kX1_cooled er19) ?_
  refine R_istore [(3, .int r19.1), (2, .int r18.1), (5, .int z14), (0, .ref x0), (4, .int x4), (6, .int x6), (8, .int x8)] DX1_walk_128 (by decide) rfl ?_
  refine R_iinc [(6, .int (x6 + iI 1)), (3, .int r19.1), (2, .int r18.1), (5, .int z14), (0, .ref x0), (4, .int x4), (8, .int x8)] DX1_walk_129 5 rfl (v := x6 + iI 1) (by rfl) (by decide) rfl ?_
  refine R_goto DX1_walk_132 ?_
  refine R.sub (L' := [(0, .ref x0), (2, .int r18.1), (3, .int r19.1), (4, .int x4), (5, .int z14), (6, .int (x6 + iI 1))]) [4, 2, 1, 5, 3, 0] rfl ?_
  cases h
  exact hc _ _ _ _ _ _ rfl
set_option maxRecDepth 8000 in
theorem tX1_walk_b81 {G : Gm} {x0 : Nat} {x2 : Int32} {x5 : Int32} {x6 : Int32} {x7 : Int32} {x8 : Int32} {y0 : Int32} {y1 : Int32} {s : Hp} {o : Option Value × Hp} {w : (Int32 × Int32 × Int32 × Int32 × Int32 × Hp) ⊕ ((Hp))} (h : fX1_walk_b81 x0 x2 x5 x6 x7 x8 y0 y1 s = some w) (hc : ∀ (q2 : Int32) (q3 : Int32) (q4 : Int32) (q5 : Int32) (q6 : Int32) (qs : Hp), w = .inl (q2, q3, q4, q5, q6, qs) → R G MX1_walk 28 [(0, .ref x0), (2, .int q2), (3, .int q3), (4, .int q4), (5, .int q5), (6, .int q6)] [] qs o) (he0 : ∀ (qs : Hp), w = .inr qs → R G MX1_walk 135 [] [] qs o) : R G MX1_walk 81 [(0, .ref x0), (2, .int x2), (5, .int x5), (6, .int x6), (7, .int x7), (8, .int x8)] [.int y1, .int y0] s o := by
  unfold fX1_walk_b81 at h
  refine R_iadd DX1_walk_81 ?_
  obtain ⟨z12, ez12, h⟩ := lt_some h
  refine R_istoreE ez12 [(4, .int z12), (0, .ref x0), (2, .int x2), (5, .int x5), (6, .int x6), (7, .int x7), (8, .int x8)] DX1_walk_82 (by decide) rfl ?_
  refine R_iload DX1_walk_84 3 rfl ?_
  refine R_iload DX1_walk_86 5 rfl ?_
  refine R_constI DX1_walk_88 ci_2 ?_
  by_cases c13 : x7 = (iI 2)
  · replace h := if_t h c13
    refine R_icmp_ne_f DX1_walk_89 c13 ?_
    refine R_constI DX1_walk_92 ci_1 ?_
    refine R_goto DX1_walk_93 ?_
    refine R.sub (L' := [(0, .ref x0), (2, .int x2), (4, .int z12), (6, .int x6), (8, .int x8)]) [1, 2, 0, 4, 6] rfl ?_
    exact tX1_walk_b97 h hc he0
  · replace h := if_f h c13
    refine R_icmp_ne_t DX1_walk_89 c13 ?_
    refine R_constI DX1_walk_96 ci_0 ?_
    refine R.sub (L' := [(0, .ref x0), (2, .int x2), (4, .int z12), (6, .int x6), (8, .int x8)]) [1, 2, 0, 4, 6] rfl ?_
    exact tX1_walk_b97 h hc he0
set_option maxRecDepth 8000 in
theorem tX1_walk_l28 {G : Gm} {x0 : Nat} {o : Option Value × Hp} {a : Int32 × Int32 × Int32 × Int32 × Int32 × Hp} {w : (Int32 × Int32 × Int32 × Int32 × Int32 × Hp) ⊕ ((Hp))} (h : fX1_walk_l28 x0 a = some w) (hc : ∀ (q2 : Int32) (q3 : Int32) (q4 : Int32) (q5 : Int32) (q6 : Int32) (qs : Hp), w = .inl (q2, q3, q4, q5, q6, qs) → R G MX1_walk 28 [(0, .ref x0), (2, .int q2), (3, .int q3), (4, .int q4), (5, .int q5), (6, .int q6)] [] qs o) (he0 : ∀ (qs : Hp), w = .inr qs → R G MX1_walk 135 [] [] qs o) : R G MX1_walk 28 [(0, .ref x0), (2, .int a.1), (3, .int a.2.1), (4, .int a.2.2.1), (5, .int a.2.2.2.1), (6, .int a.2.2.2.2.1)] [] a.2.2.2.2.2 o := by
  unfold fX1_walk_l28 at h
  refine R_iload DX1_walk_28 5 rfl ?_
  refine R_aload DX1_walk_30 0 rfl ?_
  obtain ⟨v5, ev5, h⟩ := bind_some h
  refine R_gI DX1_walk_31 fl_RX1_15 ev5 ?_
  by_cases c6 : v5 < a.2.2.2.2.1
  · replace h := if_t h c6
    refine R_icmp_gt_t DX1_walk_34 c6 ?_
    refine R.sub (L' := []) [] rfl ?_
    cases h
    exact he0 _ rfl
  · replace h := if_f h c6
    refine R_icmp_gt_f DX1_walk_34 c6 ?_
    refine R_aload DX1_walk_37 0 rfl ?_
    refine R_iload DX1_walk_38 5 rfl ?_
    refine R_iload DX1_walk_40 3 rfl ?_
    refine R_iload DX1_walk_42 4 rfl ?_
    refine R_iload DX1_walk_44 2 rfl ?_
    refine R_iload DX1_walk_45 1 rfl ?_
    obtain ⟨r7, er7, h⟩ := bind_some h
    refine R_cV1 [.int a.2.2.2.2.1, .int a.2.2.1, .int a.2.2.2.1, .int a.2.1, .int a.1] DX1_walk_46 kzvX1_firstAct ml_RX1_122 ⟨Nat.le_of_ble_eq_true rfl, Nat.le_of_ble_eq_true rfl⟩ rfl (Nat.le_of_ble_eq_true rfl) (kX1_firstAct er7) ?_
    refine R_istore [(7, .int r7.1), (0, .ref x0), (2, .int a.1), (3, .int a.2.1), (4, .int a.2.2.1), (5, .int a.2.2.2.1), (6, .int a.2.2.2.2.1)] DX1_walk_49 (by decide) rfl ?_
    refine R_iload DX1_walk_51 0 rfl ?_
    refine R_iload DX1_walk_53 3 rfl ?_
    obtain ⟨r8, er8, h⟩ := bind_some h
    refine R_cS1 [.int r7.1, .int a.2.1] DX1_walk_54 kzsX1_levelBy ml_RX1_90 ⟨Nat.le_of_ble_eq_true rfl, Nat.le_of_ble_eq_true rfl⟩ rfl (Nat.le_of_ble_eq_true rfl) (kX1_levelBy er8) ?_
    refine R_istore [(8, .int r8.1), (7, .int r7.1), (0, .ref x0), (2, .int a.1), (3, .int a.2.1), (4, .int a.2.2.1), (5, .int a.2.2.2.1), (6, .int a.2.2.2.2.1)] DX1_walk_57 (by decide) rfl ?_
    refine R_aload DX1_walk_59 2 rfl ?_
    obtain ⟨v9, ev9, h⟩ := bind_some h
    refine R_gR DX1_walk_60 fl_RX1_9 ev9 ?_
    refine R_iload DX1_walk_63 7 rfl ?_
    refine R_iload DX1_walk_65 1 rfl ?_
    obtain ⟨s10, es10, h⟩ := bind_some h
    refine R_sI DX1_walk_67 es10 ?_
    refine R_iload DX1_walk_68 5 rfl ?_
    refine R_iload DX1_walk_70 1 rfl ?_
    refine R_constI DX1_walk_72 ci_1 ?_
    by_cases c11 : r7.1 = (iI 1)
    · replace h := if_t h c11
      refine R_icmp_ne_f DX1_walk_73 c11 ?_
      refine R_constI DX1_walk_76 ci_1 ?_
      refine R_goto DX1_walk_77 ?_
      refine R.sub (L' := [(0, .ref x0), (2, .int a.1), (5, .int a.2.2.2.1), (6, .int a.2.2.2.2.1), (7, .int r7.1), (8, .int r8.1)]) [2, 3, 6, 7, 1, 0] rfl ?_
      exact tX1_walk_b81 h hc he0
    · replace h := if_f h c11
      refine R_icmp_ne_t DX1_walk_73 c11 ?_
      refine R_constI DX1_walk_80 ci_0 ?_
      refine R.sub (L' := [(0, .ref x0), (2, .int a.1), (5, .int a.2.2.2.1), (6, .int a.2.2.2.2.1), (7, .int r7.1), (8, .int r8.1)]) [2, 3, 6, 7, 1, 0] rfl ?_
      exact tX1_walk_b81 h hc he0
set_option maxRecDepth 8000 in
theorem kX1_walk {G : Gm} {x0 : Nat} {x1 : Int32} {s : Hp} {w : Hp} (h : fX1_walk x0 x1 s = some w) : (s.2.2 x0).1 = 1 ∧ Call G MX1_walk [.ref x0, .int x1] s (none, w) := by
  unfold fX1_walk at h
  obtain ⟨_, e0, h⟩ := bind_some h
  refine ⟨ck_some e0, Call.of_R pnRX1 (Nat.le_of_ble_eq_true rfl) ?_⟩
  clear e0
  show R G MX1_walk 0 [(0, .ref x0), (1, .int x1)] [] s (none, w)
  refine R_aload DX1_walk_0 0 rfl ?_
  obtain ⟨v1, ev1, h⟩ := bind_some h
  refine R_gR DX1_walk_1 fl_RX1_36 ev1 ?_
  refine R_iload DX1_walk_4 1 rfl ?_
  obtain ⟨r2, er2, h⟩ := bind_some h
  refine R_cV1 [.int x1] DX1_walk_5 kzvX6_shopColumn ml_RX1_118 ⟨Nat.le_of_ble_eq_true rfl, Nat.le_of_ble_eq_true rfl⟩ rfl (Nat.le_of_ble_eq_true rfl) (kX6_shopColumn er2) ?_
  refine R_istore [(2, .int r2.1), (0, .ref x0), (1, .int x1)] DX1_walk_8 (by decide) rfl ?_
  refine R_aload DX1_walk_9 1 rfl ?_
  obtain ⟨v3, ev3, h⟩ := bind_some h
  refine R_gR DX1_walk_10 fl_RX1_36 ev3 ?_
  refine R_iload DX1_walk_13 2 rfl ?_
  refine R_constI DX1_walk_14 ci_2 ?_
  obtain ⟨r4, er4, h⟩ := bind_some h
  refine R_cV1 [.int x1, .int (iI 2)] DX1_walk_15 kzvX6_shopFact ml_RX1_61 ⟨Nat.le_of_ble_eq_true rfl, Nat.le_of_ble_eq_true rfl⟩ rfl (Nat.le_of_ble_eq_true rfl) (kX6_shopFact er4) ?_
  refine R_istore [(3, .int r4.1), (2, .int r2.1), (0, .ref x0), (1, .int x1)] DX1_walk_18 (by decide) rfl ?_
  refine R_constI DX1_walk_19 ci_0 ?_
  refine R_istore [(4, .int (iI 0)), (3, .int r4.1), (2, .int r2.1), (0, .ref x0), (1, .int x1)] DX1_walk_20 (by decide) rfl ?_
  refine R_constI DX1_walk_22 ci_0 ?_
  refine R_istore [(5, .int (iI 0)), (4, .int (iI 0)), (3, .int r4.1), (2, .int r2.1), (0, .ref x0), (1, .int x1)] DX1_walk_23 (by decide) rfl ?_
  refine R_constI DX1_walk_25 ci_0 ?_
  refine R_istore [(6, .int (iI 0)), (5, .int (iI 0)), (4, .int (iI 0)), (3, .int r4.1), (2, .int r2.1), (0, .ref x0), (1, .int x1)] DX1_walk_26 (by decide) rfl ?_
  refine R.sub (L' := [(0, .ref x0), (2, .int r2.1), (3, .int r4.1), (4, .int (iI 0)), (5, .int (iI 0)), (6, .int (iI 0))]) [5, 4, 3, 2, 1, 0] rfl ?_
  obtain ⟨r20, hi, h⟩ := bind_some h
  have hE : (fun u28 : Hp => R G MX1_walk 135 [] [] u28 (none, w)) r20 → ∀ (q2 : Int32) (q3 : Int32) (q4 : Int32) (q5 : Int32) (q6 : Int32) (qs : Hp), iter (fX1_walk_l28 x0) FU (q2, q3, q4, q5, q6, qs) = some r20 → R G MX1_walk 28 [(0, .ref x0), (2, .int q2), (3, .int q3), (4, .int q4), (5, .int q5), (6, .int q6)] [] qs (none, w) := fun hX q2 q3 q4 q5 q6 qs hj => loop_R (fX1_walk_l28 x0) (fun p28 : Int32 × Int32 × Int32 × Int32 × Int32 × Hp => R G MX1_walk 28 [(0, .ref x0), (2, .int p28.1), (3, .int p28.2.1), (4, .int p28.2.2.1), (5, .int p28.2.2.2.1), (6, .int p28.2.2.2.2.1)] [] p28.2.2.2.2.2 (none, w)) (fun u28 : Hp => R G MX1_walk 135 [] [] u28 (none, w)) (fun a w hw hc he => tX1_walk_l28 hw (fun q2 q3 q4 q5 q6 qs e => hc (q2, q3, q4, q5, q6, qs) e) (fun qs e => he qs e)) FU (q2, q3, q4, q5, q6, qs) r20 hj hX
  refine hE ?_ _ _ _ _ _ _ hi
  clear hE hi
  cases h
  exact R_return rfl DX1_walk_135
set_option maxRecDepth 8000 in
theorem tX1_find_l92 {G : Gm} {x0 : Nat} {x2 : Int32} {x4 : Int32} {x5 : Int32} {x6 : Int32} {o : Option Value × Hp} {a : Int32 × Hp} {w : (Int32 × Hp) ⊕ ((Hp))} (h : fX1_find_l92 x0 x2 x4 x5 x6 a = some w) (hc : ∀ (q7 : Int32) (qs : Hp), w = .inl (q7, qs) → R G MX1_find 92 [(0, .ref x0), (2, .int x2), (4, .int x4), (5, .int x5), (6, .int x6), (7, .int q7)] [] qs o) (he0 : ∀ (qs : Hp), w = .inr qs → R G MX1_find 113 [(0, .ref x0), (2, .int x2), (4, .int x4), (5, .int x5)] [] qs o) : R G MX1_find 92 [(0, .ref x0), (2, .int x2), (4, .int x4), (5, .int x5), (6, .int x6), (7, .int a.1)] [] a.2 o := by
  unfold fX1_find_l92 at h
  refine R_iload DX1_find_92 5 rfl ?_
  refine R_iload DX1_find_94 4 rfl ?_
  by_cases c19 : x6 ≤ a.1
  · replace h := if_t h c19
    refine R_icmp_ge_t DX1_find_96 c19 ?_
    refine R.sub (L' := [(0, .ref x0), (2, .int x2), (4, .int x4), (5, .int x5)]) [0, 1, 2, 3] rfl ?_
    cases h
    exact he0 _ rfl
  · replace h := if_f h c19
    refine R_icmp_ge_f DX1_find_96 c19 ?_
    refine R_aload DX1_find_99 0 rfl ?_
    obtain ⟨v20, ev20, h⟩ := bind_some h
    refine R_gR DX1_find_100 fl_RX1_19 ev20 ?_
    refine R_iload DX1_find_103 5 rfl ?_
    refine R_lconst DX1_find_105 ?_
    obtain ⟨s21, es21, h⟩ := bind_some h
    refine R_sL DX1_find_106 es21 ?_
    refine R_iinc [(7, .int (a.1 + iI 1)), (0, .ref x0), (2, .int x2), (4, .int x4), (5, .int x5), (6, .int x6)] DX1_find_107 5 rfl (v := a.1 + iI 1) (by rfl) (by decide) rfl ?_
    refine R_goto DX1_find_110 ?_
    refine R.sub (L' := [(0, .ref x0), (2, .int x2), (4, .int x4), (5, .int x5), (6, .int x6), (7, .int (a.1 + iI 1))]) [1, 2, 3, 4, 5, 0] rfl ?_
    cases h
    exact hc _ _ rfl
set_option maxRecDepth 8000 in
theorem tX1_find_l116 {G : Gm} {x0 : Nat} {x2 : Int32} {x4 : Int32} {x5 : Int32} {o : Option Value × Hp} {a : Int32 × Hp} {w : (Int32 × Hp) ⊕ ((Hp))} (h : fX1_find_l116 x0 x2 x4 x5 a = some w) (hc : ∀ (q7 : Int32) (qs : Hp), w = .inl (q7, qs) → R G MX1_find 116 [(0, .ref x0), (2, .int x2), (4, .int x4), (5, .int x5), (7, .int q7)] [] qs o) (he0 : ∀ (qs : Hp), w = .inr qs → R G MX1_find 159 [(0, .ref x0), (2, .int x2)] [] qs o) : R G MX1_find 116 [(0, .ref x0), (2, .int x2), (4, .int x4), (5, .int x5), (7, .int a.1)] [] a.2 o := by
  unfold fX1_find_l116 at h
  refine R_iload DX1_find_116 4 rfl ?_
  refine R_aload DX1_find_118 0 rfl ?_
  obtain ⟨v23, ev23, h⟩ := bind_some h
  refine R_gI DX1_find_119 fl_RX1_65 ev23 ?_
  by_cases c24 : v23 < a.1
  · replace h := if_t h c24
    refine R_icmp_gt_t DX1_find_122 c24 ?_
    refine R.sub (L' := [(0, .ref x0), (2, .int x2)]) [0, 1] rfl ?_
    cases h
    exact he0 _ rfl
  · replace h := if_f h c24
    refine R_icmp_gt_f DX1_find_122 c24 ?_
    refine R_aload DX1_find_125 0 rfl ?_
    obtain ⟨v25, ev25, h⟩ := bind_some h
    refine R_gR DX1_find_126 fl_RX1_19 ev25 ?_
    refine R_aload DX1_find_129 0 rfl ?_
    refine R_aload DX1_find_130 0 rfl ?_
    obtain ⟨v26, ev26, h⟩ := bind_some h
    refine R_gI DX1_find_131 fl_RX1_15 ev26 ?_
    refine R_constI DX1_find_134 ci_1 ?_
    refine R_iadd DX1_find_135 ?_
    refine R_aload DX1_find_136 0 rfl ?_
    obtain ⟨v27, ev27, h⟩ := bind_some h
    refine R_gI DX1_find_137 fl_RX1_58 ev27 ?_
    refine R_iload DX1_find_140 4 rfl ?_
    refine R_iload DX1_find_142 3 rfl ?_
    obtain ⟨r28, er28, h⟩ := bind_some h
    refine R_cV1 [.int (v26 + (iI 1)), .int v27, .int a.1, .int x5] DX1_find_144 kzvX1_placeOf ml_RX1_71 ⟨Nat.le_of_ble_eq_true rfl, Nat.le_of_ble_eq_true rfl⟩ rfl (Nat.le_of_ble_eq_true rfl) (kX1_placeOf er28) ?_
    refine R_iload DX1_find_147 2 rfl ?_
    obtain ⟨r29, er29, h⟩ := bind_some h
    refine R_cSN1 [.int x4] DX1_find_149 kzsX8_bitOf ml_RX1_45 ⟨Nat.le_of_ble_eq_true rfl, Nat.le_of_ble_eq_true rfl⟩ rfl (Nat.le_of_ble_eq_true rfl) (kX8_bitOf er29) ?_
    obtain ⟨s30, es30, h⟩ := bind_some h
    refine R_sL DX1_find_152 es30 ?_
    refine R_iinc [(7, .int (a.1 + iI 1)), (0, .ref x0), (2, .int x2), (4, .int x4), (5, .int x5)] DX1_find_153 4 rfl (v := a.1 + iI 1) (by rfl) (by decide) rfl ?_
    refine R_goto DX1_find_156 ?_
    refine R.sub (L' := [(0, .ref x0), (2, .int x2), (4, .int x4), (5, .int x5), (7, .int (a.1 + iI 1))]) [1, 2, 3, 4, 0] rfl ?_
    cases h
    exact hc _ _ rfl
set_option maxRecDepth 8000 in
theorem tX1_find_l165 {G : Gm} {x0 : Nat} {x2 : Int32} {o : Option Value × Hp} {a : Int32 × Hp} {w : (Int32 × Hp) ⊕ ((Hp))} (h : fX1_find_l165 x0 x2 a = some w) (hc : ∀ (q7 : Int32) (qs : Hp), w = .inl (q7, qs) → R G MX1_find 165 [(0, .ref x0), (2, .int x2), (7, .int q7)] [] qs o) (he0 : ∀ (qs : Hp), w = .inr qs → R G MX1_find 182 [(0, .ref x0), (2, .int x2)] [] qs o) : R G MX1_find 165 [(0, .ref x0), (2, .int x2), (7, .int a.1)] [] a.2 o := by
  unfold fX1_find_l165 at h
  refine R_iload DX1_find_165 2 rfl ?_
  by_cases c33 : a.1 ≤ 0
  · replace h := if_t h c33
    refine R_if_le_t DX1_find_167 c33 ?_
    refine R.sub (L' := [(0, .ref x0), (2, .int x2)]) [0, 1] rfl ?_
    cases h
    exact he0 _ rfl
  · replace h := if_f h c33
    refine R_if_le_f DX1_find_167 c33 ?_
    refine R_aload DX1_find_170 0 rfl ?_
    refine R_iload DX1_find_171 2 rfl ?_
    obtain ⟨s34, es34, h⟩ := bind_some h
    refine R_cV0 [.int a.1] DX1_find_173 kzvX1_markHour ml_RX1_75 ⟨Nat.le_of_ble_eq_true rfl, Nat.le_of_ble_eq_true rfl⟩ rfl (Nat.le_of_ble_eq_true rfl) (kX1_markHour es34) ?_
    refine R_iinc [(7, .int (a.1 + iI (-1))), (0, .ref x0), (2, .int x2)] DX1_find_176 2 rfl (v := a.1 + iI (-1)) (by rfl) (by decide) rfl ?_
    refine R_goto DX1_find_179 ?_
    refine R.sub (L' := [(0, .ref x0), (2, .int x2), (7, .int (a.1 + iI (-1)))]) [1, 2, 0] rfl ?_
    cases h
    exact hc _ _ rfl
set_option maxRecDepth 8000 in
theorem kX1_find {G : Gm} {x0 : Nat} {x1 : Nat} {x2 : Int32} {x3 : Nat} {x4 : Int32} {x5 : Int32} {s : Hp} {w : Hp} (h : fX1_find x0 x1 x2 x3 x4 x5 s = some w) : (s.2.2 x0).1 = 1 ∧ Call G MX1_find [.ref x0, .ref x1, .int x2, .ref x3, .int x4, .int x5] s (none, w) := by
  unfold fX1_find at h
  obtain ⟨_, e0, h⟩ := bind_some h
  refine ⟨ck_some e0, Call.of_R pnRX1 (Nat.le_of_ble_eq_true rfl) ?_⟩
  clear e0
  show R G MX1_find 0 [(0, .ref x0), (1, .ref x1), (2, .int x2), (3, .ref x3), (4, .int x4), (5, .int x5)] [] s (none, w)
  refine R_aload DX1_find_0 0 rfl ?_
  refine R_aload DX1_find_1 1 rfl ?_
  obtain ⟨s1, es1, h⟩ := bind_some h
  refine R_pR DX1_find_2 fl_RX1_36 es1 ?_
  refine R_aload DX1_find_5 0 rfl ?_
  refine R_aload DX1_find_6 3 rfl ?_
  refine R_aload DX1_find_7 1 rfl ?_
  obtain ⟨v2, ev2, h⟩ := bind_some h
  refine R_gI DX1_find_8 fl_RX1_40 ev2 ?_
  refine R_iload DX1_find_11 5 rfl ?_
  refine R_iload DX1_find_13 4 rfl ?_
  obtain ⟨r3, er3, h⟩ := bind_some h
  refine R_cSN1 [.int x4] DX1_find_15 kzsX8_bitOf ml_RX1_45 ⟨Nat.le_of_ble_eq_true rfl, Nat.le_of_ble_eq_true rfl⟩ rfl (Nat.le_of_ble_eq_true rfl) (kX8_bitOf er3) ?_
  obtain ⟨r4, er4, h⟩ := bind_some h
  refine R_cV1 [.int v2, .int x5, .long r3.1] DX1_find_18 kzvX2_soonestOf ml_RX1_49 ⟨Nat.le_of_ble_eq_true rfl, Nat.le_of_ble_eq_true rfl⟩ rfl (Nat.le_of_ble_eq_true rfl) (kX2_soonestOf er4) ?_
  obtain ⟨s5, es5, h⟩ := bind_some h
  refine R_pI DX1_find_21 fl_RX1_15 es5 ?_
  refine R_aload DX1_find_24 0 rfl ?_
  obtain ⟨v6, ev6, h⟩ := bind_some h
  refine R_gI DX1_find_25 fl_RX1_15 ev6 ?_
  refine R_constI DX1_find_28 ci_m1 ?_
  by_cases c7 : v6 = (iI (-1))
  · replace h := if_t h c7
    refine R_icmp_ne_f DX1_find_29 c7 ?_
    cases h
    exact R_return rfl DX1_find_32
  · replace h := if_f h c7
    refine R_icmp_ne_t DX1_find_29 c7 ?_
    refine R_aload DX1_find_33 0 rfl ?_
    refine R_aload DX1_find_34 3 rfl ?_
    refine R_aload DX1_find_35 0 rfl ?_
    obtain ⟨v8, ev8, h⟩ := bind_some h
    refine R_gI DX1_find_36 fl_RX1_15 ev8 ?_
    refine R_iload DX1_find_39 5 rfl ?_
    refine R_iload DX1_find_41 4 rfl ?_
    obtain ⟨r9, er9, h⟩ := bind_some h
    refine R_cSN1 [.int x4] DX1_find_43 kzsX8_bitOf ml_RX1_45 ⟨Nat.le_of_ble_eq_true rfl, Nat.le_of_ble_eq_true rfl⟩ rfl (Nat.le_of_ble_eq_true rfl) (kX8_bitOf er9) ?_
    obtain ⟨r10, er10, h⟩ := bind_some h
    refine R_cV1 [.int v8, .int x5, .long r9.1] DX1_find_46 kzvX2_leastAt ml_RX1_55 ⟨Nat.le_of_ble_eq_true rfl, Nat.le_of_ble_eq_true rfl⟩ rfl (Nat.le_of_ble_eq_true rfl) (kX2_leastAt er10) ?_
    obtain ⟨s11, es11, h⟩ := bind_some h
    refine R_pI DX1_find_49 fl_RX1_58 es11 ?_
    refine R_aload DX1_find_52 0 rfl ?_
    refine R_aload DX1_find_53 1 rfl ?_
    refine R_iload DX1_find_54 2 rfl ?_
    refine R_constI DX1_find_55 ci_4 ?_
    obtain ⟨r12, er12, h⟩ := bind_some h
    refine R_cV1 [.int x2, .int (iI 4)] DX1_find_56 kzvX6_shopFact ml_RX1_61 ⟨Nat.le_of_ble_eq_true rfl, Nat.le_of_ble_eq_true rfl⟩ rfl (Nat.le_of_ble_eq_true rfl) (kX6_shopFact er12) ?_
    obtain ⟨s13, es13, h⟩ := bind_some h
    refine R_pI DX1_find_59 fl_RX1_65 es13 ?_
    refine R_aload DX1_find_62 0 rfl ?_
    obtain ⟨v14, ev14, h⟩ := bind_some h
    refine R_gI DX1_find_63 fl_RX1_15 ev14 ?_
    refine R_constI DX1_find_66 ci_2 ?_
    refine R_iadd DX1_find_67 ?_
    refine R_aload DX1_find_68 0 rfl ?_
    obtain ⟨v15, ev15, h⟩ := bind_some h
    refine R_gI DX1_find_69 fl_RX1_58 ev15 ?_
    refine R_constI DX1_find_72 ci_1 ?_
    refine R_iadd DX1_find_73 ?_
    refine R_imul DX1_find_74 ?_
    refine R_aload DX1_find_75 0 rfl ?_
    obtain ⟨v16, ev16, h⟩ := bind_some h
    refine R_gI DX1_find_76 fl_RX1_65 ev16 ?_
    refine R_constI DX1_find_79 ci_1 ?_
    refine R_iadd DX1_find_80 ?_
    refine R_imul DX1_find_81 ?_
    refine R_aload DX1_find_82 1 rfl ?_
    obtain ⟨v17, ev17, h⟩ := bind_some h
    refine R_gI DX1_find_83 fl_RX1_68 ev17 ?_
    refine R_imul DX1_find_86 ?_
    obtain ⟨z18, ez18, h⟩ := lt_some h
    refine R_istoreE ez18 [(6, .int z18), (0, .ref x0), (1, .ref x1), (2, .int x2), (3, .ref x3), (4, .int x4), (5, .int x5)] DX1_find_87 (by decide) rfl ?_
    refine R_constI DX1_find_89 ci_0 ?_
    refine R_istore [(7, .int (iI 0)), (6, .int z18), (0, .ref x0), (1, .ref x1), (2, .int x2), (3, .ref x3), (4, .int x4), (5, .int x5)] DX1_find_90 (by decide) rfl ?_
    refine R.sub (L' := [(0, .ref x0), (2, .int x2), (4, .int x4), (5, .int x5), (6, .int z18), (7, .int (iI 0))]) [2, 4, 6, 7, 1, 0] rfl ?_
    obtain ⟨r22, hi, h⟩ := bind_some h
    have hE : (fun u92 : Hp => R G MX1_find 113 [(0, .ref x0), (2, .int x2), (4, .int x4), (5, .int x5)] [] u92 (none, w)) r22 → ∀ (q7 : Int32) (qs : Hp), iter (fX1_find_l92 x0 x2 x4 x5 z18) FU (q7, qs) = some r22 → R G MX1_find 92 [(0, .ref x0), (2, .int x2), (4, .int x4), (5, .int x5), (6, .int z18), (7, .int q7)] [] qs (none, w) := fun hX q7 qs hj => loop_R (fX1_find_l92 x0 x2 x4 x5 z18) (fun p92 : Int32 × Hp => R G MX1_find 92 [(0, .ref x0), (2, .int x2), (4, .int x4), (5, .int x5), (6, .int z18), (7, .int p92.1)] [] p92.2 (none, w)) (fun u92 : Hp => R G MX1_find 113 [(0, .ref x0), (2, .int x2), (4, .int x4), (5, .int x5)] [] u92 (none, w)) (fun a w hw hc he => tX1_find_l92 hw (fun q7 qs e => hc (q7, qs) e) (fun qs e => he qs e)) FU (q7, qs) r22 hj hX
    refine hE ?_ _ _ hi
    clear hE hi
    refine R_constI DX1_find_113 ci_0 ?_
    refine R_istore [(7, .int (iI 0)), (0, .ref x0), (2, .int x2), (4, .int x4), (5, .int x5)] DX1_find_114 (by decide) rfl ?_
    refine R.sub (L' := [(0, .ref x0), (2, .int x2), (4, .int x4), (5, .int x5), (7, .int (iI 0))]) [1, 2, 3, 4, 0] rfl ?_
    obtain ⟨r31, hi, h⟩ := bind_some h
    have hE : (fun u116 : Hp => R G MX1_find 159 [(0, .ref x0), (2, .int x2)] [] u116 (none, w)) r31 → ∀ (q7 : Int32) (qs : Hp), iter (fX1_find_l116 x0 x2 x4 x5) FU (q7, qs) = some r31 → R G MX1_find 116 [(0, .ref x0), (2, .int x2), (4, .int x4), (5, .int x5), (7, .int q7)] [] qs (none, w) := fun hX q7 qs hj => loop_R (fX1_find_l116 x0 x2 x4 x5) (fun p116 : Int32 × Hp => R G MX1_find 116 [(0, .ref x0), (2, .int x2), (4, .int x4), (5, .int x5), (7, .int p116.1)] [] p116.2 (none, w)) (fun u116 : Hp => R G MX1_find 159 [(0, .ref x0), (2, .int x2)] [] u116 (none, w)) (fun a w hw hc he => tX1_find_l116 hw (fun q7 qs e => hc (q7, qs) e) (fun qs e => he qs e)) FU (q7, qs) r31 hj hX
    refine hE ?_ _ _ hi
    clear hE hi
    refine R_aload DX1_find_159 0 rfl ?_
    obtain ⟨v32, ev32, h⟩ := bind_some h
    refine R_gI DX1_find_160 fl_RX1_15 ev32 ?_
    refine R_istore [(7, .int v32), (0, .ref x0), (2, .int x2)] DX1_find_163 (by decide) rfl ?_
    refine R.sub (L' := [(0, .ref x0), (2, .int x2), (7, .int v32)]) [1, 2, 0] rfl ?_
    obtain ⟨r35, hi, h⟩ := bind_some h
    have hE : (fun u165 : Hp => R G MX1_find 182 [(0, .ref x0), (2, .int x2)] [] u165 (none, w)) r35 → ∀ (q7 : Int32) (qs : Hp), iter (fX1_find_l165 x0 x2) FU (q7, qs) = some r35 → R G MX1_find 165 [(0, .ref x0), (2, .int x2), (7, .int q7)] [] qs (none, w) := fun hX q7 qs hj => loop_R (fX1_find_l165 x0 x2) (fun p165 : Int32 × Hp => R G MX1_find 165 [(0, .ref x0), (2, .int x2), (7, .int p165.1)] [] p165.2 (none, w)) (fun u165 : Hp => R G MX1_find 182 [(0, .ref x0), (2, .int x2)] [] u165 (none, w)) (fun a w hw hc he => tX1_find_l165 hw (fun q7 qs e => hc (q7, qs) e) (fun qs e => he qs e)) FU (q7, qs) r35 hj hX
    refine hE ?_ _ _ hi
    clear hE hi
    refine R_aload DX1_find_182 0 rfl ?_
    refine R_iload DX1_find_183 1 rfl ?_
    obtain ⟨s36, es36, h⟩ := bind_some h
    refine R_cV0 [.int x2] DX1_find_184 kzvX1_walk ml_RX1_79 ⟨Nat.le_of_ble_eq_true rfl, Nat.le_of_ble_eq_true rfl⟩ rfl (Nat.le_of_ble_eq_true rfl) (kX1_walk es36) ?_
    cases h
    exact R_return rfl DX1_find_187
set_option maxRecDepth 8000 in
theorem kX2_init {G : Gm} {x0 : Nat} {s : Hp} {w : Hp} (h : fX2_init x0 s = some w) : (s.2.2 x0).1 = 2 ∧ Call G MX2_init [.ref x0] s (none, w) := by
  unfold fX2_init at h
  obtain ⟨_, e0, h⟩ := bind_some h
  refine ⟨ck_some e0, Call.of_R pnRX2 (Nat.le_of_ble_eq_true rfl) ?_⟩
  clear e0
  show R G MX2_init 0 [(0, .ref x0)] [] s (none, w)
  refine R_aload DX2_init_0 0 rfl ?_
  refine R_objInit DX2_init_1 oi_RX2_3 ⟨Nat.le_of_ble_eq_true rfl, Nat.le_of_ble_eq_true rfl⟩ ?_
  refine R_aload DX2_init_4 0 rfl ?_
  refine R_constI DX2_init_5 ci_1200 ?_
  obtain ⟨s1, es1, h⟩ := bind_some h
  refine R_newa at21 aw21 DX2_init_8 es1 ?_
  obtain ⟨s2, es2, h⟩ := bind_some h
  refine R_pAF DX2_init_10 fl_RX2_9 ⟨rfl, _, rfl⟩ es2 ?_
  refine R_aload DX2_init_13 0 rfl ?_
  refine R_constI DX2_init_14 ci_32 ?_
  obtain ⟨s3, es3, h⟩ := bind_some h
  refine R_newa at20 aw20 DX2_init_16 es3 ?_
  obtain ⟨s4, es4, h⟩ := bind_some h
  refine R_pAF DX2_init_18 fl_RX2_15 ⟨rfl, _, rfl⟩ es4 ?_
  refine R_aload DX2_init_21 0 rfl ?_
  refine R_constI DX2_init_22 ci_32 ?_
  obtain ⟨s5, es5, h⟩ := bind_some h
  refine R_newa at20 aw20 DX2_init_24 es5 ?_
  obtain ⟨s6, es6, h⟩ := bind_some h
  refine R_pAF DX2_init_26 fl_RX2_19 ⟨rfl, _, rfl⟩ es6 ?_
  cases h
  exact R_return rfl DX2_init_29
set_option maxRecDepth 8000 in
theorem tX2_clearCells_l2 {G : Gm} {x0 : Nat} {o : Option Value × Hp} {a : Int32 × Hp} {w : (Int32 × Hp) ⊕ ((Hp))} (h : fX2_clearCells_l2 x0 a = some w) (hc : ∀ (q1 : Int32) (qs : Hp), w = .inl (q1, qs) → R G MX2_clearCells 2 [(0, .ref x0), (1, .int q1)] [] qs o) (he0 : ∀ (qs : Hp), w = .inr qs → R G MX2_clearCells 24 [] [] qs o) : R G MX2_clearCells 2 [(0, .ref x0), (1, .int a.1)] [] a.2 o := by
  unfold fX2_clearCells_l2 at h
  refine R_iload DX2_clearCells_2 1 rfl ?_
  refine R_aload DX2_clearCells_3 0 rfl ?_
  obtain ⟨v1, ev1, h⟩ := bind_some h
  refine R_gR DX2_clearCells_4 fl_RX2_9 ev1 ?_
  obtain ⟨v2, ev2, h⟩ := bind_some h
  refine R_aN DX2_clearCells_7 ev2 ?_
  by_cases c3 : v2 ≤ a.1
  · replace h := if_t h c3
    refine R_icmp_ge_t DX2_clearCells_8 c3 ?_
    refine R.sub (L' := []) [] rfl ?_
    cases h
    exact he0 _ rfl
  · replace h := if_f h c3
    refine R_icmp_ge_f DX2_clearCells_8 c3 ?_
    refine R_aload DX2_clearCells_11 0 rfl ?_
    obtain ⟨v4, ev4, h⟩ := bind_some h
    refine R_gR DX2_clearCells_12 fl_RX2_9 ev4 ?_
    refine R_iload DX2_clearCells_15 1 rfl ?_
    refine R_lconst DX2_clearCells_16 ?_
    obtain ⟨s5, es5, h⟩ := bind_some h
    refine R_sL DX2_clearCells_17 es5 ?_
    refine R_iinc [(1, .int (a.1 + iI 1)), (0, .ref x0)] DX2_clearCells_18 1 rfl (v := a.1 + iI 1) (by rfl) (by decide) rfl ?_
    refine R_goto DX2_clearCells_21 ?_
    refine R.sub (L' := [(0, .ref x0), (1, .int (a.1 + iI 1))]) [1, 0] rfl ?_
    cases h
    exact hc _ _ rfl
set_option maxRecDepth 8000 in
theorem kX2_clearCells {G : Gm} {x0 : Nat} {s : Hp} {w : Hp} (h : fX2_clearCells x0 s = some w) : (s.2.2 x0).1 = 2 ∧ Call G MX2_clearCells [.ref x0] s (none, w) := by
  unfold fX2_clearCells at h
  obtain ⟨_, e0, h⟩ := bind_some h
  refine ⟨ck_some e0, Call.of_R pnRX2 (Nat.le_of_ble_eq_true rfl) ?_⟩
  clear e0
  show R G MX2_clearCells 0 [(0, .ref x0)] [] s (none, w)
  refine R_constI DX2_clearCells_0 ci_0 ?_
  refine R_istore [(1, .int (iI 0)), (0, .ref x0)] DX2_clearCells_1 (by decide) rfl ?_
  refine R.sub (L' := [(0, .ref x0), (1, .int (iI 0))]) [1, 0] rfl ?_
  obtain ⟨r6, hi, h⟩ := bind_some h
  have hE : (fun u2 : Hp => R G MX2_clearCells 24 [] [] u2 (none, w)) r6 → ∀ (q1 : Int32) (qs : Hp), iter (fX2_clearCells_l2 x0) FU (q1, qs) = some r6 → R G MX2_clearCells 2 [(0, .ref x0), (1, .int q1)] [] qs (none, w) := fun hX q1 qs hj => loop_R (fX2_clearCells_l2 x0) (fun p2 : Int32 × Hp => R G MX2_clearCells 2 [(0, .ref x0), (1, .int p2.1)] [] p2.2 (none, w)) (fun u2 : Hp => R G MX2_clearCells 24 [] [] u2 (none, w)) (fun a w hw hc he => tX2_clearCells_l2 hw (fun q1 qs e => hc (q1, qs) e) (fun qs e => he qs e)) FU (q1, qs) r6 hj hX
  refine hE ?_ _ _ hi
  clear hE hi
  cases h
  exact R_return rfl DX2_clearCells_24
set_option maxRecDepth 8000 in
theorem kX2_addCells {G : Gm} {x0 : Nat} {x1 : Int32} {x2 : Int32} {x3 : Int32} {x4 : Int64} {s : Hp} {w : Hp} (h : fX2_addCells x0 x1 x2 x3 x4 s = some w) : (s.2.2 x0).1 = 2 ∧ Call G MX2_addCells [.ref x0, .int x1, .int x2, .int x3, .long x4] s (none, w) := by
  unfold fX2_addCells at h
  obtain ⟨_, e0, h⟩ := bind_some h
  refine ⟨ck_some e0, Call.of_R pnRX2 (Nat.le_of_ble_eq_true rfl) ?_⟩
  clear e0
  show R G MX2_addCells 0 [(0, .ref x0), (1, .int x1), (2, .int x2), (3, .int x3), (4, .long x4)] [] s (none, w)
  refine R_aload DX2_addCells_0 0 rfl ?_
  obtain ⟨v1, ev1, h⟩ := bind_some h
  refine R_gR DX2_addCells_1 fl_RX2_9 ev1 ?_
  refine R_iload DX2_addCells_4 1 rfl ?_
  refine R_iload DX2_addCells_5 2 rfl ?_
  refine R_iload DX2_addCells_6 3 rfl ?_
  obtain ⟨r2, er2, h⟩ := bind_some h
  refine R_cS1 [.int x1, .int x2, .int x3] DX2_addCells_7 kzsX2_placeOf ml_RX2_22 ⟨Nat.le_of_ble_eq_true rfl, Nat.le_of_ble_eq_true rfl⟩ rfl (Nat.le_of_ble_eq_true rfl) (kX2_placeOf er2) ?_
  refine R_dup2 DX2_addCells_10 rfl rfl ?_
  obtain ⟨v3, ev3, h⟩ := bind_some h
  refine R_aL DX2_addCells_11 ev3 ?_
  refine R_lload DX2_addCells_12 4 rfl ?_
  refine R_lor DX2_addCells_14 ?_
  obtain ⟨s4, es4, h⟩ := bind_some h
  refine R_sL DX2_addCells_15 es4 ?_
  cases h
  exact R_return rfl DX2_addCells_16
set_option maxRecDepth 8000 in
theorem tX2_columnsAt_l5 {G : Gm} {x0 : Nat} {x1 : Int32} {x2 : Int32} {o : Option Value × Hp} {a : Int64 × Int32 × Hp} {w : (Int64 × Int32 × Hp) ⊕ ((Int64 × Hp))} (h : fX2_columnsAt_l5 x0 x1 x2 a = some w) (hc : ∀ (q3 : Int64) (q5 : Int32) (qs : Hp), w = .inl (q3, q5, qs) → R G MX2_columnsAt 5 [(0, .ref x0), (1, .int x1), (2, .int x2), (3, .long q3), (5, .int q5)] [] qs o) (he0 : ∀ (q3 : Int64) (qs : Hp), w = .inr (q3, qs) → R G MX2_columnsAt 33 [(3, .long q3)] [] qs o) : R G MX2_columnsAt 5 [(0, .ref x0), (1, .int x1), (2, .int x2), (3, .long a.1), (5, .int a.2.1)] [] a.2.2 o := by
  unfold fX2_columnsAt_l5 at h
  refine R_iload DX2_columnsAt_5 4 rfl ?_
  refine R_constI DX2_columnsAt_7 ci_9 ?_
  by_cases c1 : (iI 9) < a.2.1
  · replace h := if_t h c1
    refine R_icmp_gt_t DX2_columnsAt_9 c1 ?_
    refine R.sub (L' := [(3, .long a.1)]) [3] rfl ?_
    cases h
    exact he0 _ _ rfl
  · replace h := if_f h c1
    refine R_icmp_gt_f DX2_columnsAt_9 c1 ?_
    refine R_lload DX2_columnsAt_12 3 rfl ?_
    refine R_aload DX2_columnsAt_13 0 rfl ?_
    obtain ⟨v2, ev2, h⟩ := bind_some h
    refine R_gR DX2_columnsAt_14 fl_RX2_9 ev2 ?_
    refine R_iload DX2_columnsAt_17 1 rfl ?_
    refine R_iload DX2_columnsAt_18 2 rfl ?_
    refine R_iload DX2_columnsAt_19 4 rfl ?_
    obtain ⟨r3, er3, h⟩ := bind_some h
    refine R_cS1 [.int x1, .int x2, .int a.2.1] DX2_columnsAt_21 kzsX2_placeOf ml_RX2_22 ⟨Nat.le_of_ble_eq_true rfl, Nat.le_of_ble_eq_true rfl⟩ rfl (Nat.le_of_ble_eq_true rfl) (kX2_placeOf er3) ?_
    obtain ⟨v4, ev4, h⟩ := bind_some h
    refine R_aL DX2_columnsAt_24 ev4 ?_
    refine R_lor DX2_columnsAt_25 ?_
    obtain ⟨z5, ez5, h⟩ := lt_some h
    refine R_lstoreE ez5 [(3, .long z5), (0, .ref x0), (1, .int x1), (2, .int x2), (5, .int a.2.1)] DX2_columnsAt_26 (by decide) rfl ?_
    refine R_iinc [(5, .int (a.2.1 + iI 1)), (3, .long z5), (0, .ref x0), (1, .int x1), (2, .int x2)] DX2_columnsAt_27 4 rfl (v := a.2.1 + iI 1) (by rfl) (by decide) rfl ?_
    refine R_goto DX2_columnsAt_30 ?_
    refine R.sub (L' := [(0, .ref x0), (1, .int x1), (2, .int x2), (3, .long z5), (5, .int (a.2.1 + iI 1))]) [2, 3, 4, 1, 0] rfl ?_
    cases h
    exact hc _ _ _ rfl
set_option maxRecDepth 8000 in
theorem kX2_columnsAt {G : Gm} {x0 : Nat} {x1 : Int32} {x2 : Int32} {s : Hp} {w : Int64 × Hp} (h : fX2_columnsAt x0 x1 x2 s = some w) : (s.2.2 x0).1 = 2 ∧ Call G MX2_columnsAt [.ref x0, .int x1, .int x2] s (some (.long w.1), w.2) := by
  unfold fX2_columnsAt at h
  obtain ⟨_, e0, h⟩ := bind_some h
  refine ⟨ck_some e0, Call.of_R pnRX2 (Nat.le_of_ble_eq_true rfl) ?_⟩
  clear e0
  show R G MX2_columnsAt 0 [(0, .ref x0), (1, .int x1), (2, .int x2)] [] s (some (.long w.1), w.2)
  refine R_lconst DX2_columnsAt_0 ?_
  refine R_lstore [(3, .long 0), (0, .ref x0), (1, .int x1), (2, .int x2)] DX2_columnsAt_1 (by decide) rfl ?_
  refine R_constI DX2_columnsAt_2 ci_0 ?_
  refine R_istore [(5, .int (iI 0)), (3, .long 0), (0, .ref x0), (1, .int x1), (2, .int x2)] DX2_columnsAt_3 (by decide) rfl ?_
  refine R.sub (L' := [(0, .ref x0), (1, .int x1), (2, .int x2), (3, .long 0), (5, .int (iI 0))]) [2, 3, 4, 1, 0] rfl ?_
  obtain ⟨r6, hi, h⟩ := bind_some h
  have hE : (fun u5 : Int64 × Hp => R G MX2_columnsAt 33 [(3, .long u5.1)] [] u5.2 (some (.long w.1), w.2)) r6 → ∀ (q3 : Int64) (q5 : Int32) (qs : Hp), iter (fX2_columnsAt_l5 x0 x1 x2) FU (q3, q5, qs) = some r6 → R G MX2_columnsAt 5 [(0, .ref x0), (1, .int x1), (2, .int x2), (3, .long q3), (5, .int q5)] [] qs (some (.long w.1), w.2) := fun hX q3 q5 qs hj => loop_R (fX2_columnsAt_l5 x0 x1 x2) (fun p5 : Int64 × Int32 × Hp => R G MX2_columnsAt 5 [(0, .ref x0), (1, .int x1), (2, .int x2), (3, .long p5.1), (5, .int p5.2.1)] [] p5.2.2 (some (.long w.1), w.2)) (fun u5 : Int64 × Hp => R G MX2_columnsAt 33 [(3, .long u5.1)] [] u5.2 (some (.long w.1), w.2)) (fun a w hw hc he => tX2_columnsAt_l5 hw (fun q3 q5 qs e => hc (q3, q5, qs) e) (fun q3 qs e => he (q3, qs) e)) FU (q3, q5, qs) r6 hj hX
  refine hE ?_ _ _ _ hi
  clear hE hi
  refine R_lload DX2_columnsAt_33 0 rfl ?_
  cases h
  exact R_lreturn rfl DX2_columnsAt_34
set_option maxRecDepth 8000 in
theorem tX2_leastOfAll_l7 {G : Gm} {x0 : Nat} {x1 : Int32} {x2 : Int32} {x3 : Int64} {o : Option Value × Hp} {a : Int32 × Int32 × Hp} {w : (Int32 × Int32 × Hp) ⊕ ((Int32 × Hp))} (h : fX2_leastOfAll_l7 x0 x1 x2 x3 a = some w) (hc : ∀ (q5 : Int32) (q6 : Int32) (qs : Hp), w = .inl (q5, q6, qs) → R G MX2_leastOfAll 7 [(0, .ref x0), (1, .int x1), (2, .int x2), (3, .long x3), (5, .int q5), (6, .int q6)] [] qs o) (he0 : ∀ (q5 : Int32) (qs : Hp), w = .inr (q5, qs) → R G MX2_leastOfAll 34 [(5, .int q5)] [] qs o) : R G MX2_leastOfAll 7 [(0, .ref x0), (1, .int x1), (2, .int x2), (3, .long x3), (5, .int a.1), (6, .int a.2.1)] [] a.2.2 o := by
  unfold fX2_leastOfAll_l7 at h
  refine R_iload DX2_leastOfAll_7 5 rfl ?_
  refine R_iload DX2_leastOfAll_9 1 rfl ?_
  by_cases c1 : x1 ≤ a.2.1
  · replace h := if_t h c1
    refine R_icmp_ge_t DX2_leastOfAll_10 c1 ?_
    refine R.sub (L' := [(5, .int a.1)]) [4] rfl ?_
    cases h
    exact he0 _ _ rfl
  · replace h := if_f h c1
    refine R_icmp_ge_f DX2_leastOfAll_10 c1 ?_
    refine R_iload DX2_leastOfAll_13 4 rfl ?_
    refine R_aload DX2_leastOfAll_15 0 rfl ?_
    refine R_iload DX2_leastOfAll_16 5 rfl ?_
    refine R_iload DX2_leastOfAll_18 2 rfl ?_
    refine R_lload DX2_leastOfAll_19 3 rfl ?_
    obtain ⟨r2, er2, h⟩ := bind_some h
    refine R_cV1 [.int a.2.1, .int x2, .long x3] DX2_leastOfAll_20 kzvX2_leastAt ml_RX2_26 ⟨Nat.le_of_ble_eq_true rfl, Nat.le_of_ble_eq_true rfl⟩ rfl (Nat.le_of_ble_eq_true rfl) (kX2_leastAt er2) ?_
    refine R_mmin DX2_leastOfAll_23 mw_RX2_30 ⟨Nat.le_of_ble_eq_true rfl, Nat.le_of_ble_eq_true rfl⟩ ?_
    obtain ⟨z3, ez3, h⟩ := lt_some h
    refine R_istoreE ez3 [(5, .int z3), (0, .ref x0), (1, .int x1), (2, .int x2), (3, .long x3), (6, .int a.2.1)] DX2_leastOfAll_26 (by decide) rfl ?_
    refine R_iinc [(6, .int (a.2.1 + iI 1)), (5, .int z3), (0, .ref x0), (1, .int x1), (2, .int x2), (3, .long x3)] DX2_leastOfAll_28 5 rfl (v := a.2.1 + iI 1) (by rfl) (by decide) rfl ?_
    refine R_goto DX2_leastOfAll_31 ?_
    refine R.sub (L' := [(0, .ref x0), (1, .int x1), (2, .int x2), (3, .long x3), (5, .int z3), (6, .int (a.2.1 + iI 1))]) [2, 3, 4, 5, 1, 0] rfl ?_
    cases h
    exact hc _ _ _ rfl
set_option maxRecDepth 8000 in
theorem kX2_leastOfAll {G : Gm} {x0 : Nat} {x1 : Int32} {x2 : Int32} {x3 : Int64} {s : Hp} {w : Int32 × Hp} (h : fX2_leastOfAll x0 x1 x2 x3 s = some w) : (s.2.2 x0).1 = 2 ∧ Call G MX2_leastOfAll [.ref x0, .int x1, .int x2, .long x3] s (some (.int w.1), w.2) := by
  unfold fX2_leastOfAll at h
  obtain ⟨_, e0, h⟩ := bind_some h
  refine ⟨ck_some e0, Call.of_R pnRX2 (Nat.le_of_ble_eq_true rfl) ?_⟩
  clear e0
  show R G MX2_leastOfAll 0 [(0, .ref x0), (1, .int x1), (2, .int x2), (3, .long x3)] [] s (some (.int w.1), w.2)
  refine R_constI DX2_leastOfAll_0 ci_99 ?_
  refine R_istore [(5, .int (iI 99)), (0, .ref x0), (1, .int x1), (2, .int x2), (3, .long x3)] DX2_leastOfAll_2 (by decide) rfl ?_
  refine R_constI DX2_leastOfAll_4 ci_0 ?_
  refine R_istore [(6, .int (iI 0)), (5, .int (iI 99)), (0, .ref x0), (1, .int x1), (2, .int x2), (3, .long x3)] DX2_leastOfAll_5 (by decide) rfl ?_
  refine R.sub (L' := [(0, .ref x0), (1, .int x1), (2, .int x2), (3, .long x3), (5, .int (iI 99)), (6, .int (iI 0))]) [2, 3, 4, 5, 1, 0] rfl ?_
  obtain ⟨r4, hi, h⟩ := bind_some h
  have hE : (fun u7 : Int32 × Hp => R G MX2_leastOfAll 34 [(5, .int u7.1)] [] u7.2 (some (.int w.1), w.2)) r4 → ∀ (q5 : Int32) (q6 : Int32) (qs : Hp), iter (fX2_leastOfAll_l7 x0 x1 x2 x3) FU (q5, q6, qs) = some r4 → R G MX2_leastOfAll 7 [(0, .ref x0), (1, .int x1), (2, .int x2), (3, .long x3), (5, .int q5), (6, .int q6)] [] qs (some (.int w.1), w.2) := fun hX q5 q6 qs hj => loop_R (fX2_leastOfAll_l7 x0 x1 x2 x3) (fun p7 : Int32 × Int32 × Hp => R G MX2_leastOfAll 7 [(0, .ref x0), (1, .int x1), (2, .int x2), (3, .long x3), (5, .int p7.1), (6, .int p7.2.1)] [] p7.2.2 (some (.int w.1), w.2)) (fun u7 : Int32 × Hp => R G MX2_leastOfAll 34 [(5, .int u7.1)] [] u7.2 (some (.int w.1), w.2)) (fun a w hw hc he => tX2_leastOfAll_l7 hw (fun q5 q6 qs e => hc (q5, q6, qs) e) (fun q5 qs e => he (q5, qs) e)) FU (q5, q6, qs) r4 hj hX
  refine hE ?_ _ _ _ hi
  clear hE hi
  refine R_iload DX2_leastOfAll_34 0 rfl ?_
  refine R_constI DX2_leastOfAll_36 ci_99 ?_
  by_cases c5 : r4.1 = (iI 99)
  · replace h := if_t h c5
    refine R_icmp_ne_f DX2_leastOfAll_38 c5 ?_
    refine R_constI DX2_leastOfAll_41 ci_m1 ?_
    refine R_goto DX2_leastOfAll_42 ?_
    cases h
    exact R_ireturn rfl DX2_leastOfAll_47
  · replace h := if_f h c5
    refine R_icmp_ne_t DX2_leastOfAll_38 c5 ?_
    refine R_iload DX2_leastOfAll_45 0 rfl ?_
    cases h
    exact R_ireturn rfl DX2_leastOfAll_47
set_option maxRecDepth 8000 in
theorem tX2_clearTours_l2 {G : Gm} {x0 : Nat} {o : Option Value × Hp} {a : Int32 × Hp} {w : (Int32 × Hp) ⊕ ((Hp))} (h : fX2_clearTours_l2 x0 a = some w) (hc : ∀ (q1 : Int32) (qs : Hp), w = .inl (q1, qs) → R G MX2_clearTours 2 [(0, .ref x0), (1, .int q1)] [] qs o) (he0 : ∀ (qs : Hp), w = .inr qs → R G MX2_clearTours 33 [] [] qs o) : R G MX2_clearTours 2 [(0, .ref x0), (1, .int a.1)] [] a.2 o := by
  unfold fX2_clearTours_l2 at h
  refine R_iload DX2_clearTours_2 1 rfl ?_
  refine R_aload DX2_clearTours_3 0 rfl ?_
  obtain ⟨v1, ev1, h⟩ := bind_some h
  refine R_gR DX2_clearTours_4 fl_RX2_15 ev1 ?_
  obtain ⟨v2, ev2, h⟩ := bind_some h
  refine R_aN DX2_clearTours_7 ev2 ?_
  by_cases c3 : v2 ≤ a.1
  · replace h := if_t h c3
    refine R_icmp_ge_t DX2_clearTours_8 c3 ?_
    refine R.sub (L' := []) [] rfl ?_
    cases h
    exact he0 _ rfl
  · replace h := if_f h c3
    refine R_icmp_ge_f DX2_clearTours_8 c3 ?_
    refine R_aload DX2_clearTours_11 0 rfl ?_
    obtain ⟨v4, ev4, h⟩ := bind_some h
    refine R_gR DX2_clearTours_12 fl_RX2_15 ev4 ?_
    refine R_iload DX2_clearTours_15 1 rfl ?_
    refine R_constI DX2_clearTours_16 ci_99 ?_
    obtain ⟨s5, es5, h⟩ := bind_some h
    refine R_sI DX2_clearTours_18 es5 ?_
    refine R_aload DX2_clearTours_19 0 rfl ?_
    obtain ⟨v6, ev6, h⟩ := bind_some h
    refine R_gR DX2_clearTours_20 fl_RX2_19 ev6 ?_
    refine R_iload DX2_clearTours_23 1 rfl ?_
    refine R_constI DX2_clearTours_24 ci_99 ?_
    obtain ⟨s7, es7, h⟩ := bind_some h
    refine R_sI DX2_clearTours_26 es7 ?_
    refine R_iinc [(1, .int (a.1 + iI 1)), (0, .ref x0)] DX2_clearTours_27 1 rfl (v := a.1 + iI 1) (by rfl) (by decide) rfl ?_
    refine R_goto DX2_clearTours_30 ?_
    refine R.sub (L' := [(0, .ref x0), (1, .int (a.1 + iI 1))]) [1, 0] rfl ?_
    cases h
    exact hc _ _ rfl
set_option maxRecDepth 8000 in
theorem kX2_clearTours {G : Gm} {x0 : Nat} {s : Hp} {w : Hp} (h : fX2_clearTours x0 s = some w) : (s.2.2 x0).1 = 2 ∧ Call G MX2_clearTours [.ref x0] s (none, w) := by
  unfold fX2_clearTours at h
  obtain ⟨_, e0, h⟩ := bind_some h
  refine ⟨ck_some e0, Call.of_R pnRX2 (Nat.le_of_ble_eq_true rfl) ?_⟩
  clear e0
  show R G MX2_clearTours 0 [(0, .ref x0)] [] s (none, w)
  refine R_constI DX2_clearTours_0 ci_0 ?_
  refine R_istore [(1, .int (iI 0)), (0, .ref x0)] DX2_clearTours_1 (by decide) rfl ?_
  refine R.sub (L' := [(0, .ref x0), (1, .int (iI 0))]) [1, 0] rfl ?_
  obtain ⟨r8, hi, h⟩ := bind_some h
  have hE : (fun u2 : Hp => R G MX2_clearTours 33 [] [] u2 (none, w)) r8 → ∀ (q1 : Int32) (qs : Hp), iter (fX2_clearTours_l2 x0) FU (q1, qs) = some r8 → R G MX2_clearTours 2 [(0, .ref x0), (1, .int q1)] [] qs (none, w) := fun hX q1 qs hj => loop_R (fX2_clearTours_l2 x0) (fun p2 : Int32 × Hp => R G MX2_clearTours 2 [(0, .ref x0), (1, .int p2.1)] [] p2.2 (none, w)) (fun u2 : Hp => R G MX2_clearTours 33 [] [] u2 (none, w)) (fun a w hw hc he => tX2_clearTours_l2 hw (fun q1 qs e => hc (q1, qs) e) (fun qs e => he qs e)) FU (q1, qs) r8 hj hX
  refine hE ?_ _ _ hi
  clear hE hi
  cases h
  exact R_return rfl DX2_clearTours_33
set_option maxRecDepth 8000 in
theorem kX2_addTour {G : Gm} {x0 : Nat} {x1 : Int32} {x2 : Int32} {x3 : Int32} {s : Hp} {w : Hp} (h : fX2_addTour x0 x1 x2 x3 s = some w) : (s.2.2 x0).1 = 2 ∧ Call G MX2_addTour [.ref x0, .int x1, .int x2, .int x3] s (none, w) := by
  unfold fX2_addTour at h
  obtain ⟨_, e0, h⟩ := bind_some h
  refine ⟨ck_some e0, Call.of_R pnRX2 (Nat.le_of_ble_eq_true rfl) ?_⟩
  clear e0
  show R G MX2_addTour 0 [(0, .ref x0), (1, .int x1), (2, .int x2), (3, .int x3)] [] s (none, w)
  refine R_aload DX2_addTour_0 0 rfl ?_
  obtain ⟨v1, ev1, h⟩ := bind_some h
  refine R_gR DX2_addTour_1 fl_RX2_15 ev1 ?_
  refine R_iload DX2_addTour_4 1 rfl ?_
  refine R_aload DX2_addTour_5 0 rfl ?_
  obtain ⟨v2, ev2, h⟩ := bind_some h
  refine R_gR DX2_addTour_6 fl_RX2_15 ev2 ?_
  refine R_iload DX2_addTour_9 1 rfl ?_
  obtain ⟨v3, ev3, h⟩ := bind_some h
  refine R_aI DX2_addTour_10 ev3 ?_
  refine R_iload DX2_addTour_11 2 rfl ?_
  refine R_mmin DX2_addTour_12 mw_RX2_30 ⟨Nat.le_of_ble_eq_true rfl, Nat.le_of_ble_eq_true rfl⟩ ?_
  obtain ⟨s4, es4, h⟩ := bind_some h
  refine R_sI DX2_addTour_15 es4 ?_
  refine R_aload DX2_addTour_16 0 rfl ?_
  obtain ⟨v5, ev5, h⟩ := bind_some h
  refine R_gR DX2_addTour_17 fl_RX2_19 ev5 ?_
  refine R_iload DX2_addTour_20 1 rfl ?_
  refine R_aload DX2_addTour_21 0 rfl ?_
  obtain ⟨v6, ev6, h⟩ := bind_some h
  refine R_gR DX2_addTour_22 fl_RX2_19 ev6 ?_
  refine R_iload DX2_addTour_25 1 rfl ?_
  obtain ⟨v7, ev7, h⟩ := bind_some h
  refine R_aI DX2_addTour_26 ev7 ?_
  refine R_iload DX2_addTour_27 3 rfl ?_
  refine R_mmin DX2_addTour_28 mw_RX2_30 ⟨Nat.le_of_ble_eq_true rfl, Nat.le_of_ble_eq_true rfl⟩ ?_
  obtain ⟨s8, es8, h⟩ := bind_some h
  refine R_sI DX2_addTour_31 es8 ?_
  cases h
  exact R_return rfl DX2_addTour_32
set_option maxRecDepth 8000 in
theorem tX2_spreadTours_l14 {G : Gm} {x0 : Nat} {x1 : Int32} {o : Option Value × Hp} {a : Int32 × Hp} {w : (Int32 × Hp) ⊕ ((Hp))} (h : fX2_spreadTours_l14 x0 x1 a = some w) (hc : ∀ (q2 : Int32) (qs : Hp), w = .inl (q2, qs) → R G MX2_spreadTours 14 [(0, .ref x0), (1, .int x1), (2, .int q2)] [] qs o) (he0 : ∀ (qs : Hp), w = .inr qs → R G MX2_spreadTours 50 [(0, .ref x0), (1, .int x1)] [] qs o) : R G MX2_spreadTours 14 [(0, .ref x0), (1, .int x1), (2, .int a.1)] [] a.2 o := by
  unfold fX2_spreadTours_l14 at h
  refine R_iload DX2_spreadTours_14 2 rfl ?_
  refine R_constI DX2_spreadTours_15 ci_5 ?_
  by_cases c5 : (iI 5) ≤ a.1
  · replace h := if_t h c5
    refine R_icmp_ge_t DX2_spreadTours_16 c5 ?_
    refine R.sub (L' := [(0, .ref x0), (1, .int x1)]) [0, 1] rfl ?_
    cases h
    exact he0 _ rfl
  · replace h := if_f h c5
    refine R_icmp_ge_f DX2_spreadTours_16 c5 ?_
    refine R_iload DX2_spreadTours_19 1 rfl ?_
    refine R_constI DX2_spreadTours_20 ci_1 ?_
    refine R_iload DX2_spreadTours_21 2 rfl ?_
    refine R_ishl DX2_spreadTours_22 ?_
    refine R_constI DX2_spreadTours_23 ci_m1 ?_
    refine R_ixor DX2_spreadTours_24 ?_
    refine R_iand DX2_spreadTours_25 ?_
    obtain ⟨z6, ez6, h⟩ := lt_some h
    refine R_istoreE ez6 [(3, .int z6), (0, .ref x0), (1, .int x1), (2, .int a.1)] DX2_spreadTours_26 (by decide) rfl ?_
    refine R_aload DX2_spreadTours_27 1 rfl ?_
    refine R_iload DX2_spreadTours_28 0 rfl ?_
    refine R_aload DX2_spreadTours_29 1 rfl ?_
    obtain ⟨v7, ev7, h⟩ := bind_some h
    refine R_gR DX2_spreadTours_30 fl_RX2_15 ev7 ?_
    refine R_iload DX2_spreadTours_33 2 rfl ?_
    obtain ⟨v8, ev8, h⟩ := bind_some h
    refine R_aI DX2_spreadTours_34 ev8 ?_
    refine R_aload DX2_spreadTours_35 1 rfl ?_
    obtain ⟨v9, ev9, h⟩ := bind_some h
    refine R_gR DX2_spreadTours_36 fl_RX2_19 ev9 ?_
    refine R_iload DX2_spreadTours_39 2 rfl ?_
    obtain ⟨v10, ev10, h⟩ := bind_some h
    refine R_aI DX2_spreadTours_40 ev10 ?_
    obtain ⟨s11, es11, h⟩ := bind_some h
    refine R_cV0 [.int z6, .int v8, .int v10] DX2_spreadTours_41 kzvX2_addTour ml_RX2_36 ⟨Nat.le_of_ble_eq_true rfl, Nat.le_of_ble_eq_true rfl⟩ rfl (Nat.le_of_ble_eq_true rfl) (kX2_addTour es11) ?_
    refine R_iinc [(2, .int (a.1 + iI 1)), (3, .int z6), (0, .ref x0), (1, .int x1)] DX2_spreadTours_44 3 rfl (v := a.1 + iI 1) (by rfl) (by decide) rfl ?_
    refine R_goto DX2_spreadTours_47 ?_
    refine R.sub (L' := [(0, .ref x0), (1, .int x1), (2, .int (a.1 + iI 1))]) [2, 3, 0] rfl ?_
    cases h
    exact hc _ _ rfl
set_option maxRecDepth 8000 in
theorem tX2_spreadTours_l8 {G : Gm} {x0 : Nat} {o : Option Value × Hp} {a : Int32 × Hp} {w : (Int32 × Hp) ⊕ ((Hp))} (h : fX2_spreadTours_l8 x0 a = some w) (hc : ∀ (q1 : Int32) (qs : Hp), w = .inl (q1, qs) → R G MX2_spreadTours 8 [(0, .ref x0), (1, .int q1)] [] qs o) (he0 : ∀ (qs : Hp), w = .inr qs → R G MX2_spreadTours 56 [] [] qs o) : R G MX2_spreadTours 8 [(0, .ref x0), (1, .int a.1)] [] a.2 o := by
  unfold fX2_spreadTours_l8 at h
  refine R_iload DX2_spreadTours_8 1 rfl ?_
  by_cases c4 : a.1 < 0
  · replace h := if_t h c4
    refine R_if_lt_t DX2_spreadTours_9 c4 ?_
    refine R.sub (L' := []) [] rfl ?_
    cases h
    exact he0 _ rfl
  · replace h := if_f h c4
    refine R_if_lt_f DX2_spreadTours_9 c4 ?_
    refine R_constI DX2_spreadTours_12 ci_0 ?_
    refine R_istore [(2, .int (iI 0)), (0, .ref x0), (1, .int a.1)] DX2_spreadTours_13 (by decide) rfl ?_
    refine R.sub (L' := [(0, .ref x0), (1, .int a.1), (2, .int (iI 0))]) [1, 2, 0] rfl ?_
    obtain ⟨r12, hi, h⟩ := bind_some h
    have hE : (fun u14 : Hp => R G MX2_spreadTours 50 [(0, .ref x0), (1, .int a.1)] [] u14 o) r12 → ∀ (q2 : Int32) (qs : Hp), iter (fX2_spreadTours_l14 x0 a.1) FU (q2, qs) = some r12 → R G MX2_spreadTours 14 [(0, .ref x0), (1, .int a.1), (2, .int q2)] [] qs o := fun hX q2 qs hj => loop_R (fX2_spreadTours_l14 x0 a.1) (fun p14 : Int32 × Hp => R G MX2_spreadTours 14 [(0, .ref x0), (1, .int a.1), (2, .int p14.1)] [] p14.2 o) (fun u14 : Hp => R G MX2_spreadTours 50 [(0, .ref x0), (1, .int a.1)] [] u14 o) (fun a w hw hc he => tX2_spreadTours_l14 hw (fun q2 qs e => hc (q2, qs) e) (fun qs e => he qs e)) FU (q2, qs) r12 hj hX
    refine hE ?_ _ _ hi
    clear hE hi
    refine R_iinc [(1, .int (a.1 + iI (-1))), (0, .ref x0)] DX2_spreadTours_50 1 rfl (v := a.1 + iI (-1)) (by rfl) (by decide) rfl ?_
    refine R_goto DX2_spreadTours_53 ?_
    refine R.sub (L' := [(0, .ref x0), (1, .int (a.1 + iI (-1)))]) [1, 0] rfl ?_
    cases h
    exact hc _ _ rfl
set_option maxRecDepth 8000 in
theorem kX2_spreadTours {G : Gm} {x0 : Nat} {s : Hp} {w : Hp} (h : fX2_spreadTours x0 s = some w) : (s.2.2 x0).1 = 2 ∧ Call G MX2_spreadTours [.ref x0] s (none, w) := by
  unfold fX2_spreadTours at h
  obtain ⟨_, e0, h⟩ := bind_some h
  refine ⟨ck_some e0, Call.of_R pnRX2 (Nat.le_of_ble_eq_true rfl) ?_⟩
  clear e0
  show R G MX2_spreadTours 0 [(0, .ref x0)] [] s (none, w)
  refine R_aload DX2_spreadTours_0 0 rfl ?_
  obtain ⟨v1, ev1, h⟩ := bind_some h
  refine R_gR DX2_spreadTours_1 fl_RX2_15 ev1 ?_
  obtain ⟨v2, ev2, h⟩ := bind_some h
  refine R_aN DX2_spreadTours_4 ev2 ?_
  refine R_constI DX2_spreadTours_5 ci_1 ?_
  refine R_isub DX2_spreadTours_6 ?_
  obtain ⟨z3, ez3, h⟩ := lt_some h
  refine R_istoreE ez3 [(1, .int z3), (0, .ref x0)] DX2_spreadTours_7 (by decide) rfl ?_
  refine R.sub (L' := [(0, .ref x0), (1, .int z3)]) [1, 0] rfl ?_
  obtain ⟨r13, hi, h⟩ := bind_some h
  have hE : (fun u8 : Hp => R G MX2_spreadTours 56 [] [] u8 (none, w)) r13 → ∀ (q1 : Int32) (qs : Hp), iter (fX2_spreadTours_l8 x0) FU (q1, qs) = some r13 → R G MX2_spreadTours 8 [(0, .ref x0), (1, .int q1)] [] qs (none, w) := fun hX q1 qs hj => loop_R (fX2_spreadTours_l8 x0) (fun p8 : Int32 × Hp => R G MX2_spreadTours 8 [(0, .ref x0), (1, .int p8.1)] [] p8.2 (none, w)) (fun u8 : Hp => R G MX2_spreadTours 56 [] [] u8 (none, w)) (fun a w hw hc he => tX2_spreadTours_l8 hw (fun q1 qs e => hc (q1, qs) e) (fun qs e => he qs e)) FU (q1, qs) r13 hj hX
  refine hE ?_ _ _ hi
  clear hE hi
  cases h
  exact R_return rfl DX2_spreadTours_56
set_option maxRecDepth 8000 in
theorem kX2_sandOfTour {G : Gm} {x0 : Nat} {x1 : Int32} {s : Hp} {w : Int32 × Hp} (h : fX2_sandOfTour x0 x1 s = some w) : (s.2.2 x0).1 = 2 ∧ Call G MX2_sandOfTour [.ref x0, .int x1] s (some (.int w.1), w.2) := by
  unfold fX2_sandOfTour at h
  obtain ⟨_, e0, h⟩ := bind_some h
  refine ⟨ck_some e0, Call.of_R pnRX2 (Nat.le_of_ble_eq_true rfl) ?_⟩
  clear e0
  show R G MX2_sandOfTour 0 [(0, .ref x0), (1, .int x1)] [] s (some (.int w.1), w.2)
  refine R_aload DX2_sandOfTour_0 0 rfl ?_
  obtain ⟨v1, ev1, h⟩ := bind_some h
  refine R_gR DX2_sandOfTour_1 fl_RX2_15 ev1 ?_
  refine R_iload DX2_sandOfTour_4 1 rfl ?_
  obtain ⟨v2, ev2, h⟩ := bind_some h
  refine R_aI DX2_sandOfTour_5 ev2 ?_
  refine R_constI DX2_sandOfTour_6 ci_99 ?_
  by_cases c3 : v2 = (iI 99)
  · replace h := if_t h c3
    refine R_icmp_ne_f DX2_sandOfTour_8 c3 ?_
    refine R_constI DX2_sandOfTour_11 ci_m1 ?_
    refine R_goto DX2_sandOfTour_12 ?_
    cases h
    exact R_ireturn rfl DX2_sandOfTour_21
  · replace h := if_f h c3
    refine R_icmp_ne_t DX2_sandOfTour_8 c3 ?_
    refine R_aload DX2_sandOfTour_15 0 rfl ?_
    obtain ⟨v4, ev4, h⟩ := bind_some h
    refine R_gR DX2_sandOfTour_16 fl_RX2_15 ev4 ?_
    refine R_iload DX2_sandOfTour_19 1 rfl ?_
    obtain ⟨v5, ev5, h⟩ := bind_some h
    refine R_aI DX2_sandOfTour_20 ev5 ?_
    cases h
    exact R_ireturn rfl DX2_sandOfTour_21
set_option maxRecDepth 8000 in
theorem tX2_hourOfTour_b21 {G : Gm} {s : Hp} {w : Int32 × Hp} (h : fX2_hourOfTour_b21 s = some w) : R G MX2_hourOfTour 21 [] [] s (some (.int w.1), w.2) := by
  unfold fX2_hourOfTour_b21 at h
  refine R_constI DX2_hourOfTour_21 ci_m1 ?_
  refine R_goto DX2_hourOfTour_22 ?_
  cases h
  exact R_ireturn rfl DX2_hourOfTour_31
set_option maxRecDepth 8000 in
theorem kX2_hourOfTour {G : Gm} {x0 : Nat} {x1 : Int32} {s : Hp} {w : Int32 × Hp} (h : fX2_hourOfTour x0 x1 s = some w) : (s.2.2 x0).1 = 2 ∧ Call G MX2_hourOfTour [.ref x0, .int x1] s (some (.int w.1), w.2) := by
  unfold fX2_hourOfTour at h
  obtain ⟨_, e0, h⟩ := bind_some h
  refine ⟨ck_some e0, Call.of_R pnRX2 (Nat.le_of_ble_eq_true rfl) ?_⟩
  clear e0
  show R G MX2_hourOfTour 0 [(0, .ref x0), (1, .int x1)] [] s (some (.int w.1), w.2)
  refine R_aload DX2_hourOfTour_0 0 rfl ?_
  obtain ⟨v1, ev1, h⟩ := bind_some h
  refine R_gR DX2_hourOfTour_1 fl_RX2_19 ev1 ?_
  refine R_iload DX2_hourOfTour_4 1 rfl ?_
  obtain ⟨v2, ev2, h⟩ := bind_some h
  refine R_aI DX2_hourOfTour_5 ev2 ?_
  refine R_constI DX2_hourOfTour_6 ci_99 ?_
  by_cases c3 : v2 = (iI 99)
  · replace h := if_t h c3
    refine R_icmp_eq_t DX2_hourOfTour_8 c3 ?_
    refine R.sub (L' := []) [] rfl ?_
    exact tX2_hourOfTour_b21 h
  · replace h := if_f h c3
    refine R_icmp_eq_f DX2_hourOfTour_8 c3 ?_
    refine R_aload DX2_hourOfTour_11 0 rfl ?_
    obtain ⟨v4, ev4, h⟩ := bind_some h
    refine R_gR DX2_hourOfTour_12 fl_RX2_19 ev4 ?_
    refine R_iload DX2_hourOfTour_15 1 rfl ?_
    obtain ⟨v5, ev5, h⟩ := bind_some h
    refine R_aI DX2_hourOfTour_16 ev5 ?_
    refine R_constI DX2_hourOfTour_17 ci_m1 ?_
    by_cases c6 : v5 = (iI (-1))
    · replace h := if_t h c6
      refine R_icmp_ne_f DX2_hourOfTour_18 c6 ?_
      refine R.sub (L' := []) [] rfl ?_
      exact tX2_hourOfTour_b21 h
    · replace h := if_f h c6
      refine R_icmp_ne_t DX2_hourOfTour_18 c6 ?_
      refine R_aload DX2_hourOfTour_25 0 rfl ?_
      obtain ⟨v7, ev7, h⟩ := bind_some h
      refine R_gR DX2_hourOfTour_26 fl_RX2_19 ev7 ?_
      refine R_iload DX2_hourOfTour_29 1 rfl ?_
      obtain ⟨v8, ev8, h⟩ := bind_some h
      refine R_aI DX2_hourOfTour_30 ev8 ?_
      cases h
      exact R_ireturn rfl DX2_hourOfTour_31
set_option maxRecDepth 8000 in
theorem kX2_canTour {G : Gm} {x0 : Nat} {x1 : Int32} {x2 : Int32} {s : Hp} {w : Int32 × Hp} (h : fX2_canTour x0 x1 x2 s = some w) : (s.2.2 x0).1 = 2 ∧ Call G MX2_canTour [.ref x0, .int x1, .int x2] s (some (.int w.1), w.2) := by
  unfold fX2_canTour at h
  obtain ⟨_, e0, h⟩ := bind_some h
  refine ⟨ck_some e0, Call.of_R pnRX2 (Nat.le_of_ble_eq_true rfl) ?_⟩
  clear e0
  show R G MX2_canTour 0 [(0, .ref x0), (1, .int x1), (2, .int x2)] [] s (some (.int w.1), w.2)
  refine R_aload DX2_canTour_0 0 rfl ?_
  obtain ⟨v1, ev1, h⟩ := bind_some h
  refine R_gR DX2_canTour_1 fl_RX2_15 ev1 ?_
  refine R_iload DX2_canTour_4 1 rfl ?_
  obtain ⟨v2, ev2, h⟩ := bind_some h
  refine R_aI DX2_canTour_5 ev2 ?_
  refine R_iload DX2_canTour_6 2 rfl ?_
  by_cases c3 : x2 < v2
  · replace h := if_t h c3
    refine R_icmp_gt_t DX2_canTour_7 c3 ?_
    refine R_constI DX2_canTour_14 ci_0 ?_
    cases h
    exact R_zreturn rfl DX2_canTour_15 (by decide)
  · replace h := if_f h c3
    refine R_icmp_gt_f DX2_canTour_7 c3 ?_
    refine R_constI DX2_canTour_10 ci_1 ?_
    refine R_goto DX2_canTour_11 ?_
    cases h
    exact R_zreturn rfl DX2_canTour_15 (by decide)
set_option maxRecDepth 8000 in
theorem kX3_init {G : Gm} {x0 : Nat} {s : Hp} {w : Hp} (h : fX3_init x0 s = some w) : (s.2.2 x0).1 = 3 ∧ Call G MX3_init [.ref x0] s (none, w) := by
  unfold fX3_init at h
  obtain ⟨_, e0, h⟩ := bind_some h
  refine ⟨ck_some e0, Call.of_R pnRX3 (Nat.le_of_ble_eq_true rfl) ?_⟩
  clear e0
  show R G MX3_init 0 [(0, .ref x0)] [] s (none, w)
  refine R_aload DX3_init_0 0 rfl ?_
  refine R_objInit DX3_init_1 oi_RX3_3 ⟨Nat.le_of_ble_eq_true rfl, Nat.le_of_ble_eq_true rfl⟩ ?_
  refine R_aload DX3_init_4 0 rfl ?_
  refine R_constI DX3_init_5 ci_m1 ?_
  obtain ⟨s1, es1, h⟩ := bind_some h
  refine R_pI DX3_init_6 fl_RX3_9 es1 ?_
  cases h
  exact R_return rfl DX3_init_9
set_option maxRecDepth 8000 in
theorem tX6_clear_l72 {G : Gm} {x0 : Nat} {o : Option Value × Hp} {a : Int32 × Hp} {w : (Int32 × Hp) ⊕ ((Hp))} (h : fX6_clear_l72 x0 a = some w) (hc : ∀ (q1 : Int32) (qs : Hp), w = .inl (q1, qs) → R G MX6_clear 72 [(0, .ref x0), (1, .int q1)] [] qs o) (he0 : ∀ (qs : Hp), w = .inr qs → R G MX6_clear 94 [(0, .ref x0)] [] qs o) : R G MX6_clear 72 [(0, .ref x0), (1, .int a.1)] [] a.2 o := by
  unfold fX6_clear_l72 at h
  refine R_iload DX6_clear_72 1 rfl ?_
  refine R_aload DX6_clear_73 0 rfl ?_
  obtain ⟨v15, ev15, h⟩ := bind_some h
  refine R_gR DX6_clear_74 fl_RX6_15 ev15 ?_
  obtain ⟨v16, ev16, h⟩ := bind_some h
  refine R_aN DX6_clear_77 ev16 ?_
  by_cases c17 : v16 ≤ a.1
  · replace h := if_t h c17
    refine R_icmp_ge_t DX6_clear_78 c17 ?_
    refine R.sub (L' := [(0, .ref x0)]) [0] rfl ?_
    cases h
    exact he0 _ rfl
  · replace h := if_f h c17
    refine R_icmp_ge_f DX6_clear_78 c17 ?_
    refine R_aload DX6_clear_81 0 rfl ?_
    obtain ⟨v18, ev18, h⟩ := bind_some h
    refine R_gR DX6_clear_82 fl_RX6_15 ev18 ?_
    refine R_iload DX6_clear_85 1 rfl ?_
    refine R_constI DX6_clear_86 ci_m1 ?_
    obtain ⟨s19, es19, h⟩ := bind_some h
    refine R_sI DX6_clear_87 es19 ?_
    refine R_iinc [(1, .int (a.1 + iI 1)), (0, .ref x0)] DX6_clear_88 1 rfl (v := a.1 + iI 1) (by rfl) (by decide) rfl ?_
    refine R_goto DX6_clear_91 ?_
    refine R.sub (L' := [(0, .ref x0), (1, .int (a.1 + iI 1))]) [1, 0] rfl ?_
    cases h
    exact hc _ _ rfl
set_option maxRecDepth 8000 in
theorem tX6_clear_l96 {G : Gm} {x0 : Nat} {o : Option Value × Hp} {a : Int32 × Hp} {w : (Int32 × Hp) ⊕ ((Hp))} (h : fX6_clear_l96 x0 a = some w) (hc : ∀ (q1 : Int32) (qs : Hp), w = .inl (q1, qs) → R G MX6_clear 96 [(0, .ref x0), (1, .int q1)] [] qs o) (he0 : ∀ (qs : Hp), w = .inr qs → R G MX6_clear 118 [] [] qs o) : R G MX6_clear 96 [(0, .ref x0), (1, .int a.1)] [] a.2 o := by
  unfold fX6_clear_l96 at h
  refine R_iload DX6_clear_96 1 rfl ?_
  refine R_aload DX6_clear_97 0 rfl ?_
  obtain ⟨v21, ev21, h⟩ := bind_some h
  refine R_gR DX6_clear_98 fl_RX6_25 ev21 ?_
  obtain ⟨v22, ev22, h⟩ := bind_some h
  refine R_aN DX6_clear_101 ev22 ?_
  by_cases c23 : v22 ≤ a.1
  · replace h := if_t h c23
    refine R_icmp_ge_t DX6_clear_102 c23 ?_
    refine R.sub (L' := []) [] rfl ?_
    cases h
    exact he0 _ rfl
  · replace h := if_f h c23
    refine R_icmp_ge_f DX6_clear_102 c23 ?_
    refine R_aload DX6_clear_105 0 rfl ?_
    obtain ⟨v24, ev24, h⟩ := bind_some h
    refine R_gR DX6_clear_106 fl_RX6_25 ev24 ?_
    refine R_iload DX6_clear_109 1 rfl ?_
    refine R_constI DX6_clear_110 ci_0 ?_
    obtain ⟨s25, es25, h⟩ := bind_some h
    refine R_sI DX6_clear_111 es25 ?_
    refine R_iinc [(1, .int (a.1 + iI 1)), (0, .ref x0)] DX6_clear_112 1 rfl (v := a.1 + iI 1) (by rfl) (by decide) rfl ?_
    refine R_goto DX6_clear_115 ?_
    refine R.sub (L' := [(0, .ref x0), (1, .int (a.1 + iI 1))]) [1, 0] rfl ?_
    cases h
    exact hc _ _ rfl
set_option maxRecDepth 8000 in
theorem kX6_clear {G : Gm} {x0 : Nat} {s : Hp} {w : Hp} (h : fX6_clear x0 s = some w) : (s.2.2 x0).1 = 6 ∧ Call G MX6_clear [.ref x0] s (none, w) := by
  unfold fX6_clear at h
  obtain ⟨_, e0, h⟩ := bind_some h
  refine ⟨ck_some e0, Call.of_R pnRX6 (Nat.le_of_ble_eq_true rfl) ?_⟩
  clear e0
  show R G MX6_clear 0 [(0, .ref x0)] [] s (none, w)
  refine R_aload DX6_clear_0 0 rfl ?_
  refine R_constI DX6_clear_1 ci_0 ?_
  obtain ⟨s1, es1, h⟩ := bind_some h
  refine R_pI DX6_clear_2 fl_RX6_31 es1 ?_
  refine R_aload DX6_clear_5 0 rfl ?_
  refine R_constI DX6_clear_6 ci_0 ?_
  obtain ⟨s2, es2, h⟩ := bind_some h
  refine R_pI DX6_clear_7 fl_RX6_50 es2 ?_
  refine R_aload DX6_clear_10 0 rfl ?_
  refine R_constI DX6_clear_11 ci_0 ?_
  obtain ⟨s3, es3, h⟩ := bind_some h
  refine R_pI DX6_clear_12 fl_RX6_53 es3 ?_
  refine R_aload DX6_clear_15 0 rfl ?_
  refine R_constI DX6_clear_16 ci_0 ?_
  obtain ⟨s4, es4, h⟩ := bind_some h
  refine R_pI DX6_clear_17 fl_RX6_44 es4 ?_
  refine R_aload DX6_clear_20 0 rfl ?_
  refine R_constI DX6_clear_21 ci_0 ?_
  obtain ⟨s5, es5, h⟩ := bind_some h
  refine R_pI DX6_clear_22 fl_RX6_47 es5 ?_
  refine R_aload DX6_clear_25 0 rfl ?_
  refine R_constI DX6_clear_26 ci_0 ?_
  obtain ⟨s6, es6, h⟩ := bind_some h
  refine R_pI DX6_clear_27 fl_RX6_66 es6 ?_
  refine R_aload DX6_clear_30 0 rfl ?_
  refine R_constI DX6_clear_31 ci_0 ?_
  obtain ⟨s7, es7, h⟩ := bind_some h
  refine R_pI DX6_clear_32 fl_RX6_101 es7 ?_
  refine R_aload DX6_clear_35 0 rfl ?_
  refine R_constI DX6_clear_36 ci_0 ?_
  obtain ⟨s8, es8, h⟩ := bind_some h
  refine R_pI DX6_clear_37 fl_RX6_69 es8 ?_
  refine R_aload DX6_clear_40 0 rfl ?_
  refine R_constI DX6_clear_41 ci_0 ?_
  obtain ⟨s9, es9, h⟩ := bind_some h
  refine R_pI DX6_clear_42 fl_RX6_34 es9 ?_
  refine R_aload DX6_clear_45 0 rfl ?_
  refine R_constI DX6_clear_46 ci_0 ?_
  obtain ⟨s10, es10, h⟩ := bind_some h
  refine R_pI DX6_clear_47 fl_RX6_41 es10 ?_
  refine R_aload DX6_clear_50 0 rfl ?_
  refine R_constI DX6_clear_51 ci_m1 ?_
  obtain ⟨s11, es11, h⟩ := bind_some h
  refine R_pI DX6_clear_52 fl_RX6_9 es11 ?_
  refine R_aload DX6_clear_55 0 rfl ?_
  refine R_constI DX6_clear_56 ci_0 ?_
  obtain ⟨s12, es12, h⟩ := bind_some h
  refine R_pI DX6_clear_57 fl_RX6_104 es12 ?_
  refine R_aload DX6_clear_60 0 rfl ?_
  refine R_constI DX6_clear_61 ci_0 ?_
  obtain ⟨s13, es13, h⟩ := bind_some h
  refine R_pI DX6_clear_62 fl_RX6_107 es13 ?_
  refine R_aload DX6_clear_65 0 rfl ?_
  refine R_constI DX6_clear_66 ci_0 ?_
  obtain ⟨s14, es14, h⟩ := bind_some h
  refine R_pI DX6_clear_67 fl_RX6_91 es14 ?_
  refine R_constI DX6_clear_70 ci_0 ?_
  refine R_istore [(1, .int (iI 0)), (0, .ref x0)] DX6_clear_71 (by decide) rfl ?_
  refine R.sub (L' := [(0, .ref x0), (1, .int (iI 0))]) [1, 0] rfl ?_
  obtain ⟨r20, hi, h⟩ := bind_some h
  have hE : (fun u72 : Hp => R G MX6_clear 94 [(0, .ref x0)] [] u72 (none, w)) r20 → ∀ (q1 : Int32) (qs : Hp), iter (fX6_clear_l72 x0) FU (q1, qs) = some r20 → R G MX6_clear 72 [(0, .ref x0), (1, .int q1)] [] qs (none, w) := fun hX q1 qs hj => loop_R (fX6_clear_l72 x0) (fun p72 : Int32 × Hp => R G MX6_clear 72 [(0, .ref x0), (1, .int p72.1)] [] p72.2 (none, w)) (fun u72 : Hp => R G MX6_clear 94 [(0, .ref x0)] [] u72 (none, w)) (fun a w hw hc he => tX6_clear_l72 hw (fun q1 qs e => hc (q1, qs) e) (fun qs e => he qs e)) FU (q1, qs) r20 hj hX
  refine hE ?_ _ _ hi
  clear hE hi
  refine R_constI DX6_clear_94 ci_0 ?_
  refine R_istore [(1, .int (iI 0)), (0, .ref x0)] DX6_clear_95 (by decide) rfl ?_
  refine R.sub (L' := [(0, .ref x0), (1, .int (iI 0))]) [1, 0] rfl ?_
  obtain ⟨r26, hi, h⟩ := bind_some h
  have hE : (fun u96 : Hp => R G MX6_clear 118 [] [] u96 (none, w)) r26 → ∀ (q1 : Int32) (qs : Hp), iter (fX6_clear_l96 x0) FU (q1, qs) = some r26 → R G MX6_clear 96 [(0, .ref x0), (1, .int q1)] [] qs (none, w) := fun hX q1 qs hj => loop_R (fX6_clear_l96 x0) (fun p96 : Int32 × Hp => R G MX6_clear 96 [(0, .ref x0), (1, .int p96.1)] [] p96.2 (none, w)) (fun u96 : Hp => R G MX6_clear 118 [] [] u96 (none, w)) (fun a w hw hc he => tX6_clear_l96 hw (fun q1 qs e => hc (q1, qs) e) (fun qs e => he qs e)) FU (q1, qs) r26 hj hX
  refine hE ?_ _ _ hi
  clear hE hi
  cases h
  exact R_return rfl DX6_clear_118
set_option maxRecDepth 8000 in
theorem tX3_isLetter_b16 {G : Gm} {s : Hp} {w : Int32 × Hp} (h : fX3_isLetter_b16 s = some w) : R G MX3_isLetter 16 [] [] s (some (.int w.1), w.2) := by
  unfold fX3_isLetter_b16 at h
  refine R_constI DX3_isLetter_16 ci_0 ?_
  cases h
  exact R_zreturn rfl DX3_isLetter_17 (by decide)
set_option maxRecDepth 8000 in
theorem kX3_isLetter {G : Gm} {x0 : Int32} {s : Hp} {w : Int32 × Hp} (h : fX3_isLetter x0 s = some w) : Call G MX3_isLetter [.int x0] s (some (.int w.1), w.2) := by
  unfold fX3_isLetter at h
  refine Call.of_R pnRX3 (Nat.le_of_ble_eq_true rfl) ?_
  show R G MX3_isLetter 0 [(0, .int x0)] [] s (some (.int w.1), w.2)
  refine R_iload DX3_isLetter_0 0 rfl ?_
  refine R_constI DX3_isLetter_1 ci_97 ?_
  by_cases c1 : x0 < (iI 97)
  · replace h := if_t h c1
    refine R_icmp_lt_t DX3_isLetter_3 c1 ?_
    refine R.sub (L' := []) [] rfl ?_
    exact tX3_isLetter_b16 h
  · replace h := if_f h c1
    refine R_icmp_lt_f DX3_isLetter_3 c1 ?_
    refine R_iload DX3_isLetter_6 0 rfl ?_
    refine R_constI DX3_isLetter_7 ci_122 ?_
    by_cases c2 : (iI 122) < x0
    · replace h := if_t h c2
      refine R_icmp_gt_t DX3_isLetter_9 c2 ?_
      refine R.sub (L' := []) [] rfl ?_
      exact tX3_isLetter_b16 h
    · replace h := if_f h c2
      refine R_icmp_gt_f DX3_isLetter_9 c2 ?_
      refine R_constI DX3_isLetter_12 ci_1 ?_
      refine R_goto DX3_isLetter_13 ?_
      cases h
      exact R_zreturn rfl DX3_isLetter_17 (by decide)
