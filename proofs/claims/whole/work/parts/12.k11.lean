set_option maxRecDepth 8000 in
theorem tX9_chance_b48 {G : Gm} {s : Hp} {w : Int32 × Hp} (h : fX9_chance_b48 s = some w) : R G MX9_chance 48 [] [] s (some (.int w.1), w.2) := by
  unfold fX9_chance_b48 at h
  refine R_constI DX9_chance_48 ci_m2 ?_
  cases h
  exact R_ireturn rfl DX9_chance_50
set_option maxRecDepth 8000 in
theorem tX9_chance_b121 {G : Gm} {x0 : Nat} {x1 : Int32} {x2 : Int32} {x3 : Int32} {x4 : Int32} {x5 : Int32} {x6 : Int32} {x8 : Int32} {y0 : Int32} {y1 : Int32} {s : Hp} {o : Option Value × Hp} {w : (Int32 × Int32 × Hp) ⊕ ((Int32 × Hp))} (h : fX9_chance_b121 x0 x1 x2 x3 x4 x5 x6 x8 y0 y1 s = some w) (hc : ∀ (q7 : Int32) (q8 : Int32) (qs : Hp), w = .inl (q7, q8, qs) → R G MX9_chance 57 [(0, .ref x0), (1, .int x1), (2, .int x2), (3, .int x3), (4, .int x4), (5, .int x5), (6, .int x6), (7, .int q7), (8, .int q8)] [] qs o) (he0 : ∀ (q7 : Int32) (qs : Hp), w = .inr (q7, qs) → R G MX9_chance 130 [(7, .int q7)] [] qs o) : R G MX9_chance 121 [(0, .ref x0), (1, .int x1), (2, .int x2), (3, .int x3), (4, .int x4), (5, .int x5), (6, .int x6), (8, .int x8)] [.int y1, .int y0] s o := by
  unfold fX9_chance_b121 at h
  refine R_iadd DX9_chance_121 ?_
  obtain ⟨z16, ez16, h⟩ := lt_some h
  refine R_istoreE ez16 [(7, .int z16), (0, .ref x0), (1, .int x1), (2, .int x2), (3, .int x3), (4, .int x4), (5, .int x5), (6, .int x6), (8, .int x8)] DX9_chance_122 (by decide) rfl ?_
  refine R_iinc [(8, .int (x8 + iI 1)), (7, .int z16), (0, .ref x0), (1, .int x1), (2, .int x2), (3, .int x3), (4, .int x4), (5, .int x5), (6, .int x6)] DX9_chance_124 8 rfl (v := x8 + iI 1) (by rfl) (by decide) rfl ?_
  refine R_goto DX9_chance_127 ?_
  refine R.sub (L' := [(0, .ref x0), (1, .int x1), (2, .int x2), (3, .int x3), (4, .int x4), (5, .int x5), (6, .int x6), (7, .int z16), (8, .int (x8 + iI 1))]) [2, 3, 4, 5, 6, 7, 8, 1, 0] rfl ?_
  cases h
  exact hc _ _ _ rfl
set_option maxRecDepth 8000 in
theorem tX9_chance_b120 {G : Gm} {x0 : Nat} {x1 : Int32} {x2 : Int32} {x3 : Int32} {x4 : Int32} {x5 : Int32} {x6 : Int32} {x8 : Int32} {y0 : Int32} {s : Hp} {o : Option Value × Hp} {w : (Int32 × Int32 × Hp) ⊕ ((Int32 × Hp))} (h : fX9_chance_b120 x0 x1 x2 x3 x4 x5 x6 x8 y0 s = some w) (hc : ∀ (q7 : Int32) (q8 : Int32) (qs : Hp), w = .inl (q7, q8, qs) → R G MX9_chance 57 [(0, .ref x0), (1, .int x1), (2, .int x2), (3, .int x3), (4, .int x4), (5, .int x5), (6, .int x6), (7, .int q7), (8, .int q8)] [] qs o) (he0 : ∀ (q7 : Int32) (qs : Hp), w = .inr (q7, qs) → R G MX9_chance 130 [(7, .int q7)] [] qs o) : R G MX9_chance 120 [(0, .ref x0), (1, .int x1), (2, .int x2), (3, .int x3), (4, .int x4), (5, .int x5), (6, .int x6), (8, .int x8)] [.int y0] s o := by
  unfold fX9_chance_b120 at h
  refine R_constI DX9_chance_120 ci_0 ?_
  exact tX9_chance_b121 h hc he0
set_option maxRecDepth 8000 in
theorem tX9_chance_l57 {G : Gm} {x0 : Nat} {x1 : Int32} {x2 : Int32} {x3 : Int32} {x4 : Int32} {x5 : Int32} {x6 : Int32} {o : Option Value × Hp} {a : Int32 × Int32 × Hp} {w : (Int32 × Int32 × Hp) ⊕ ((Int32 × Hp))} (h : fX9_chance_l57 x0 x1 x2 x3 x4 x5 x6 a = some w) (hc : ∀ (q7 : Int32) (q8 : Int32) (qs : Hp), w = .inl (q7, q8, qs) → R G MX9_chance 57 [(0, .ref x0), (1, .int x1), (2, .int x2), (3, .int x3), (4, .int x4), (5, .int x5), (6, .int x6), (7, .int q7), (8, .int q8)] [] qs o) (he0 : ∀ (q7 : Int32) (qs : Hp), w = .inr (q7, qs) → R G MX9_chance 130 [(7, .int q7)] [] qs o) : R G MX9_chance 57 [(0, .ref x0), (1, .int x1), (2, .int x2), (3, .int x3), (4, .int x4), (5, .int x5), (6, .int x6), (7, .int a.1), (8, .int a.2.1)] [] a.2.2 o := by
  unfold fX9_chance_l57 at h
  refine R_iload DX9_chance_57 8 rfl ?_
  refine R_iload DX9_chance_59 2 rfl ?_
  by_cases c10 : x2 ≤ a.2.1
  · replace h := if_t h c10
    refine R_icmp_ge_t DX9_chance_60 c10 ?_
    refine R.sub (L' := [(7, .int a.1)]) [7] rfl ?_
    cases h
    exact he0 _ _ rfl
  · replace h := if_f h c10
    refine R_icmp_ge_f DX9_chance_60 c10 ?_
    refine R_aload DX9_chance_63 0 rfl ?_
    refine R_iload DX9_chance_64 1 rfl ?_
    refine R_i2l DX9_chance_65 ?_
    refine R_iload DX9_chance_66 8 rfl ?_
    refine R_i2l DX9_chance_68 ?_
    refine R_ladd DX9_chance_69 ?_
    refine R_iload DX9_chance_70 3 rfl ?_
    obtain ⟨s11, es11, h⟩ := bind_some h
    refine R_cV0 [.long ((Int32.toInt64 x1) + (Int32.toInt64 a.2.1)), .int x3] DX9_chance_71 kzvX9_draws ml_RX9_565 ⟨Nat.le_of_ble_eq_true rfl, Nat.le_of_ble_eq_true rfl⟩ rfl (Nat.le_of_ble_eq_true rfl) (kX9_draws es11) ?_
    refine R_iload DX9_chance_74 7 rfl ?_
    refine R_aload DX9_chance_76 0 rfl ?_
    refine R_iload DX9_chance_77 4 rfl ?_
    refine R_aload DX9_chance_79 0 rfl ?_
    obtain ⟨v12, ev12, h⟩ := bind_some h
    refine R_gR DX9_chance_80 fl_RX9_34 ev12 ?_
    refine R_constI DX9_chance_83 ci_3 ?_
    obtain ⟨v13, ev13, h⟩ := bind_some h
    refine R_aI DX9_chance_84 ev13 ?_
    refine R_constI DX9_chance_85 ci_1 ?_
    refine R_isub DX9_chance_86 ?_
    refine R_constI DX9_chance_87 ci_0 ?_
    obtain ⟨r14, er14, h⟩ := bind_some h
    refine R_cV1 [.int x4, .int (v13 - (iI 1)), .int (iI 0)] DX9_chance_88 kzvX9_spotOf ml_RX9_394 ⟨Nat.le_of_ble_eq_true rfl, Nat.le_of_ble_eq_true rfl⟩ rfl (Nat.le_of_ble_eq_true rfl) (kX9_spotOf er14) ?_
    refine R_iload DX9_chance_91 5 rfl ?_
    by_cases c15 : r14.1 = x5
    · replace h := if_t h c15
      refine R_icmp_ne_f DX9_chance_93 c15 ?_
      refine R_aload DX9_chance_96 0 rfl ?_
      refine R_iload DX9_chance_97 4 rfl ?_
      refine R_aload DX9_chance_99 0 rfl ?_
      obtain ⟨v17, ev17, h⟩ := bind_some h
      refine R_gR DX9_chance_100 fl_RX9_34 ev17 ?_
      refine R_constI DX9_chance_103 ci_3 ?_
      obtain ⟨v18, ev18, h⟩ := bind_some h
      refine R_aI DX9_chance_104 ev18 ?_
      refine R_constI DX9_chance_105 ci_1 ?_
      refine R_isub DX9_chance_106 ?_
      refine R_constI DX9_chance_107 ci_1 ?_
      obtain ⟨r19, er19, h⟩ := bind_some h
      refine R_cV1 [.int x4, .int (v18 - (iI 1)), .int (iI 1)] DX9_chance_108 kzvX9_spotOf ml_RX9_394 ⟨Nat.le_of_ble_eq_true rfl, Nat.le_of_ble_eq_true rfl⟩ rfl (Nat.le_of_ble_eq_true rfl) (kX9_spotOf er19) ?_
      refine R_iload DX9_chance_111 6 rfl ?_
      by_cases c20 : r19.1 = x6
      · replace h := if_t h c20
        refine R_icmp_ne_f DX9_chance_113 c20 ?_
        refine R_constI DX9_chance_116 ci_1 ?_
        refine R_goto DX9_chance_117 ?_
        refine R.sub (L' := [(0, .ref x0), (1, .int x1), (2, .int x2), (3, .int x3), (4, .int x4), (5, .int x5), (6, .int x6), (8, .int a.2.1)]) [0, 1, 2, 3, 4, 5, 6, 8] rfl ?_
        exact tX9_chance_b121 h hc he0
      · replace h := if_f h c20
        refine R_icmp_ne_t DX9_chance_113 c20 ?_
        refine R.sub (L' := [(0, .ref x0), (1, .int x1), (2, .int x2), (3, .int x3), (4, .int x4), (5, .int x5), (6, .int x6), (8, .int a.2.1)]) [0, 1, 2, 3, 4, 5, 6, 8] rfl ?_
        exact tX9_chance_b120 h hc he0
    · replace h := if_f h c15
      refine R_icmp_ne_t DX9_chance_93 c15 ?_
      refine R.sub (L' := [(0, .ref x0), (1, .int x1), (2, .int x2), (3, .int x3), (4, .int x4), (5, .int x5), (6, .int x6), (8, .int a.2.1)]) [0, 1, 2, 3, 4, 5, 6, 8] rfl ?_
      exact tX9_chance_b120 h hc he0
set_option maxRecDepth 8000 in
theorem kX9_chance {G : Gm} {x0 : Nat} {x1 : Int32} {x2 : Int32} {x3 : Int32} {x4 : Int32} {x5 : Int32} {x6 : Int32} {s : Hp} {w : Int32 × Hp} (h : fX9_chance x0 x1 x2 x3 x4 x5 x6 s = some w) : (s.2.2 x0).1 = 9 ∧ Call G MX9_chance [.ref x0, .int x1, .int x2, .int x3, .int x4, .int x5, .int x6] s (some (.int w.1), w.2) := by
  unfold fX9_chance at h
  obtain ⟨_, e0, h⟩ := bind_some h
  refine ⟨ck_some e0, Call.of_R pnRX9 (Nat.le_of_ble_eq_true rfl) ?_⟩
  clear e0
  show R G MX9_chance 0 [(0, .ref x0), (1, .int x1), (2, .int x2), (3, .int x3), (4, .int x4), (5, .int x5), (6, .int x6)] [] s (some (.int w.1), w.2)
  refine R_aload DX9_chance_0 0 rfl ?_
  refine R_constI DX9_chance_1 ci_0 ?_
  obtain ⟨s1, es1, h⟩ := bind_some h
  refine R_pI DX9_chance_2 fl_RX9_92 es1 ?_
  refine R_aload DX9_chance_5 0 rfl ?_
  refine R_iload DX9_chance_6 1 rfl ?_
  refine R_iload DX9_chance_7 3 rfl ?_
  obtain ⟨r2, er2, h⟩ := bind_some h
  refine R_cV1 [.int x1, .int x3] DX9_chance_8 kzvX9_isDraw ml_RX9_562 ⟨Nat.le_of_ble_eq_true rfl, Nat.le_of_ble_eq_true rfl⟩ rfl (Nat.le_of_ble_eq_true rfl) (kX9_isDraw er2) ?_
  by_cases c3 : r2.1 = 0
  · replace h := if_t h c3
    refine R_if_eq_t DX9_chance_11 c3 ?_
    refine R.sub (L' := []) [] rfl ?_
    exact tX9_chance_b48 h
  · replace h := if_f h c3
    refine R_if_eq_f DX9_chance_11 c3 ?_
    refine R_iload DX9_chance_14 2 rfl ?_
    refine R_i2l DX9_chance_15 ?_
    refine R_lconst DX9_chance_16 ?_
    refine R_ldc2 DX9_chance_17 cw_RX9_569 ?_
    obtain ⟨r4, er4, h⟩ := bind_some h
    refine R_cS1 [.long (Int32.toInt64 x2), .long 1, .long 20] DX9_chance_20 kzsX9_in ml_RX9_97 ⟨Nat.le_of_ble_eq_true rfl, Nat.le_of_ble_eq_true rfl⟩ rfl (Nat.le_of_ble_eq_true rfl) (kX9_in er4) ?_
    by_cases c5 : r4.1 = 0
    · replace h := if_t h c5
      refine R_if_eq_t DX9_chance_23 c5 ?_
      refine R.sub (L' := []) [] rfl ?_
      exact tX9_chance_b48 h
    · replace h := if_f h c5
      refine R_if_eq_f DX9_chance_23 c5 ?_
      refine R_aload DX9_chance_26 0 rfl ?_
      refine R_iload DX9_chance_27 4 rfl ?_
      obtain ⟨r6, er6, h⟩ := bind_some h
      refine R_cV1 [.int x4] DX9_chance_29 kzvX9_isShop ml_RX9_314 ⟨Nat.le_of_ble_eq_true rfl, Nat.le_of_ble_eq_true rfl⟩ rfl (Nat.le_of_ble_eq_true rfl) (kX9_isShop er6) ?_
      by_cases c7 : r6.1 = 0
      · replace h := if_t h c7
        refine R_if_eq_t DX9_chance_32 c7 ?_
        refine R.sub (L' := []) [] rfl ?_
        exact tX9_chance_b48 h
      · replace h := if_f h c7
        refine R_if_eq_f DX9_chance_32 c7 ?_
        refine R_aload DX9_chance_35 0 rfl ?_
        refine R_iload DX9_chance_36 5 rfl ?_
        refine R_i2l DX9_chance_38 ?_
        refine R_iload DX9_chance_39 6 rfl ?_
        refine R_i2l DX9_chance_41 ?_
        obtain ⟨r8, er8, h⟩ := bind_some h
        refine R_cV1 [.long (Int32.toInt64 x5), .long (Int32.toInt64 x6)] DX9_chance_42 kzvX9_isColumn ml_RX9_331 ⟨Nat.le_of_ble_eq_true rfl, Nat.le_of_ble_eq_true rfl⟩ rfl (Nat.le_of_ble_eq_true rfl) (kX9_isColumn er8) ?_
        by_cases c9 : r8.1 = 0
        · replace h := if_t h c9
          refine R_if_ne_f DX9_chance_45 c9 ?_
          refine R.sub (L' := []) [] rfl ?_
          exact tX9_chance_b48 h
        · replace h := if_f h c9
          refine R_if_ne_t DX9_chance_45 c9 ?_
          refine R_constI DX9_chance_51 ci_0 ?_
          refine R_istore [(7, .int (iI 0)), (0, .ref x0), (1, .int x1), (2, .int x2), (3, .int x3), (4, .int x4), (5, .int x5), (6, .int x6)] DX9_chance_52 (by decide) rfl ?_
          refine R_constI DX9_chance_54 ci_0 ?_
          refine R_istore [(8, .int (iI 0)), (7, .int (iI 0)), (0, .ref x0), (1, .int x1), (2, .int x2), (3, .int x3), (4, .int x4), (5, .int x5), (6, .int x6)] DX9_chance_55 (by decide) rfl ?_
          refine R.sub (L' := [(0, .ref x0), (1, .int x1), (2, .int x2), (3, .int x3), (4, .int x4), (5, .int x5), (6, .int x6), (7, .int (iI 0)), (8, .int (iI 0))]) [2, 3, 4, 5, 6, 7, 8, 1, 0] rfl ?_
          obtain ⟨r21, hi, h⟩ := bind_some h
          have hE : (fun u57 : Int32 × Hp => R G MX9_chance 130 [(7, .int u57.1)] [] u57.2 (some (.int w.1), w.2)) r21 → ∀ (q7 : Int32) (q8 : Int32) (qs : Hp), iter (fX9_chance_l57 x0 x1 x2 x3 x4 x5 x6) FU (q7, q8, qs) = some r21 → R G MX9_chance 57 [(0, .ref x0), (1, .int x1), (2, .int x2), (3, .int x3), (4, .int x4), (5, .int x5), (6, .int x6), (7, .int q7), (8, .int q8)] [] qs (some (.int w.1), w.2) := fun hX q7 q8 qs hj => loop_R (fX9_chance_l57 x0 x1 x2 x3 x4 x5 x6) (fun p57 : Int32 × Int32 × Hp => R G MX9_chance 57 [(0, .ref x0), (1, .int x1), (2, .int x2), (3, .int x3), (4, .int x4), (5, .int x5), (6, .int x6), (7, .int p57.1), (8, .int p57.2.1)] [] p57.2.2 (some (.int w.1), w.2)) (fun u57 : Int32 × Hp => R G MX9_chance 130 [(7, .int u57.1)] [] u57.2 (some (.int w.1), w.2)) (fun a w hw hc he => tX9_chance_l57 hw (fun q7 q8 qs e => hc (q7, q8, qs) e) (fun q7 qs e => he (q7, qs) e)) FU (q7, q8, qs) r21 hj hX
          refine hE ?_ _ _ _ hi
          clear hE hi
          refine R_iload DX9_chance_130 0 rfl ?_
          cases h
          exact R_ireturn rfl DX9_chance_132
set_option maxRecDepth 8000 in
theorem kX9_takings {G : Gm} {x0 : Nat} {x1 : Int32} {x2 : Int32} {s : Hp} {w : Int32 × Hp} (h : fX9_takings x0 x1 x2 s = some w) : (s.2.2 x0).1 = 9 ∧ Call G MX9_takings [.ref x0, .int x1, .int x2] s (some (.int w.1), w.2) := by
  unfold fX9_takings at h
  obtain ⟨_, e0, h⟩ := bind_some h
  refine ⟨ck_some e0, Call.of_R pnRX9 (Nat.le_of_ble_eq_true rfl) ?_⟩
  clear e0
  show R G MX9_takings 0 [(0, .ref x0), (1, .int x1), (2, .int x2)] [] s (some (.int w.1), w.2)
  refine R_aload DX9_takings_0 0 rfl ?_
  refine R_constI DX9_takings_1 ci_0 ?_
  obtain ⟨s1, es1, h⟩ := bind_some h
  refine R_pI DX9_takings_2 fl_RX9_92 es1 ?_
  refine R_aload DX9_takings_5 0 rfl ?_
  refine R_iload DX9_takings_6 1 rfl ?_
  refine R_iload DX9_takings_7 2 rfl ?_
  obtain ⟨r2, er2, h⟩ := bind_some h
  refine R_cV1 [.int x1, .int x2] DX9_takings_8 kzvX9_isDraw ml_RX9_562 ⟨Nat.le_of_ble_eq_true rfl, Nat.le_of_ble_eq_true rfl⟩ rfl (Nat.le_of_ble_eq_true rfl) (kX9_isDraw er2) ?_
  by_cases c3 : r2.1 = 0
  · replace h := if_t h c3
    refine R_if_ne_f DX9_takings_11 c3 ?_
    refine R_constI DX9_takings_14 ci_m2 ?_
    cases h
    exact R_ireturn rfl DX9_takings_16
  · replace h := if_f h c3
    refine R_if_ne_t DX9_takings_11 c3 ?_
    refine R_aload DX9_takings_17 0 rfl ?_
    refine R_iload DX9_takings_18 1 rfl ?_
    refine R_i2l DX9_takings_19 ?_
    refine R_iload DX9_takings_20 2 rfl ?_
    obtain ⟨s4, es4, h⟩ := bind_some h
    refine R_cV0 [.long (Int32.toInt64 x1), .int x2] DX9_takings_21 kzvX9_draws ml_RX9_565 ⟨Nat.le_of_ble_eq_true rfl, Nat.le_of_ble_eq_true rfl⟩ rfl (Nat.le_of_ble_eq_true rfl) (kX9_draws es4) ?_
    refine R_aload DX9_takings_24 0 rfl ?_
    obtain ⟨r5, er5, h⟩ := bind_some h
    refine R_cV1 [] DX9_takings_25 kzvX9_moneyNow ml_RX9_398 ⟨Nat.le_of_ble_eq_true rfl, Nat.le_of_ble_eq_true rfl⟩ rfl (Nat.le_of_ble_eq_true rfl) (kX9_moneyNow er5) ?_
    cases h
    exact R_ireturn rfl DX9_takings_28
set_option maxRecDepth 8000 in
theorem tX9_count_b99 {G : Gm} {x0 : Nat} {x3 : Int32} {y0 : Int32} {y1 : Int32} {s : Hp} {o : Option Value × Hp} {w : (Int32 × Int32 × Hp) ⊕ ((Int32 × Hp))} (h : fX9_count_b99 x0 x3 y0 y1 s = some w) (hc : ∀ (q2 : Int32) (q3 : Int32) (qs : Hp), w = .inl (q2, q3, qs) → R G MX9_count 78 [(0, .ref x0), (2, .int q2), (3, .int q3)] [] qs o) (he0 : ∀ (q2 : Int32) (qs : Hp), w = .inr (q2, qs) → R G MX9_count 107 [(2, .int q2)] [] qs o) : R G MX9_count 99 [(0, .ref x0), (3, .int x3)] [.int y1, .int y0] s o := by
  unfold fX9_count_b99 at h
  refine R_iadd DX9_count_99 ?_
  obtain ⟨z17, ez17, h⟩ := lt_some h
  refine R_istoreE ez17 [(2, .int z17), (0, .ref x0), (3, .int x3)] DX9_count_100 (by decide) rfl ?_
  refine R_iinc [(3, .int (x3 + iI 1)), (2, .int z17), (0, .ref x0)] DX9_count_101 2 rfl (v := x3 + iI 1) (by rfl) (by decide) rfl ?_
  refine R_goto DX9_count_104 ?_
  refine R.sub (L' := [(0, .ref x0), (2, .int z17), (3, .int (x3 + iI 1))]) [2, 1, 0] rfl ?_
  cases h
  exact hc _ _ _ rfl
set_option maxRecDepth 8000 in
theorem tX9_count_l78 {G : Gm} {x0 : Nat} {o : Option Value × Hp} {a : Int32 × Int32 × Hp} {w : (Int32 × Int32 × Hp) ⊕ ((Int32 × Hp))} (h : fX9_count_l78 x0 a = some w) (hc : ∀ (q2 : Int32) (q3 : Int32) (qs : Hp), w = .inl (q2, q3, qs) → R G MX9_count 78 [(0, .ref x0), (2, .int q2), (3, .int q3)] [] qs o) (he0 : ∀ (q2 : Int32) (qs : Hp), w = .inr (q2, qs) → R G MX9_count 107 [(2, .int q2)] [] qs o) : R G MX9_count 78 [(0, .ref x0), (2, .int a.1), (3, .int a.2.1)] [] a.2.2 o := by
  unfold fX9_count_l78 at h
  refine R_iload DX9_count_78 2 rfl ?_
  refine R_constI DX9_count_79 ci_4 ?_
  by_cases c13 : (iI 4) ≤ a.2.1
  · replace h := if_t h c13
    refine R_icmp_ge_t DX9_count_80 c13 ?_
    refine R.sub (L' := [(2, .int a.1)]) [1] rfl ?_
    cases h
    exact he0 _ _ rfl
  · replace h := if_f h c13
    refine R_icmp_ge_f DX9_count_80 c13 ?_
    refine R_iload DX9_count_83 1 rfl ?_
    refine R_aload DX9_count_84 0 rfl ?_
    obtain ⟨v14, ev14, h⟩ := bind_some h
    refine R_gR DX9_count_85 fl_RX9_7 ev14 ?_
    refine R_iload DX9_count_88 2 rfl ?_
    obtain ⟨v15, ev15, h⟩ := bind_some h
    refine R_aI DX9_count_89 ev15 ?_
    refine R_constI DX9_count_90 ci_m1 ?_
    by_cases c16 : v15 = (iI (-1))
    · replace h := if_t h c16
      refine R_icmp_ne_f DX9_count_91 c16 ?_
      refine R_constI DX9_count_94 ci_0 ?_
      refine R_goto DX9_count_95 ?_
      refine R.sub (L' := [(0, .ref x0), (3, .int a.2.1)]) [0, 2] rfl ?_
      exact tX9_count_b99 h hc he0
    · replace h := if_f h c16
      refine R_icmp_ne_t DX9_count_91 c16 ?_
      refine R_constI DX9_count_98 ci_1 ?_
      refine R.sub (L' := [(0, .ref x0), (3, .int a.2.1)]) [0, 2] rfl ?_
      exact tX9_count_b99 h hc he0
set_option maxRecDepth 8000 in
theorem kX9_count {G : Gm} {x0 : Nat} {x1 : Int32} {s : Hp} {w : Int32 × Hp} (h : fX9_count x0 x1 s = some w) : (s.2.2 x0).1 = 9 ∧ Call G MX9_count [.ref x0, .int x1] s (some (.int w.1), w.2) := by
  unfold fX9_count at h
  obtain ⟨_, e0, h⟩ := bind_some h
  refine ⟨ck_some e0, Call.of_R pnRX9 (Nat.le_of_ble_eq_true rfl) ?_⟩
  clear e0
  show R G MX9_count 0 [(0, .ref x0), (1, .int x1)] [] s (some (.int w.1), w.2)
  refine R_aload DX9_count_0 0 rfl ?_
  refine R_constI DX9_count_1 ci_0 ?_
  obtain ⟨s1, es1, h⟩ := bind_some h
  refine R_pI DX9_count_2 fl_RX9_92 es1 ?_
  refine R_iload DX9_count_5 1 rfl ?_
  refine R_i2l DX9_count_6 ?_
  refine R_lconst DX9_count_7 ?_
  refine R_ldc2 DX9_count_8 cw_RX9_571 ?_
  obtain ⟨r2, er2, h⟩ := bind_some h
  refine R_cS1 [.long (Int32.toInt64 x1), .long 0, .long 8] DX9_count_11 kzsX9_in ml_RX9_97 ⟨Nat.le_of_ble_eq_true rfl, Nat.le_of_ble_eq_true rfl⟩ rfl (Nat.le_of_ble_eq_true rfl) (kX9_in er2) ?_
  by_cases c3 : r2.1 = 0
  · replace h := if_t h c3
    refine R_if_eq_t DX9_count_14 c3 ?_
    refine R_constI DX9_count_24 ci_0 ?_
    refine R_istore [(2, .int (iI 0)), (0, .ref x0), (1, .int x1)] DX9_count_25 (by decide) rfl ?_
    refine R_iload DX9_count_26 2 rfl ?_
    by_cases c4 : x1 = (iI 9)
    · replace h := if_t h c4
      refine R_tabIn (t := 56) DX9_count_27 (by rw [c4]; decide) (by rw [c4]; decide) (off := 29) (by rw [c4]; rfl) (by decide) ?_
      refine R_aload DX9_count_56 1 rfl ?_
      obtain ⟨v5, ev5, h⟩ := bind_some h
      refine R_gR DX9_count_57 fl_RX9_31 ev5 ?_
      refine R_constI DX9_count_60 ci_0 ?_
      obtain ⟨v6, ev6, h⟩ := bind_some h
      refine R_aI DX9_count_61 ev6 ?_
      cases h
      exact R_ireturn rfl DX9_count_62
    replace h := if_f h c4
    by_cases c7 : x1 = (iI 10)
    · replace h := if_t h c7
      refine R_tabIn (t := 63) DX9_count_27 (by rw [c7]; decide) (by rw [c7]; decide) (off := 36) (by rw [c7]; rfl) (by decide) ?_
      refine R_aload DX9_count_63 1 rfl ?_
      obtain ⟨v8, ev8, h⟩ := bind_some h
      refine R_gI DX9_count_64 fl_RX9_109 ev8 ?_
      cases h
      exact R_ireturn rfl DX9_count_67
    replace h := if_f h c7
    by_cases c9 : x1 = (iI 11)
    · replace h := if_t h c9
      refine R_tabIn (t := 68) DX9_count_27 (by rw [c9]; decide) (by rw [c9]; decide) (off := 41) (by rw [c9]; rfl) (by decide) ?_
      refine R_aload DX9_count_68 1 rfl ?_
      obtain ⟨v10, ev10, h⟩ := bind_some h
      refine R_gR DX9_count_69 fl_RX9_34 ev10 ?_
      refine R_constI DX9_count_72 ci_14 ?_
      obtain ⟨v11, ev11, h⟩ := bind_some h
      refine R_aI DX9_count_74 ev11 ?_
      cases h
      exact R_ireturn rfl DX9_count_75
    replace h := if_f h c9
    by_cases c12 : x1 = (iI 12)
    · replace h := if_t h c12
      refine R_tabIn (t := 76) DX9_count_27 (by rw [c12]; decide) (by rw [c12]; decide) (off := 49) (by rw [c12]; rfl) (by decide) ?_
      refine R_constI DX9_count_76 ci_0 ?_
      refine R_istore [(3, .int (iI 0)), (2, .int (iI 0)), (0, .ref x0), (1, .int x1)] DX9_count_77 (by decide) rfl ?_
      refine R.sub (L' := [(0, .ref x0), (2, .int (iI 0)), (3, .int (iI 0))]) [2, 1, 0] rfl ?_
      obtain ⟨r18, hi, h⟩ := bind_some h
      have hE : (fun u78 : Int32 × Hp => R G MX9_count 107 [(2, .int u78.1)] [] u78.2 (some (.int w.1), w.2)) r18 → ∀ (q2 : Int32) (q3 : Int32) (qs : Hp), iter (fX9_count_l78 x0) FU (q2, q3, qs) = some r18 → R G MX9_count 78 [(0, .ref x0), (2, .int q2), (3, .int q3)] [] qs (some (.int w.1), w.2) := fun hX q2 q3 qs hj => loop_R (fX9_count_l78 x0) (fun p78 : Int32 × Int32 × Hp => R G MX9_count 78 [(0, .ref x0), (2, .int p78.1), (3, .int p78.2.1)] [] p78.2.2 (some (.int w.1), w.2)) (fun u78 : Int32 × Hp => R G MX9_count 107 [(2, .int u78.1)] [] u78.2 (some (.int w.1), w.2)) (fun a w hw hc he => tX9_count_l78 hw (fun q2 q3 qs e => hc (q2, q3, qs) e) (fun q2 qs e => he (q2, qs) e)) FU (q2, q3, qs) r18 hj hX
      refine hE ?_ _ _ _ hi
      clear hE hi
      refine R_iload DX9_count_107 0 rfl ?_
      cases h
      exact R_ireturn rfl DX9_count_108
    replace h := if_f h c12
    have hto : x1.toInt < 9 ∨ 12 < x1.toInt := by
      refine tab_out fun k h1 h2 hk => ?_
      rcases (show k = 9 ∨ k = 10 ∨ k = 11 ∨ k = 12 by omega) with rfl | rfl | rfl | rfl
      · exact c4 (Int32.toInt_inj.mp (hk.trans (by decide)))
      · exact c7 (Int32.toInt_inj.mp (hk.trans (by decide)))
      · exact c9 (Int32.toInt_inj.mp (hk.trans (by decide)))
      · exact c12 (Int32.toInt_inj.mp (hk.trans (by decide)))
    refine R_tabOut (t := 109) DX9_count_27 hto (by decide) ?_
    refine R_constI DX9_count_109 ci_m1 ?_
    cases h
    exact R_ireturn rfl DX9_count_110
  · replace h := if_f h c3
    refine R_if_eq_f DX9_count_14 c3 ?_
    refine R_aload DX9_count_17 0 rfl ?_
    obtain ⟨v19, ev19, h⟩ := bind_some h
    refine R_gR DX9_count_18 fl_RX9_34 ev19 ?_
    refine R_iload DX9_count_21 1 rfl ?_
    obtain ⟨v20, ev20, h⟩ := bind_some h
    refine R_aI DX9_count_22 ev20 ?_
    cases h
    exact R_ireturn rfl DX9_count_23
set_option maxRecDepth 8000 in
theorem kX9_keep {G : Gm} {x0 : Nat} {x1 : Int32} {s : Hp} {w : Int32 × Hp} (h : fX9_keep x0 x1 s = some w) : (s.2.2 x0).1 = 9 ∧ Call G MX9_keep [.ref x0, .int x1] s (some (.int w.1), w.2) := by
  unfold fX9_keep at h
  obtain ⟨_, e0, h⟩ := bind_some h
  refine ⟨ck_some e0, Call.of_R pnRX9 (Nat.le_of_ble_eq_true rfl) ?_⟩
  clear e0
  show R G MX9_keep 0 [(0, .ref x0), (1, .int x1)] [] s (some (.int w.1), w.2)
  refine R_aload DX9_keep_0 0 rfl ?_
  refine R_constI DX9_keep_1 ci_0 ?_
  obtain ⟨s1, es1, h⟩ := bind_some h
  refine R_pI DX9_keep_2 fl_RX9_92 es1 ?_
  refine R_iload DX9_keep_5 1 rfl ?_
  refine R_i2l DX9_keep_6 ?_
  refine R_lconst DX9_keep_7 ?_
  refine R_ldc2 DX9_keep_8 cw_RX9_300 ?_
  obtain ⟨r2, er2, h⟩ := bind_some h
  refine R_cS1 [.long (Int32.toInt64 x1), .long 0, .long 2] DX9_keep_11 kzsX9_in ml_RX9_97 ⟨Nat.le_of_ble_eq_true rfl, Nat.le_of_ble_eq_true rfl⟩ rfl (Nat.le_of_ble_eq_true rfl) (kX9_in er2) ?_
  by_cases c3 : r2.1 = 0
  · replace h := if_t h c3
    refine R_if_ne_f DX9_keep_14 c3 ?_
    refine R_constI DX9_keep_17 ci_m2 ?_
    cases h
    exact R_ireturn rfl DX9_keep_19
  · replace h := if_f h c3
    refine R_if_ne_t DX9_keep_14 c3 ?_
    refine R_aload DX9_keep_20 0 rfl ?_
    refine R_constI DX9_keep_21 ci_0 ?_
    refine R_constI DX9_keep_22 ci_1 ?_
    refine R_iload DX9_keep_23 1 rfl ?_
    refine R_iadd DX9_keep_24 ?_
    obtain ⟨s4, es4, h⟩ := bind_some h
    refine R_cV0 [.int (iI 0), .int ((iI 1) + x1)] DX9_keep_25 kzvX9_copyValley ml_RX9_291 ⟨Nat.le_of_ble_eq_true rfl, Nat.le_of_ble_eq_true rfl⟩ rfl (Nat.le_of_ble_eq_true rfl) (kX9_copyValley es4) ?_
    refine R_aload DX9_keep_28 0 rfl ?_
    obtain ⟨v5, ev5, h⟩ := bind_some h
    refine R_gR DX9_keep_29 fl_RX9_55 ev5 ?_
    refine R_iload DX9_keep_32 1 rfl ?_
    refine R_constI DX9_keep_33 ci_1 ?_
    obtain ⟨s6, es6, h⟩ := bind_some h
    refine R_sZ DX9_keep_34 es6 ?_
    refine R_constI DX9_keep_35 ci_0 ?_
    cases h
    exact R_ireturn rfl DX9_keep_36
set_option maxRecDepth 8000 in
theorem kX9_back {G : Gm} {x0 : Nat} {x1 : Int32} {s : Hp} {w : Int32 × Hp} (h : fX9_back x0 x1 s = some w) : (s.2.2 x0).1 = 9 ∧ Call G MX9_back [.ref x0, .int x1] s (some (.int w.1), w.2) := by
  unfold fX9_back at h
  obtain ⟨_, e0, h⟩ := bind_some h
  refine ⟨ck_some e0, Call.of_R pnRX9 (Nat.le_of_ble_eq_true rfl) ?_⟩
  clear e0
  show R G MX9_back 0 [(0, .ref x0), (1, .int x1)] [] s (some (.int w.1), w.2)
  refine R_aload DX9_back_0 0 rfl ?_
  refine R_constI DX9_back_1 ci_0 ?_
  obtain ⟨s1, es1, h⟩ := bind_some h
  refine R_pI DX9_back_2 fl_RX9_92 es1 ?_
  refine R_iload DX9_back_5 1 rfl ?_
  refine R_i2l DX9_back_6 ?_
  refine R_lconst DX9_back_7 ?_
  refine R_ldc2 DX9_back_8 cw_RX9_300 ?_
  obtain ⟨r2, er2, h⟩ := bind_some h
  refine R_cS1 [.long (Int32.toInt64 x1), .long 0, .long 2] DX9_back_11 kzsX9_in ml_RX9_97 ⟨Nat.le_of_ble_eq_true rfl, Nat.le_of_ble_eq_true rfl⟩ rfl (Nat.le_of_ble_eq_true rfl) (kX9_in er2) ?_
  by_cases c3 : r2.1 = 0
  · replace h := if_t h c3
    refine R_if_ne_f DX9_back_14 c3 ?_
    refine R_constI DX9_back_17 ci_m2 ?_
    cases h
    exact R_ireturn rfl DX9_back_19
  · replace h := if_f h c3
    refine R_if_ne_t DX9_back_14 c3 ?_
    refine R_aload DX9_back_20 0 rfl ?_
    obtain ⟨v4, ev4, h⟩ := bind_some h
    refine R_gR DX9_back_21 fl_RX9_55 ev4 ?_
    refine R_iload DX9_back_24 1 rfl ?_
    obtain ⟨v5, ev5, h⟩ := bind_some h
    refine R_aZ DX9_back_25 ev5 ?_
    by_cases c6 : v5 = 0
    · replace h := if_t h c6
      refine R_if_ne_f DX9_back_26 c6 ?_
      refine R_constI DX9_back_29 ci_m6 ?_
      cases h
      exact R_ireturn rfl DX9_back_31
    · replace h := if_f h c6
      refine R_if_ne_t DX9_back_26 c6 ?_
      refine R_aload DX9_back_32 0 rfl ?_
      refine R_constI DX9_back_33 ci_1 ?_
      refine R_iload DX9_back_34 1 rfl ?_
      refine R_iadd DX9_back_35 ?_
      refine R_constI DX9_back_36 ci_0 ?_
      obtain ⟨s7, es7, h⟩ := bind_some h
      refine R_cV0 [.int ((iI 1) + x1), .int (iI 0)] DX9_back_37 kzvX9_copyValley ml_RX9_291 ⟨Nat.le_of_ble_eq_true rfl, Nat.le_of_ble_eq_true rfl⟩ rfl (Nat.le_of_ble_eq_true rfl) (kX9_copyValley es7) ?_
      refine R_constI DX9_back_40 ci_0 ?_
      cases h
      exact R_ireturn rfl DX9_back_41
