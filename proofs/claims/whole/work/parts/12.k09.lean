set_option maxRecDepth 8000 in
theorem tX9_way_b34 {G : Gm} {s : Hp} {w : Int32 × Hp} (h : fX9_way_b34 s = some w) : R G MX9_way 34 [] [] s (some (.int w.1), w.2) := by
  unfold fX9_way_b34 at h
  refine R_constI DX9_way_34 ci_m2 ?_
  cases h
  exact R_ireturn rfl DX9_way_36
set_option maxRecDepth 8000 in
theorem tX9_way_b61 {G : Gm} {s : Hp} {w : Int32 × Hp} (h : fX9_way_b61 s = some w) : R G MX9_way 61 [] [] s (some (.int w.1), w.2) := by
  unfold fX9_way_b61 at h
  refine R_constI DX9_way_61 ci_m1 ?_
  cases h
  exact R_ireturn rfl DX9_way_62
set_option maxRecDepth 8000 in
theorem tX9_way_l96 {G : Gm} {x0 : Nat} {x2 : Int32} {x3 : Int32} {x4 : Int32} {x5 : Int32} {x6 : Int32} {x7 : Int32} {o : Option Value × Hp} {a : Int32 × Int32 × Int32 × Hp} {w : (Int32 × Int32 × Int32 × Hp) ⊕ ((Int32 × Hp))} (h : fX9_way_l96 x0 x2 x3 x4 x5 x6 x7 a = some w) (hc : ∀ (q8 : Int32) (q9 : Int32) (q10 : Int32) (qs : Hp), w = .inl (q8, q9, q10, qs) → R G MX9_way 96 [(0, .ref x0), (2, .int x2), (3, .int x3), (4, .int x4), (5, .int x5), (6, .int x6), (7, .int x7), (8, .int q8), (9, .int q9), (10, .int q10)] [] qs o) (he0 : ∀ (q9 : Int32) (qs : Hp), w = .inr (q9, qs) → R G MX9_way 151 [(9, .int q9)] [] qs o) : R G MX9_way 96 [(0, .ref x0), (2, .int x2), (3, .int x3), (4, .int x4), (5, .int x5), (6, .int x6), (7, .int x7), (8, .int a.1), (9, .int a.2.1), (10, .int a.2.2.1)] [] a.2.2.2 o := by
  unfold fX9_way_l96 at h
  refine R_iload DX9_way_96 9 rfl ?_
  refine R_iload DX9_way_98 4 rfl ?_
  by_cases c15 : x5 < a.2.2.1
  · replace h := if_t h c15
    refine R_icmp_gt_t DX9_way_100 c15 ?_
    refine R.sub (L' := [(9, .int a.2.1)]) [8] rfl ?_
    cases h
    exact he0 _ _ rfl
  · replace h := if_f h c15
    refine R_icmp_gt_f DX9_way_100 c15 ?_
    refine R_aload DX9_way_103 0 rfl ?_
    refine R_iload DX9_way_104 7 rfl ?_
    refine R_iload DX9_way_106 9 rfl ?_
    refine R_iload DX9_way_108 5 rfl ?_
    refine R_iload DX9_way_110 1 rfl ?_
    refine R_iload DX9_way_111 2 rfl ?_
    refine R_iload DX9_way_112 3 rfl ?_
    refine R_iload DX9_way_114 6 rfl ?_
    obtain ⟨r16, er16, h⟩ := bind_some h
    refine R_cV1 [.int a.1, .int a.2.2.1, .int x6, .int x2, .int x3, .int x4, .int x7] DX9_way_116 kzvX9_actOf ml_RX9_470 ⟨Nat.le_of_ble_eq_true rfl, Nat.le_of_ble_eq_true rfl⟩ rfl (Nat.le_of_ble_eq_true rfl) (kX9_actOf er16) ?_
    refine R_istore [(9, .int r16.1), (0, .ref x0), (2, .int x2), (3, .int x3), (4, .int x4), (5, .int x5), (6, .int x6), (7, .int x7), (8, .int a.1), (10, .int a.2.2.1)] DX9_way_119 (by decide) rfl ?_
    refine R_aload DX9_way_121 1 rfl ?_
    refine R_iload DX9_way_122 8 rfl ?_
    obtain ⟨s17, es17, h⟩ := bind_some h
    refine R_cV0 [.int a.1] DX9_way_124 kzvX9_reads_ ml_RX9_446 ⟨Nat.le_of_ble_eq_true rfl, Nat.le_of_ble_eq_true rfl⟩ rfl (Nat.le_of_ble_eq_true rfl) (kX9_reads_ es17) ?_
    refine R_aload DX9_way_127 1 rfl ?_
    refine R_iload DX9_way_128 0 rfl ?_
    refine R_iload DX9_way_130 9 rfl ?_
    obtain ⟨r18, er18, h⟩ := bind_some h
    refine R_cV1 [.int r16.1, .int a.2.2.1] DX9_way_132 kzvX9_acts ml_RX9_448 ⟨Nat.le_of_ble_eq_true rfl, Nat.le_of_ble_eq_true rfl⟩ rfl (Nat.le_of_ble_eq_true rfl) (kX9_acts er18) ?_
    refine R_pop DX9_way_135 rfl ?_
    refine R_constI DX9_way_136 ci_32 ?_
    refine R_aload DX9_way_138 1 rfl ?_
    obtain ⟨r19, er19, h⟩ := bind_some h
    refine R_cV1 [] DX9_way_139 kzvX9_state ml_RX9_429 ⟨Nat.le_of_ble_eq_true rfl, Nat.le_of_ble_eq_true rfl⟩ rfl (Nat.le_of_ble_eq_true rfl) (kX9_state er19) ?_
    refine R_imul DX9_way_142 ?_
    obtain ⟨z20, ez20, h⟩ := lt_some h
    refine R_istoreE ez20 [(8, .int z20), (9, .int r16.1), (0, .ref x0), (2, .int x2), (3, .int x3), (4, .int x4), (5, .int x5), (6, .int x6), (7, .int x7), (10, .int a.2.2.1)] DX9_way_143 (by decide) rfl ?_
    refine R_iinc [(10, .int (a.2.2.1 + iI 1)), (8, .int z20), (9, .int r16.1), (0, .ref x0), (2, .int x2), (3, .int x3), (4, .int x4), (5, .int x5), (6, .int x6), (7, .int x7)] DX9_way_145 9 rfl (v := a.2.2.1 + iI 1) (by rfl) (by decide) rfl ?_
    refine R_goto DX9_way_148 ?_
    refine R.sub (L' := [(0, .ref x0), (2, .int x2), (3, .int x3), (4, .int x4), (5, .int x5), (6, .int x6), (7, .int x7), (8, .int z20), (9, .int r16.1), (10, .int (a.2.2.1 + iI 1))]) [3, 4, 5, 6, 7, 8, 9, 1, 2, 0] rfl ?_
    cases h
    exact hc _ _ _ _ rfl
set_option maxRecDepth 8000 in
theorem kX9_way {G : Gm} {x0 : Nat} {x1 : Int32} {x2 : Int32} {x3 : Int32} {x4 : Int32} {x5 : Int32} {s : Hp} {w : Int32 × Hp} (h : fX9_way x0 x1 x2 x3 x4 x5 s = some w) : (s.2.2 x0).1 = 9 ∧ Call G MX9_way [.ref x0, .int x1, .int x2, .int x3, .int x4, .int x5] s (some (.int w.1), w.2) := by
  unfold fX9_way at h
  obtain ⟨_, e0, h⟩ := bind_some h
  refine ⟨ck_some e0, Call.of_R pnRX9 (Nat.le_of_ble_eq_true rfl) ?_⟩
  clear e0
  show R G MX9_way 0 [(0, .ref x0), (1, .int x1), (2, .int x2), (3, .int x3), (4, .int x4), (5, .int x5)] [] s (some (.int w.1), w.2)
  refine R_aload DX9_way_0 0 rfl ?_
  refine R_constI DX9_way_1 ci_0 ?_
  obtain ⟨s1, es1, h⟩ := bind_some h
  refine R_pI DX9_way_2 fl_RX9_92 es1 ?_
  refine R_aload DX9_way_5 0 rfl ?_
  refine R_iload DX9_way_6 1 rfl ?_
  obtain ⟨r2, er2, h⟩ := bind_some h
  refine R_cV1 [.int x1] DX9_way_7 kzvX9_isShop ml_RX9_314 ⟨Nat.le_of_ble_eq_true rfl, Nat.le_of_ble_eq_true rfl⟩ rfl (Nat.le_of_ble_eq_true rfl) (kX9_isShop er2) ?_
  by_cases c3 : r2.1 = 0
  · replace h := if_t h c3
    refine R_if_eq_t DX9_way_10 c3 ?_
    refine R.sub (L' := []) [] rfl ?_
    exact tX9_way_b34 h
  · replace h := if_f h c3
    refine R_if_eq_f DX9_way_10 c3 ?_
    refine R_aload DX9_way_13 0 rfl ?_
    refine R_iload DX9_way_14 2 rfl ?_
    refine R_iload DX9_way_15 3 rfl ?_
    refine R_iload DX9_way_16 4 rfl ?_
    obtain ⟨r4, er4, h⟩ := bind_some h
    refine R_cV1 [.int x2, .int x3, .int x4] DX9_way_18 kzvX9_isCell ml_RX9_455 ⟨Nat.le_of_ble_eq_true rfl, Nat.le_of_ble_eq_true rfl⟩ rfl (Nat.le_of_ble_eq_true rfl) (kX9_isCell er4) ?_
    by_cases c5 : r4.1 = 0
    · replace h := if_t h c5
      refine R_if_eq_t DX9_way_21 c5 ?_
      refine R.sub (L' := []) [] rfl ?_
      exact tX9_way_b34 h
    · replace h := if_f h c5
      refine R_if_eq_f DX9_way_21 c5 ?_
      refine R_aload DX9_way_24 0 rfl ?_
      refine R_iload DX9_way_25 5 rfl ?_
      refine R_i2l DX9_way_27 ?_
      obtain ⟨r6, er6, h⟩ := bind_some h
      refine R_cV1 [.long (Int32.toInt64 x5)] DX9_way_28 kzvX9_isHour ml_RX9_305 ⟨Nat.le_of_ble_eq_true rfl, Nat.le_of_ble_eq_true rfl⟩ rfl (Nat.le_of_ble_eq_true rfl) (kX9_isHour er6) ?_
      by_cases c7 : r6.1 = 0
      · replace h := if_t h c7
        refine R_if_ne_f DX9_way_31 c7 ?_
        refine R.sub (L' := []) [] rfl ?_
        exact tX9_way_b34 h
      · replace h := if_f h c7
        refine R_if_ne_t DX9_way_31 c7 ?_
        refine R_aload DX9_way_37 0 rfl ?_
        refine R_iload DX9_way_38 1 rfl ?_
        refine R_iload DX9_way_39 2 rfl ?_
        refine R_iload DX9_way_40 3 rfl ?_
        refine R_iload DX9_way_41 4 rfl ?_
        obtain ⟨r8, er8, h⟩ := bind_some h
        refine R_cV1 [.int x1, .int x2, .int x3, .int x4] DX9_way_43 kzvX9_soonestOf ml_RX9_467 ⟨Nat.le_of_ble_eq_true rfl, Nat.le_of_ble_eq_true rfl⟩ rfl (Nat.le_of_ble_eq_true rfl) (kX9_soonestOf er8) ?_
        refine R_istore [(6, .int r8.1), (0, .ref x0), (1, .int x1), (2, .int x2), (3, .int x3), (4, .int x4), (5, .int x5)] DX9_way_46 (by decide) rfl ?_
        refine R_iload DX9_way_48 0 rfl ?_
        refine R_constI DX9_way_50 ci_m1 ?_
        by_cases c9 : r8.1 = (iI (-1))
        · replace h := if_t h c9
          refine R_icmp_eq_t DX9_way_51 c9 ?_
          refine R.sub (L' := []) [] rfl ?_
          exact tX9_way_b61 h
        · replace h := if_f h c9
          refine R_icmp_eq_f DX9_way_51 c9 ?_
          refine R_iload DX9_way_54 6 rfl ?_
          refine R_iload DX9_way_56 0 rfl ?_
          by_cases c10 : x5 ≤ r8.1
          · replace h := if_t h c10
            refine R_icmp_le_t DX9_way_58 c10 ?_
            refine R_aload DX9_way_63 1 rfl ?_
            refine R_iload DX9_way_64 3 rfl ?_
            refine R_iload DX9_way_65 4 rfl ?_
            refine R_iload DX9_way_66 5 rfl ?_
            obtain ⟨r11, er11, h⟩ := bind_some h
            refine R_cV1 [.int x2, .int x3, .int x4] DX9_way_68 kzvX9_mostLeft ml_RX9_461 ⟨Nat.le_of_ble_eq_true rfl, Nat.le_of_ble_eq_true rfl⟩ rfl (Nat.le_of_ble_eq_true rfl) (kX9_mostLeft er11) ?_
            refine R_istore [(7, .int r11.1), (6, .int r8.1), (0, .ref x0), (1, .int x1), (2, .int x2), (3, .int x3), (4, .int x4), (5, .int x5)] DX9_way_71 (by decide) rfl ?_
            refine R_aload DX9_way_73 2 rfl ?_
            refine R_iload DX9_way_74 3 rfl ?_
            refine R_constI DX9_way_75 ci_9 ?_
            refine R_constI DX9_way_77 ci_0 ?_
            obtain ⟨s12, es12, h⟩ := bind_some h
            refine R_cV0 [.int x1, .int (iI 9), .int (iI 0)] DX9_way_78 kzvX9_starts ml_RX9_458 ⟨Nat.le_of_ble_eq_true rfl, Nat.le_of_ble_eq_true rfl⟩ rfl (Nat.le_of_ble_eq_true rfl) (kX9_starts es12) ?_
            refine R_constI DX9_way_81 ci_32 ?_
            refine R_aload DX9_way_83 2 rfl ?_
            obtain ⟨r13, er13, h⟩ := bind_some h
            refine R_cV1 [] DX9_way_84 kzvX9_state ml_RX9_429 ⟨Nat.le_of_ble_eq_true rfl, Nat.le_of_ble_eq_true rfl⟩ rfl (Nat.le_of_ble_eq_true rfl) (kX9_state er13) ?_
            refine R_imul DX9_way_87 ?_
            obtain ⟨z14, ez14, h⟩ := lt_some h
            refine R_istoreE ez14 [(8, .int z14), (7, .int r11.1), (6, .int r8.1), (0, .ref x0), (1, .int x1), (2, .int x2), (3, .int x3), (4, .int x4), (5, .int x5)] DX9_way_88 (by decide) rfl ?_
            refine R_constI DX9_way_90 ci_m1 ?_
            refine R_istore [(9, .int (iI (-1))), (8, .int z14), (7, .int r11.1), (6, .int r8.1), (0, .ref x0), (1, .int x1), (2, .int x2), (3, .int x3), (4, .int x4), (5, .int x5)] DX9_way_91 (by decide) rfl ?_
            refine R_constI DX9_way_93 ci_0 ?_
            refine R_istore [(10, .int (iI 0)), (9, .int (iI (-1))), (8, .int z14), (7, .int r11.1), (6, .int r8.1), (0, .ref x0), (1, .int x1), (2, .int x2), (3, .int x3), (4, .int x4), (5, .int x5)] DX9_way_94 (by decide) rfl ?_
            refine R.sub (L' := [(0, .ref x0), (2, .int x2), (3, .int x3), (4, .int x4), (5, .int x5), (6, .int r8.1), (7, .int r11.1), (8, .int z14), (9, .int (iI (-1))), (10, .int (iI 0))]) [5, 7, 8, 9, 10, 4, 3, 2, 1, 0] rfl ?_
            obtain ⟨r21, hi, h⟩ := bind_some h
            have hE : (fun u96 : Int32 × Hp => R G MX9_way 151 [(9, .int u96.1)] [] u96.2 (some (.int w.1), w.2)) r21 → ∀ (q8 : Int32) (q9 : Int32) (q10 : Int32) (qs : Hp), iter (fX9_way_l96 x0 x2 x3 x4 x5 r8.1 r11.1) FU (q8, q9, q10, qs) = some r21 → R G MX9_way 96 [(0, .ref x0), (2, .int x2), (3, .int x3), (4, .int x4), (5, .int x5), (6, .int r8.1), (7, .int r11.1), (8, .int q8), (9, .int q9), (10, .int q10)] [] qs (some (.int w.1), w.2) := fun hX q8 q9 q10 qs hj => loop_R (fX9_way_l96 x0 x2 x3 x4 x5 r8.1 r11.1) (fun p96 : Int32 × Int32 × Int32 × Hp => R G MX9_way 96 [(0, .ref x0), (2, .int x2), (3, .int x3), (4, .int x4), (5, .int x5), (6, .int r8.1), (7, .int r11.1), (8, .int p96.1), (9, .int p96.2.1), (10, .int p96.2.2.1)] [] p96.2.2.2 (some (.int w.1), w.2)) (fun u96 : Int32 × Hp => R G MX9_way 151 [(9, .int u96.1)] [] u96.2 (some (.int w.1), w.2)) (fun a w hw hc he => tX9_way_l96 hw (fun q8 q9 q10 qs e => hc (q8, q9, q10, qs) e) (fun q9 qs e => he (q9, qs) e)) FU (q8, q9, q10, qs) r21 hj hX
            refine hE ?_ _ _ _ _ hi
            clear hE hi
            refine R_iload DX9_way_151 0 rfl ?_
            cases h
            exact R_ireturn rfl DX9_way_153
          · replace h := if_f h c10
            refine R_icmp_le_f DX9_way_58 c10 ?_
            refine R.sub (L' := []) [] rfl ?_
            exact tX9_way_b61 h
set_option maxRecDepth 8000 in
theorem tX9_freely_l10 {G : Gm} {x0 : Nat} {x2 : Int32} {o : Option Value × Hp} {a : Int32 × Hp} {w : (Int32 × Hp) ⊕ ((Hp))} (h : fX9_freely_l10 x0 x2 a = some w) (hc : ∀ (q3 : Int32) (qs : Hp), w = .inl (q3, qs) → R G MX9_freely 10 [(0, .ref x0), (2, .int x2), (3, .int q3)] [] qs o) (he0 : ∀ (qs : Hp), w = .inr qs → R G MX9_freely 26 [] [] qs o) : R G MX9_freely 10 [(0, .ref x0), (2, .int x2), (3, .int a.1)] [] a.2 o := by
  unfold fX9_freely_l10 at h
  refine R_iload DX9_freely_10 2 rfl ?_
  refine R_iload DX9_freely_11 1 rfl ?_
  by_cases c2 : x2 < a.1
  · replace h := if_t h c2
    refine R_icmp_gt_t DX9_freely_12 c2 ?_
    refine R.sub (L' := []) [] rfl ?_
    cases h
    exact he0 _ rfl
  · replace h := if_f h c2
    refine R_icmp_gt_f DX9_freely_12 c2 ?_
    refine R_aload DX9_freely_15 0 rfl ?_
    refine R_iload DX9_freely_16 2 rfl ?_
    obtain ⟨s3, es3, h⟩ := bind_some h
    refine R_cV0 [.int a.1] DX9_freely_17 kzvX9_hourFree ml_RX9_464 ⟨Nat.le_of_ble_eq_true rfl, Nat.le_of_ble_eq_true rfl⟩ rfl (Nat.le_of_ble_eq_true rfl) (kX9_hourFree es3) ?_
    refine R_iinc [(3, .int (a.1 + iI 1)), (0, .ref x0), (2, .int x2)] DX9_freely_20 2 rfl (v := a.1 + iI 1) (by rfl) (by decide) rfl ?_
    refine R_goto DX9_freely_23 ?_
    refine R.sub (L' := [(0, .ref x0), (2, .int x2), (3, .int (a.1 + iI 1))]) [1, 2, 0] rfl ?_
    cases h
    exact hc _ _ rfl
set_option maxRecDepth 8000 in
theorem kX9_freely {G : Gm} {x0 : Nat} {x1 : Int32} {x2 : Int32} {s : Hp} {w : Hp} (h : fX9_freely x0 x1 x2 s = some w) : (s.2.2 x0).1 = 9 ∧ Call G MX9_freely [.ref x0, .int x1, .int x2] s (none, w) := by
  unfold fX9_freely at h
  obtain ⟨_, e0, h⟩ := bind_some h
  refine ⟨ck_some e0, Call.of_R pnRX9 (Nat.le_of_ble_eq_true rfl) ?_⟩
  clear e0
  show R G MX9_freely 0 [(0, .ref x0), (1, .int x1), (2, .int x2)] [] s (none, w)
  refine R_aload DX9_freely_0 0 rfl ?_
  refine R_iload DX9_freely_1 1 rfl ?_
  refine R_constI DX9_freely_2 ci_9 ?_
  refine R_constI DX9_freely_4 ci_0 ?_
  obtain ⟨s1, es1, h⟩ := bind_some h
  refine R_cV0 [.int x1, .int (iI 9), .int (iI 0)] DX9_freely_5 kzvX9_starts ml_RX9_458 ⟨Nat.le_of_ble_eq_true rfl, Nat.le_of_ble_eq_true rfl⟩ rfl (Nat.le_of_ble_eq_true rfl) (kX9_starts es1) ?_
  refine R_constI DX9_freely_8 ci_0 ?_
  refine R_istore [(3, .int (iI 0)), (0, .ref x0), (1, .int x1), (2, .int x2)] DX9_freely_9 (by decide) rfl ?_
  refine R.sub (L' := [(0, .ref x0), (2, .int x2), (3, .int (iI 0))]) [1, 3, 0] rfl ?_
  obtain ⟨r4, hi, h⟩ := bind_some h
  have hE : (fun u10 : Hp => R G MX9_freely 26 [] [] u10 (none, w)) r4 → ∀ (q3 : Int32) (qs : Hp), iter (fX9_freely_l10 x0 x2) FU (q3, qs) = some r4 → R G MX9_freely 10 [(0, .ref x0), (2, .int x2), (3, .int q3)] [] qs (none, w) := fun hX q3 qs hj => loop_R (fX9_freely_l10 x0 x2) (fun p10 : Int32 × Hp => R G MX9_freely 10 [(0, .ref x0), (2, .int x2), (3, .int p10.1)] [] p10.2 (none, w)) (fun u10 : Hp => R G MX9_freely 26 [] [] u10 (none, w)) (fun a w hw hc he => tX9_freely_l10 hw (fun q3 qs e => hc (q3, qs) e) (fun qs e => he qs e)) FU (q3, qs) r4 hj hX
  refine hE ?_ _ _ hi
  clear hE hi
  cases h
  exact R_return rfl DX9_freely_26
set_option maxRecDepth 8000 in
theorem tX9_spotsNow_b65 {G : Gm} {x0 : Nat} {x1 : Int32} {x2 : Int32} {x3 : Int32} {x4 : Int32} {x6 : Int32} {y0 : Int32} {y1 : Int32} {s : Hp} {o : Option Value × Hp} {w : (Int32 × Int32 × Hp) ⊕ ((Int32 × Hp))} (h : fX9_spotsNow_b65 x0 x1 x2 x3 x4 x6 y0 y1 s = some w) (hc : ∀ (q5 : Int32) (q6 : Int32) (qs : Hp), w = .inl (q5, q6, qs) → R G MX9_spotsNow 34 [(0, .ref x0), (1, .int x1), (2, .int x2), (3, .int x3), (4, .int x4), (5, .int q5), (6, .int q6)] [] qs o) (he0 : ∀ (q5 : Int32) (qs : Hp), w = .inr (q5, qs) → R G MX9_spotsNow 74 [(0, .ref x0), (1, .int x1), (2, .int x2), (3, .int x3), (4, .int x4), (5, .int q5)] [] qs o) : R G MX9_spotsNow 65 [(0, .ref x0), (1, .int x1), (2, .int x2), (3, .int x3), (4, .int x4), (6, .int x6)] [.int y1, .int y0] s o := by
  unfold fX9_spotsNow_b65 at h
  refine R_iadd DX9_spotsNow_65 ?_
  obtain ⟨z12, ez12, h⟩ := lt_some h
  refine R_istoreE ez12 [(5, .int z12), (0, .ref x0), (1, .int x1), (2, .int x2), (3, .int x3), (4, .int x4), (6, .int x6)] DX9_spotsNow_66 (by decide) rfl ?_
  refine R_iinc [(6, .int (x6 + iI 1)), (5, .int z12), (0, .ref x0), (1, .int x1), (2, .int x2), (3, .int x3), (4, .int x4)] DX9_spotsNow_68 6 rfl (v := x6 + iI 1) (by rfl) (by decide) rfl ?_
  refine R_goto DX9_spotsNow_71 ?_
  refine R.sub (L' := [(0, .ref x0), (1, .int x1), (2, .int x2), (3, .int x3), (4, .int x4), (5, .int z12), (6, .int (x6 + iI 1))]) [2, 3, 4, 5, 6, 1, 0] rfl ?_
  cases h
  exact hc _ _ _ rfl
set_option maxRecDepth 8000 in
theorem tX9_spotsNow_l34 {G : Gm} {x0 : Nat} {x1 : Int32} {x2 : Int32} {x3 : Int32} {x4 : Int32} {o : Option Value × Hp} {a : Int32 × Int32 × Hp} {w : (Int32 × Int32 × Hp) ⊕ ((Int32 × Hp))} (h : fX9_spotsNow_l34 x0 x1 x2 x3 x4 a = some w) (hc : ∀ (q5 : Int32) (q6 : Int32) (qs : Hp), w = .inl (q5, q6, qs) → R G MX9_spotsNow 34 [(0, .ref x0), (1, .int x1), (2, .int x2), (3, .int x3), (4, .int x4), (5, .int q5), (6, .int q6)] [] qs o) (he0 : ∀ (q5 : Int32) (qs : Hp), w = .inr (q5, qs) → R G MX9_spotsNow 74 [(0, .ref x0), (1, .int x1), (2, .int x2), (3, .int x3), (4, .int x4), (5, .int q5)] [] qs o) : R G MX9_spotsNow 34 [(0, .ref x0), (1, .int x1), (2, .int x2), (3, .int x3), (4, .int x4), (5, .int a.1), (6, .int a.2.1)] [] a.2.2 o := by
  unfold fX9_spotsNow_l34 at h
  refine R_iload DX9_spotsNow_34 6 rfl ?_
  refine R_aload DX9_spotsNow_36 0 rfl ?_
  obtain ⟨v7, ev7, h⟩ := bind_some h
  refine R_gR DX9_spotsNow_37 fl_RX9_34 ev7 ?_
  refine R_constI DX9_spotsNow_40 ci_2 ?_
  obtain ⟨v8, ev8, h⟩ := bind_some h
  refine R_aI DX9_spotsNow_41 ev8 ?_
  by_cases c9 : v8 ≤ a.2.1
  · replace h := if_t h c9
    refine R_icmp_ge_t DX9_spotsNow_42 c9 ?_
    refine R.sub (L' := [(0, .ref x0), (1, .int x1), (2, .int x2), (3, .int x3), (4, .int x4), (5, .int a.1)]) [0, 1, 2, 3, 4, 5] rfl ?_
    cases h
    exact he0 _ _ rfl
  · replace h := if_f h c9
    refine R_icmp_ge_f DX9_spotsNow_42 c9 ?_
    refine R_iload DX9_spotsNow_45 5 rfl ?_
    refine R_aload DX9_spotsNow_47 0 rfl ?_
    refine R_iload DX9_spotsNow_48 3 rfl ?_
    refine R_iload DX9_spotsNow_49 4 rfl ?_
    refine R_iload DX9_spotsNow_51 6 rfl ?_
    obtain ⟨r10, er10, h⟩ := bind_some h
    refine R_cV1 [.int x3, .int x4, .int a.2.1] DX9_spotsNow_53 kzvX9_mostLeft ml_RX9_461 ⟨Nat.le_of_ble_eq_true rfl, Nat.le_of_ble_eq_true rfl⟩ rfl (Nat.le_of_ble_eq_true rfl) (kX9_mostLeft er10) ?_
    refine R_constI DX9_spotsNow_56 ci_m1 ?_
    by_cases c11 : r10.1 = (iI (-1))
    · replace h := if_t h c11
      refine R_icmp_ne_f DX9_spotsNow_57 c11 ?_
      refine R_constI DX9_spotsNow_60 ci_0 ?_
      refine R_goto DX9_spotsNow_61 ?_
      refine R.sub (L' := [(0, .ref x0), (1, .int x1), (2, .int x2), (3, .int x3), (4, .int x4), (6, .int a.2.1)]) [0, 1, 2, 3, 4, 6] rfl ?_
      exact tX9_spotsNow_b65 h hc he0
    · replace h := if_f h c11
      refine R_icmp_ne_t DX9_spotsNow_57 c11 ?_
      refine R_constI DX9_spotsNow_64 ci_1 ?_
      refine R.sub (L' := [(0, .ref x0), (1, .int x1), (2, .int x2), (3, .int x3), (4, .int x4), (6, .int a.2.1)]) [0, 1, 2, 3, 4, 6] rfl ?_
      exact tX9_spotsNow_b65 h hc he0
set_option maxRecDepth 8000 in
theorem tX9_spotsNow_b90 {G : Gm} {x0 : Nat} {x1 : Int32} {x3 : Int32} {x4 : Int32} {y0 : Int32} {y1 : Int32} {s : Hp} {o : Option Value × Hp} {w : (Int32 × Int32 × Hp) ⊕ ((Int32 × Hp))} (h : fX9_spotsNow_b90 x0 x1 x3 x4 y0 y1 s = some w) (hc : ∀ (q2 : Int32) (q4 : Int32) (qs : Hp), w = .inl (q2, q4, qs) → R G MX9_spotsNow 17 [(0, .ref x0), (1, .int x1), (2, .int q2), (3, .int x3), (4, .int q4)] [] qs o) (he0 : ∀ (q2 : Int32) (qs : Hp), w = .inr (q2, qs) → R G MX9_spotsNow 98 [(0, .ref x0), (1, .int x1), (2, .int q2), (3, .int x3)] [] qs o) : R G MX9_spotsNow 90 [(0, .ref x0), (1, .int x1), (3, .int x3), (4, .int x4)] [.int y1, .int y0] s o := by
  unfold fX9_spotsNow_b90 at h
  refine R_iadd DX9_spotsNow_90 ?_
  obtain ⟨z15, ez15, h⟩ := lt_some h
  refine R_istoreE ez15 [(2, .int z15), (0, .ref x0), (1, .int x1), (3, .int x3), (4, .int x4)] DX9_spotsNow_91 (by decide) rfl ?_
  refine R_iinc [(4, .int (x4 + iI 1)), (2, .int z15), (0, .ref x0), (1, .int x1), (3, .int x3)] DX9_spotsNow_92 4 rfl (v := x4 + iI 1) (by rfl) (by decide) rfl ?_
  refine R_goto DX9_spotsNow_95 ?_
  refine R.sub (L' := [(0, .ref x0), (1, .int x1), (2, .int z15), (3, .int x3), (4, .int (x4 + iI 1))]) [2, 3, 1, 4, 0] rfl ?_
  cases h
  exact hc _ _ _ rfl
set_option maxRecDepth 8000 in
theorem tX9_spotsNow_b88 {G : Gm} {x0 : Nat} {x1 : Int32} {x3 : Int32} {x4 : Int32} {x5 : Int32} {y0 : Int32} {s : Hp} {o : Option Value × Hp} {w : (Int32 × Int32 × Hp) ⊕ ((Int32 × Hp))} (h : fX9_spotsNow_b88 x0 x1 x3 x4 x5 y0 s = some w) (hc : ∀ (q2 : Int32) (q4 : Int32) (qs : Hp), w = .inl (q2, q4, qs) → R G MX9_spotsNow 17 [(0, .ref x0), (1, .int x1), (2, .int q2), (3, .int x3), (4, .int q4)] [] qs o) (he0 : ∀ (q2 : Int32) (qs : Hp), w = .inr (q2, qs) → R G MX9_spotsNow 98 [(0, .ref x0), (1, .int x1), (2, .int q2), (3, .int x3)] [] qs o) : R G MX9_spotsNow 88 [(0, .ref x0), (1, .int x1), (3, .int x3), (4, .int x4), (5, .int x5)] [.int y0] s o := by
  unfold fX9_spotsNow_b88 at h
  refine R_iload DX9_spotsNow_88 4 rfl ?_
  refine R.sub (L' := [(0, .ref x0), (1, .int x1), (3, .int x3), (4, .int x4)]) [0, 1, 2, 3] rfl ?_
  exact tX9_spotsNow_b90 h hc he0
set_option maxRecDepth 8000 in
theorem tX9_spotsNow_l17 {G : Gm} {x0 : Nat} {x1 : Int32} {x3 : Int32} {o : Option Value × Hp} {a : Int32 × Int32 × Hp} {w : (Int32 × Int32 × Hp) ⊕ ((Int32 × Hp))} (h : fX9_spotsNow_l17 x0 x1 x3 a = some w) (hc : ∀ (q2 : Int32) (q4 : Int32) (qs : Hp), w = .inl (q2, q4, qs) → R G MX9_spotsNow 17 [(0, .ref x0), (1, .int x1), (2, .int q2), (3, .int x3), (4, .int q4)] [] qs o) (he0 : ∀ (q2 : Int32) (qs : Hp), w = .inr (q2, qs) → R G MX9_spotsNow 98 [(0, .ref x0), (1, .int x1), (2, .int q2), (3, .int x3)] [] qs o) : R G MX9_spotsNow 17 [(0, .ref x0), (1, .int x1), (2, .int a.1), (3, .int x3), (4, .int a.2.1)] [] a.2.2 o := by
  unfold fX9_spotsNow_l17 at h
  refine R_iload DX9_spotsNow_17 4 rfl ?_
  refine R_aload DX9_spotsNow_19 0 rfl ?_
  obtain ⟨v4, ev4, h⟩ := bind_some h
  refine R_gR DX9_spotsNow_20 fl_RX9_34 ev4 ?_
  refine R_constI DX9_spotsNow_23 ci_1 ?_
  obtain ⟨v5, ev5, h⟩ := bind_some h
  refine R_aI DX9_spotsNow_24 ev5 ?_
  by_cases c6 : v5 ≤ a.2.1
  · replace h := if_t h c6
    refine R_icmp_ge_t DX9_spotsNow_25 c6 ?_
    refine R.sub (L' := [(0, .ref x0), (1, .int x1), (2, .int a.1), (3, .int x3)]) [0, 1, 2, 3] rfl ?_
    cases h
    exact he0 _ _ rfl
  · replace h := if_f h c6
    refine R_icmp_ge_f DX9_spotsNow_25 c6 ?_
    refine R_constI DX9_spotsNow_28 ci_0 ?_
    refine R_istore [(5, .int (iI 0)), (0, .ref x0), (1, .int x1), (2, .int a.1), (3, .int x3), (4, .int a.2.1)] DX9_spotsNow_29 (by decide) rfl ?_
    refine R_constI DX9_spotsNow_31 ci_0 ?_
    refine R_istore [(6, .int (iI 0)), (5, .int (iI 0)), (0, .ref x0), (1, .int x1), (2, .int a.1), (3, .int x3), (4, .int a.2.1)] DX9_spotsNow_32 (by decide) rfl ?_
    refine R.sub (L' := [(0, .ref x0), (1, .int x1), (2, .int a.1), (3, .int x3), (4, .int a.2.1), (5, .int (iI 0)), (6, .int (iI 0))]) [2, 3, 4, 5, 6, 1, 0] rfl ?_
    obtain ⟨r13, hi, h⟩ := bind_some h
    have hE : (fun u34 : Int32 × Hp => R G MX9_spotsNow 74 [(0, .ref x0), (1, .int x1), (2, .int a.1), (3, .int x3), (4, .int a.2.1), (5, .int u34.1)] [] u34.2 o) r13 → ∀ (q5 : Int32) (q6 : Int32) (qs : Hp), iter (fX9_spotsNow_l34 x0 x1 a.1 x3 a.2.1) FU (q5, q6, qs) = some r13 → R G MX9_spotsNow 34 [(0, .ref x0), (1, .int x1), (2, .int a.1), (3, .int x3), (4, .int a.2.1), (5, .int q5), (6, .int q6)] [] qs o := fun hX q5 q6 qs hj => loop_R (fX9_spotsNow_l34 x0 x1 a.1 x3 a.2.1) (fun p34 : Int32 × Int32 × Hp => R G MX9_spotsNow 34 [(0, .ref x0), (1, .int x1), (2, .int a.1), (3, .int x3), (4, .int a.2.1), (5, .int p34.1), (6, .int p34.2.1)] [] p34.2.2 o) (fun u34 : Int32 × Hp => R G MX9_spotsNow 74 [(0, .ref x0), (1, .int x1), (2, .int a.1), (3, .int x3), (4, .int a.2.1), (5, .int u34.1)] [] u34.2 o) (fun a w hw hc he => tX9_spotsNow_l34 hw (fun q5 q6 qs e => hc (q5, q6, qs) e) (fun q5 qs e => he (q5, qs) e)) FU (q5, q6, qs) r13 hj hX
    refine hE ?_ _ _ _ hi
    clear hE hi
    refine R_iload DX9_spotsNow_74 2 rfl ?_
    refine R_iload DX9_spotsNow_75 1 rfl ?_
    by_cases c14 : x1 = 0
    · replace h := if_t h c14
      refine R_if_eq_t DX9_spotsNow_76 c14 ?_
      refine R.sub (L' := [(0, .ref x0), (1, .int x1), (3, .int x3), (4, .int a.2.1), (5, .int r13.1)]) [0, 1, 3, 4, 5] rfl ?_
      exact tX9_spotsNow_b88 h hc he0
    · replace h := if_f h c14
      refine R_if_eq_f DX9_spotsNow_76 c14 ?_
      refine R_iload DX9_spotsNow_79 5 rfl ?_
      by_cases c16 : r13.1 ≤ 0
      · replace h := if_t h c16
        refine R_if_le_t DX9_spotsNow_81 c16 ?_
        refine R.sub (L' := [(0, .ref x0), (1, .int x1), (3, .int x3), (4, .int a.2.1), (5, .int r13.1)]) [0, 1, 3, 4, 5] rfl ?_
        exact tX9_spotsNow_b88 h hc he0
      · replace h := if_f h c16
        refine R_if_le_f DX9_spotsNow_81 c16 ?_
        refine R_constI DX9_spotsNow_84 ci_1 ?_
        refine R_goto DX9_spotsNow_85 ?_
        refine R.sub (L' := [(0, .ref x0), (1, .int x1), (3, .int x3), (4, .int a.2.1)]) [0, 1, 3, 4] rfl ?_
        exact tX9_spotsNow_b90 h hc he0
set_option maxRecDepth 8000 in
theorem tX9_spotsNow_l4 {G : Gm} {x0 : Nat} {x1 : Int32} {o : Option Value × Hp} {a : Int32 × Int32 × Hp} {w : (Int32 × Int32 × Hp) ⊕ ((Int32 × Hp))} (h : fX9_spotsNow_l4 x0 x1 a = some w) (hc : ∀ (q2 : Int32) (q3 : Int32) (qs : Hp), w = .inl (q2, q3, qs) → R G MX9_spotsNow 4 [(0, .ref x0), (1, .int x1), (2, .int q2), (3, .int q3)] [] qs o) (he0 : ∀ (q2 : Int32) (qs : Hp), w = .inr (q2, qs) → R G MX9_spotsNow 104 [(2, .int q2)] [] qs o) : R G MX9_spotsNow 4 [(0, .ref x0), (1, .int x1), (2, .int a.1), (3, .int a.2.1)] [] a.2.2 o := by
  unfold fX9_spotsNow_l4 at h
  refine R_iload DX9_spotsNow_4 3 rfl ?_
  refine R_aload DX9_spotsNow_5 0 rfl ?_
  obtain ⟨v1, ev1, h⟩ := bind_some h
  refine R_gR DX9_spotsNow_6 fl_RX9_34 ev1 ?_
  refine R_constI DX9_spotsNow_9 ci_0 ?_
  obtain ⟨v2, ev2, h⟩ := bind_some h
  refine R_aI DX9_spotsNow_10 ev2 ?_
  by_cases c3 : v2 ≤ a.2.1
  · replace h := if_t h c3
    refine R_icmp_ge_t DX9_spotsNow_11 c3 ?_
    refine R.sub (L' := [(2, .int a.1)]) [2] rfl ?_
    cases h
    exact he0 _ _ rfl
  · replace h := if_f h c3
    refine R_icmp_ge_f DX9_spotsNow_11 c3 ?_
    refine R_constI DX9_spotsNow_14 ci_0 ?_
    refine R_istore [(4, .int (iI 0)), (0, .ref x0), (1, .int x1), (2, .int a.1), (3, .int a.2.1)] DX9_spotsNow_15 (by decide) rfl ?_
    refine R.sub (L' := [(0, .ref x0), (1, .int x1), (2, .int a.1), (3, .int a.2.1), (4, .int (iI 0))]) [1, 2, 3, 4, 0] rfl ?_
    obtain ⟨r17, hi, h⟩ := bind_some h
    have hE : (fun u17 : Int32 × Hp => R G MX9_spotsNow 98 [(0, .ref x0), (1, .int x1), (2, .int u17.1), (3, .int a.2.1)] [] u17.2 o) r17 → ∀ (q2 : Int32) (q4 : Int32) (qs : Hp), iter (fX9_spotsNow_l17 x0 x1 a.2.1) FU (q2, q4, qs) = some r17 → R G MX9_spotsNow 17 [(0, .ref x0), (1, .int x1), (2, .int q2), (3, .int a.2.1), (4, .int q4)] [] qs o := fun hX q2 q4 qs hj => loop_R (fX9_spotsNow_l17 x0 x1 a.2.1) (fun p17 : Int32 × Int32 × Hp => R G MX9_spotsNow 17 [(0, .ref x0), (1, .int x1), (2, .int p17.1), (3, .int a.2.1), (4, .int p17.2.1)] [] p17.2.2 o) (fun u17 : Int32 × Hp => R G MX9_spotsNow 98 [(0, .ref x0), (1, .int x1), (2, .int u17.1), (3, .int a.2.1)] [] u17.2 o) (fun a w hw hc he => tX9_spotsNow_l17 hw (fun q2 q4 qs e => hc (q2, q4, qs) e) (fun q2 qs e => he (q2, qs) e)) FU (q2, q4, qs) r17 hj hX
    refine hE ?_ _ _ _ hi
    clear hE hi
    refine R_iinc [(3, .int (a.2.1 + iI 1)), (0, .ref x0), (1, .int x1), (2, .int r17.1)] DX9_spotsNow_98 3 rfl (v := a.2.1 + iI 1) (by rfl) (by decide) rfl ?_
    refine R_goto DX9_spotsNow_101 ?_
    refine R.sub (L' := [(0, .ref x0), (1, .int x1), (2, .int r17.1), (3, .int (a.2.1 + iI 1))]) [1, 2, 3, 0] rfl ?_
    cases h
    exact hc _ _ _ rfl
set_option maxRecDepth 8000 in
theorem kX9_spotsNow {G : Gm} {x0 : Nat} {x1 : Int32} {s : Hp} {w : Int32 × Hp} (h : fX9_spotsNow x0 x1 s = some w) : (s.2.2 x0).1 = 9 ∧ Call G MX9_spotsNow [.ref x0, .int x1] s (some (.int w.1), w.2) := by
  unfold fX9_spotsNow at h
  obtain ⟨_, e0, h⟩ := bind_some h
  refine ⟨ck_some e0, Call.of_R pnRX9 (Nat.le_of_ble_eq_true rfl) ?_⟩
  clear e0
  show R G MX9_spotsNow 0 [(0, .ref x0), (1, .int x1)] [] s (some (.int w.1), w.2)
  refine R_constI DX9_spotsNow_0 ci_0 ?_
  refine R_istore [(2, .int (iI 0)), (0, .ref x0), (1, .int x1)] DX9_spotsNow_1 (by decide) rfl ?_
  refine R_constI DX9_spotsNow_2 ci_0 ?_
  refine R_istore [(3, .int (iI 0)), (2, .int (iI 0)), (0, .ref x0), (1, .int x1)] DX9_spotsNow_3 (by decide) rfl ?_
  refine R.sub (L' := [(0, .ref x0), (1, .int x1), (2, .int (iI 0)), (3, .int (iI 0))]) [2, 3, 1, 0] rfl ?_
  obtain ⟨r18, hi, h⟩ := bind_some h
  have hE : (fun u4 : Int32 × Hp => R G MX9_spotsNow 104 [(2, .int u4.1)] [] u4.2 (some (.int w.1), w.2)) r18 → ∀ (q2 : Int32) (q3 : Int32) (qs : Hp), iter (fX9_spotsNow_l4 x0 x1) FU (q2, q3, qs) = some r18 → R G MX9_spotsNow 4 [(0, .ref x0), (1, .int x1), (2, .int q2), (3, .int q3)] [] qs (some (.int w.1), w.2) := fun hX q2 q3 qs hj => loop_R (fX9_spotsNow_l4 x0 x1) (fun p4 : Int32 × Int32 × Hp => R G MX9_spotsNow 4 [(0, .ref x0), (1, .int x1), (2, .int p4.1), (3, .int p4.2.1)] [] p4.2.2 (some (.int w.1), w.2)) (fun u4 : Int32 × Hp => R G MX9_spotsNow 104 [(2, .int u4.1)] [] u4.2 (some (.int w.1), w.2)) (fun a w hw hc he => tX9_spotsNow_l4 hw (fun q2 q3 qs e => hc (q2, q3, qs) e) (fun q2 qs e => he (q2, qs) e)) FU (q2, q3, qs) r18 hj hX
  refine hE ?_ _ _ _ hi
  clear hE hi
  refine R_iload DX9_spotsNow_104 0 rfl ?_
  cases h
  exact R_ireturn rfl DX9_spotsNow_105
set_option maxRecDepth 8000 in
theorem tX9_spots_b22 {G : Gm} {s : Hp} {w : Int32 × Hp} (h : fX9_spots_b22 s = some w) : R G MX9_spots 22 [] [] s (some (.int w.1), w.2) := by
  unfold fX9_spots_b22 at h
  refine R_constI DX9_spots_22 ci_m2 ?_
  cases h
  exact R_ireturn rfl DX9_spots_24
set_option maxRecDepth 8000 in
theorem kX9_spots {G : Gm} {x0 : Nat} {x1 : Int32} {x2 : Int32} {s : Hp} {w : Int32 × Hp} (h : fX9_spots x0 x1 x2 s = some w) : (s.2.2 x0).1 = 9 ∧ Call G MX9_spots [.ref x0, .int x1, .int x2] s (some (.int w.1), w.2) := by
  unfold fX9_spots at h
  obtain ⟨_, e0, h⟩ := bind_some h
  refine ⟨ck_some e0, Call.of_R pnRX9 (Nat.le_of_ble_eq_true rfl) ?_⟩
  clear e0
  show R G MX9_spots 0 [(0, .ref x0), (1, .int x1), (2, .int x2)] [] s (some (.int w.1), w.2)
  refine R_aload DX9_spots_0 0 rfl ?_
  refine R_constI DX9_spots_1 ci_0 ?_
  obtain ⟨s1, es1, h⟩ := bind_some h
  refine R_pI DX9_spots_2 fl_RX9_92 es1 ?_
  refine R_aload DX9_spots_5 0 rfl ?_
  refine R_iload DX9_spots_6 1 rfl ?_
  obtain ⟨r2, er2, h⟩ := bind_some h
  refine R_cV1 [.int x1] DX9_spots_7 kzvX9_isShop ml_RX9_314 ⟨Nat.le_of_ble_eq_true rfl, Nat.le_of_ble_eq_true rfl⟩ rfl (Nat.le_of_ble_eq_true rfl) (kX9_isShop er2) ?_
  by_cases c3 : r2.1 = 0
  · replace h := if_t h c3
    refine R_if_eq_t DX9_spots_10 c3 ?_
    refine R.sub (L' := []) [] rfl ?_
    exact tX9_spots_b22 h
  · replace h := if_f h c3
    refine R_if_eq_f DX9_spots_10 c3 ?_
    refine R_aload DX9_spots_13 0 rfl ?_
    refine R_iload DX9_spots_14 2 rfl ?_
    refine R_i2l DX9_spots_15 ?_
    obtain ⟨r4, er4, h⟩ := bind_some h
    refine R_cV1 [.long (Int32.toInt64 x2)] DX9_spots_16 kzvX9_isHour ml_RX9_305 ⟨Nat.le_of_ble_eq_true rfl, Nat.le_of_ble_eq_true rfl⟩ rfl (Nat.le_of_ble_eq_true rfl) (kX9_isHour er4) ?_
    by_cases c5 : r4.1 = 0
    · replace h := if_t h c5
      refine R_if_ne_f DX9_spots_19 c5 ?_
      refine R.sub (L' := []) [] rfl ?_
      exact tX9_spots_b22 h
    · replace h := if_f h c5
      refine R_if_ne_t DX9_spots_19 c5 ?_
      refine R_aload DX9_spots_25 0 rfl ?_
      refine R_iload DX9_spots_26 1 rfl ?_
      refine R_iload DX9_spots_27 2 rfl ?_
      obtain ⟨s6, es6, h⟩ := bind_some h
      refine R_cV0 [.int x1, .int x2] DX9_spots_28 kzvX9_freely ml_RX9_474 ⟨Nat.le_of_ble_eq_true rfl, Nat.le_of_ble_eq_true rfl⟩ rfl (Nat.le_of_ble_eq_true rfl) (kX9_freely es6) ?_
      refine R_aload DX9_spots_31 0 rfl ?_
      refine R_constI DX9_spots_32 ci_0 ?_
      obtain ⟨r7, er7, h⟩ := bind_some h
      refine R_cV1 [.int (iI 0)] DX9_spots_33 kzvX9_spotsNow ml_RX9_477 ⟨Nat.le_of_ble_eq_true rfl, Nat.le_of_ble_eq_true rfl⟩ rfl (Nat.le_of_ble_eq_true rfl) (kX9_spotsNow er7) ?_
      cases h
      exact R_ireturn rfl DX9_spots_36
set_option maxRecDepth 8000 in
theorem tX9_columns_b22 {G : Gm} {s : Hp} {w : Int32 × Hp} (h : fX9_columns_b22 s = some w) : R G MX9_columns 22 [] [] s (some (.int w.1), w.2) := by
  unfold fX9_columns_b22 at h
  refine R_constI DX9_columns_22 ci_m2 ?_
  cases h
  exact R_ireturn rfl DX9_columns_24
set_option maxRecDepth 8000 in
theorem kX9_columns {G : Gm} {x0 : Nat} {x1 : Int32} {x2 : Int32} {s : Hp} {w : Int32 × Hp} (h : fX9_columns x0 x1 x2 s = some w) : (s.2.2 x0).1 = 9 ∧ Call G MX9_columns [.ref x0, .int x1, .int x2] s (some (.int w.1), w.2) := by
  unfold fX9_columns at h
  obtain ⟨_, e0, h⟩ := bind_some h
  refine ⟨ck_some e0, Call.of_R pnRX9 (Nat.le_of_ble_eq_true rfl) ?_⟩
  clear e0
  show R G MX9_columns 0 [(0, .ref x0), (1, .int x1), (2, .int x2)] [] s (some (.int w.1), w.2)
  refine R_aload DX9_columns_0 0 rfl ?_
  refine R_constI DX9_columns_1 ci_0 ?_
  obtain ⟨s1, es1, h⟩ := bind_some h
  refine R_pI DX9_columns_2 fl_RX9_92 es1 ?_
  refine R_aload DX9_columns_5 0 rfl ?_
  refine R_iload DX9_columns_6 1 rfl ?_
  obtain ⟨r2, er2, h⟩ := bind_some h
  refine R_cV1 [.int x1] DX9_columns_7 kzvX9_isShop ml_RX9_314 ⟨Nat.le_of_ble_eq_true rfl, Nat.le_of_ble_eq_true rfl⟩ rfl (Nat.le_of_ble_eq_true rfl) (kX9_isShop er2) ?_
  by_cases c3 : r2.1 = 0
  · replace h := if_t h c3
    refine R_if_eq_t DX9_columns_10 c3 ?_
    refine R.sub (L' := []) [] rfl ?_
    exact tX9_columns_b22 h
  · replace h := if_f h c3
    refine R_if_eq_f DX9_columns_10 c3 ?_
    refine R_aload DX9_columns_13 0 rfl ?_
    refine R_iload DX9_columns_14 2 rfl ?_
    refine R_i2l DX9_columns_15 ?_
    obtain ⟨r4, er4, h⟩ := bind_some h
    refine R_cV1 [.long (Int32.toInt64 x2)] DX9_columns_16 kzvX9_isHour ml_RX9_305 ⟨Nat.le_of_ble_eq_true rfl, Nat.le_of_ble_eq_true rfl⟩ rfl (Nat.le_of_ble_eq_true rfl) (kX9_isHour er4) ?_
    by_cases c5 : r4.1 = 0
    · replace h := if_t h c5
      refine R_if_ne_f DX9_columns_19 c5 ?_
      refine R.sub (L' := []) [] rfl ?_
      exact tX9_columns_b22 h
    · replace h := if_f h c5
      refine R_if_ne_t DX9_columns_19 c5 ?_
      refine R_aload DX9_columns_25 0 rfl ?_
      refine R_iload DX9_columns_26 1 rfl ?_
      refine R_iload DX9_columns_27 2 rfl ?_
      obtain ⟨s6, es6, h⟩ := bind_some h
      refine R_cV0 [.int x1, .int x2] DX9_columns_28 kzvX9_freely ml_RX9_474 ⟨Nat.le_of_ble_eq_true rfl, Nat.le_of_ble_eq_true rfl⟩ rfl (Nat.le_of_ble_eq_true rfl) (kX9_freely es6) ?_
      refine R_aload DX9_columns_31 0 rfl ?_
      refine R_constI DX9_columns_32 ci_1 ?_
      obtain ⟨r7, er7, h⟩ := bind_some h
      refine R_cV1 [.int (iI 1)] DX9_columns_33 kzvX9_spotsNow ml_RX9_477 ⟨Nat.le_of_ble_eq_true rfl, Nat.le_of_ble_eq_true rfl⟩ rfl (Nat.le_of_ble_eq_true rfl) (kX9_spotsNow er7) ?_
      cases h
      exact R_ireturn rfl DX9_columns_36
set_option maxRecDepth 8000 in
theorem tX9_startsRows_l11 {G : Gm} {x0 : Nat} {x2 : Int64} {x4 : Int64} {o : Option Value × Hp} {a : Int32 × Hp} {w : (Int32 × Hp) ⊕ ((Hp))} (h : fX9_startsRows_l11 x0 x2 x4 a = some w) (hc : ∀ (q6 : Int32) (qs : Hp), w = .inl (q6, qs) → R G MX9_startsRows 11 [(0, .ref x0), (2, .long x2), (4, .long x4), (6, .int q6)] [] qs o) (he0 : ∀ (qs : Hp), w = .inr qs → R G MX9_startsRows 34 [(0, .ref x0), (2, .long x2)] [] qs o) : R G MX9_startsRows 11 [(0, .ref x0), (2, .long x2), (4, .long x4), (6, .int a.1)] [] a.2 o := by
  unfold fX9_startsRows_l11 at h
  refine R_iload DX9_startsRows_11 3 rfl ?_
  refine R_constI DX9_startsRows_13 ci_32000 ?_
  by_cases c2 : (iI 32000) ≤ a.1
  · replace h := if_t h c2
    refine R_icmp_ge_t DX9_startsRows_16 c2 ?_
    refine R.sub (L' := [(0, .ref x0), (2, .long x2)]) [0, 1] rfl ?_
    cases h
    exact he0 _ rfl
  · replace h := if_f h c2
    refine R_icmp_ge_f DX9_startsRows_16 c2 ?_
    refine R_aload DX9_startsRows_19 0 rfl ?_
    obtain ⟨v3, ev3, h⟩ := bind_some h
    refine R_gR DX9_startsRows_20 fl_RX9_83 ev3 ?_
    refine R_iload DX9_startsRows_23 3 rfl ?_
    refine R_lload DX9_startsRows_25 2 rfl ?_
    obtain ⟨s4, es4, h⟩ := bind_some h
    refine R_sL DX9_startsRows_27 es4 ?_
    refine R_iinc [(6, .int (a.1 + iI 1)), (0, .ref x0), (2, .long x2), (4, .long x4)] DX9_startsRows_28 3 rfl (v := a.1 + iI 1) (by rfl) (by decide) rfl ?_
    refine R_goto DX9_startsRows_31 ?_
    refine R.sub (L' := [(0, .ref x0), (2, .long x2), (4, .long x4), (6, .int (a.1 + iI 1))]) [1, 2, 3, 0] rfl ?_
    cases h
    exact hc _ _ rfl
set_option maxRecDepth 8000 in
theorem kX9_startsRows {G : Gm} {x0 : Nat} {x1 : Int32} {x2 : Int64} {x4 : Int64} {s : Hp} {w : Hp} (h : fX9_startsRows x0 x1 x2 x4 s = some w) : (s.2.2 x0).1 = 9 ∧ Call G MX9_startsRows [.ref x0, .int x1, .long x2, .long x4] s (none, w) := by
  unfold fX9_startsRows at h
  obtain ⟨_, e0, h⟩ := bind_some h
  refine ⟨ck_some e0, Call.of_R pnRX9 (Nat.le_of_ble_eq_true rfl) ?_⟩
  clear e0
  show R G MX9_startsRows 0 [(0, .ref x0), (1, .int x1), (2, .long x2), (4, .long x4)] [] s (none, w)
  refine R_aload DX9_startsRows_0 0 rfl ?_
  refine R_iload DX9_startsRows_1 1 rfl ?_
  refine R_constI DX9_startsRows_2 ci_9 ?_
  refine R_constI DX9_startsRows_4 ci_0 ?_
  obtain ⟨s1, es1, h⟩ := bind_some h
  refine R_cV0 [.int x1, .int (iI 9), .int (iI 0)] DX9_startsRows_5 kzvX9_starts ml_RX9_458 ⟨Nat.le_of_ble_eq_true rfl, Nat.le_of_ble_eq_true rfl⟩ rfl (Nat.le_of_ble_eq_true rfl) (kX9_starts es1) ?_
  refine R_constI DX9_startsRows_8 ci_0 ?_
  refine R_istore [(6, .int (iI 0)), (0, .ref x0), (1, .int x1), (2, .long x2), (4, .long x4)] DX9_startsRows_9 (by decide) rfl ?_
  refine R.sub (L' := [(0, .ref x0), (2, .long x2), (4, .long x4), (6, .int (iI 0))]) [1, 3, 4, 0] rfl ?_
  obtain ⟨r5, hi, h⟩ := bind_some h
  have hE : (fun u11 : Hp => R G MX9_startsRows 34 [(0, .ref x0), (2, .long x2)] [] u11 (none, w)) r5 → ∀ (q6 : Int32) (qs : Hp), iter (fX9_startsRows_l11 x0 x2 x4) FU (q6, qs) = some r5 → R G MX9_startsRows 11 [(0, .ref x0), (2, .long x2), (4, .long x4), (6, .int q6)] [] qs (none, w) := fun hX q6 qs hj => loop_R (fX9_startsRows_l11 x0 x2 x4) (fun p11 : Int32 × Hp => R G MX9_startsRows 11 [(0, .ref x0), (2, .long x2), (4, .long x4), (6, .int p11.1)] [] p11.2 (none, w)) (fun u11 : Hp => R G MX9_startsRows 34 [(0, .ref x0), (2, .long x2)] [] u11 (none, w)) (fun a w hw hc he => tX9_startsRows_l11 hw (fun q6 qs e => hc (q6, qs) e) (fun qs e => he qs e)) FU (q6, qs) r5 hj hX
  refine hE ?_ _ _ hi
  clear hE hi
  refine R_aload DX9_startsRows_34 0 rfl ?_
  obtain ⟨v6, ev6, h⟩ := bind_some h
  refine R_gR DX9_startsRows_35 fl_RX9_83 ev6 ?_
  refine R_aload DX9_startsRows_38 0 rfl ?_
  obtain ⟨r7, er7, h⟩ := bind_some h
  refine R_cV1 [] DX9_startsRows_39 kzvX9_state ml_RX9_429 ⟨Nat.le_of_ble_eq_true rfl, Nat.le_of_ble_eq_true rfl⟩ rfl (Nat.le_of_ble_eq_true rfl) (kX9_state er7) ?_
  refine R_lload DX9_startsRows_42 1 rfl ?_
  obtain ⟨s8, es8, h⟩ := bind_some h
  refine R_sL DX9_startsRows_43 es8 ?_
  cases h
  exact R_return rfl DX9_startsRows_44
set_option maxRecDepth 8000 in
theorem tX9_isGood__b59 {G : Gm} {s : Hp} {w : Int32 × Hp} (h : fX9_isGood__b59 s = some w) : R G MX9_isGood_ 59 [] [] s (some (.int w.1), w.2) := by
  unfold fX9_isGood__b59 at h
  refine R_constI DX9_isGood__59 ci_0 ?_
  refine R_goto DX9_isGood__60 ?_
  cases h
  exact R_zreturn rfl DX9_isGood__75 (by decide)
set_option maxRecDepth 8000 in
theorem kX9_isGood_ {G : Gm} {x0 : Nat} {x1 : Int32} {x2 : Int32} {s : Hp} {w : Int32 × Hp} (h : fX9_isGood_ x0 x1 x2 s = some w) : (s.2.2 x0).1 = 9 ∧ Call G MX9_isGood_ [.ref x0, .int x1, .int x2] s (some (.int w.1), w.2) := by
  unfold fX9_isGood_ at h
  obtain ⟨_, e0, h⟩ := bind_some h
  refine ⟨ck_some e0, Call.of_R pnRX9 (Nat.le_of_ble_eq_true rfl) ?_⟩
  clear e0
  show R G MX9_isGood_ 0 [(0, .ref x0), (1, .int x1), (2, .int x2)] [] s (some (.int w.1), w.2)
  refine R_iload DX9_isGood__0 1 rfl ?_
  refine R_constI DX9_isGood__1 ci_1 ?_
  by_cases c1 : x1 = (iI 1)
  · replace h := if_t h c1
    refine R_icmp_ne_f DX9_isGood__2 c1 ?_
    refine R_aload DX9_isGood__5 0 rfl ?_
    obtain ⟨v4, ev4, h⟩ := bind_some h
    refine R_gI DX9_isGood__6 fl_RX9_405 ev4 ?_
    refine R_aload DX9_isGood__9 0 rfl ?_
    obtain ⟨v5, ev5, h⟩ := bind_some h
    refine R_gR DX9_isGood__10 fl_RX9_34 ev5 ?_
    refine R_constI DX9_isGood__13 ci_10 ?_
    obtain ⟨v6, ev6, h⟩ := bind_some h
    refine R_aI DX9_isGood__15 ev6 ?_
    by_cases c7 : v4 = v6
    · replace h := if_t h c7
      refine R_icmp_ne_f DX9_isGood__16 c7 ?_
      refine R_aload DX9_isGood__19 0 rfl ?_
      obtain ⟨v8, ev8, h⟩ := bind_some h
      refine R_gI DX9_isGood__20 fl_RX9_408 ev8 ?_
      refine R_aload DX9_isGood__23 0 rfl ?_
      obtain ⟨v9, ev9, h⟩ := bind_some h
      refine R_gR DX9_isGood__24 fl_RX9_34 ev9 ?_
      refine R_constI DX9_isGood__27 ci_11 ?_
      obtain ⟨v10, ev10, h⟩ := bind_some h
      refine R_aI DX9_isGood__29 ev10 ?_
      by_cases c11 : v8 = v10
      · replace h := if_t h c11
        refine R_icmp_ne_f DX9_isGood__30 c11 ?_
        refine R_iload DX9_isGood__33 2 rfl ?_
        refine R_aload DX9_isGood__34 0 rfl ?_
        obtain ⟨v12, ev12, h⟩ := bind_some h
        refine R_gR DX9_isGood__35 fl_RX9_34 ev12 ?_
        refine R_constI DX9_isGood__38 ci_12 ?_
        obtain ⟨v13, ev13, h⟩ := bind_some h
        refine R_aI DX9_isGood__40 ev13 ?_
        by_cases c14 : x2 < v13
        · replace h := if_t h c14
          refine R_icmp_lt_t DX9_isGood__41 c14 ?_
          refine R.sub (L' := []) [] rfl ?_
          exact tX9_isGood__b59 h
        · replace h := if_f h c14
          refine R_icmp_lt_f DX9_isGood__41 c14 ?_
          refine R_iload DX9_isGood__44 2 rfl ?_
          refine R_aload DX9_isGood__45 0 rfl ?_
          obtain ⟨v15, ev15, h⟩ := bind_some h
          refine R_gR DX9_isGood__46 fl_RX9_34 ev15 ?_
          refine R_constI DX9_isGood__49 ci_13 ?_
          obtain ⟨v16, ev16, h⟩ := bind_some h
          refine R_aI DX9_isGood__51 ev16 ?_
          by_cases c17 : v16 < x2
          · replace h := if_t h c17
            refine R_icmp_gt_t DX9_isGood__52 c17 ?_
            refine R.sub (L' := []) [] rfl ?_
            exact tX9_isGood__b59 h
          · replace h := if_f h c17
            refine R_icmp_gt_f DX9_isGood__52 c17 ?_
            refine R_constI DX9_isGood__55 ci_1 ?_
            refine R_goto DX9_isGood__56 ?_
            cases h
            exact R_zreturn rfl DX9_isGood__75 (by decide)
      · replace h := if_f h c11
        refine R_icmp_ne_t DX9_isGood__30 c11 ?_
        refine R.sub (L' := []) [] rfl ?_
        exact tX9_isGood__b59 h
    · replace h := if_f h c7
      refine R_icmp_ne_t DX9_isGood__16 c7 ?_
      refine R.sub (L' := []) [] rfl ?_
      exact tX9_isGood__b59 h
  · replace h := if_f h c1
    refine R_icmp_ne_t DX9_isGood__2 c1 ?_
    refine R_aload DX9_isGood__63 0 rfl ?_
    obtain ⟨v2, ev2, h⟩ := bind_some h
    refine R_gI DX9_isGood__64 fl_RX9_411 ev2 ?_
    by_cases c3 : v2 ≤ 0
    · replace h := if_t h c3
      refine R_if_le_t DX9_isGood__67 c3 ?_
      refine R_constI DX9_isGood__74 ci_0 ?_
      cases h
      exact R_zreturn rfl DX9_isGood__75 (by decide)
    · replace h := if_f h c3
      refine R_if_le_f DX9_isGood__67 c3 ?_
      refine R_constI DX9_isGood__70 ci_1 ?_
      refine R_goto DX9_isGood__71 ?_
      cases h
      exact R_zreturn rfl DX9_isGood__75 (by decide)
set_option maxRecDepth 8000 in
theorem tX9_hourRows_l15 {G : Gm} {x0 : Nat} {x1 : Int32} {x2 : Int32} {x3 : Int64} {o : Option Value × Hp} {a : Int32 × Hp} {w : (Int32 × Hp) ⊕ ((Hp))} (h : fX9_hourRows_l15 x0 x1 x2 x3 a = some w) (hc : ∀ (q5 : Int32) (qs : Hp), w = .inl (q5, qs) → R G MX9_hourRows 15 [(0, .ref x0), (1, .int x1), (2, .int x2), (3, .long x3), (5, .int q5)] [] qs o) (he0 : ∀ (qs : Hp), w = .inr qs → R G MX9_hourRows 37 [(0, .ref x0), (1, .int x1), (2, .int x2), (3, .long x3)] [] qs o) : R G MX9_hourRows 15 [(0, .ref x0), (1, .int x1), (2, .int x2), (3, .long x3), (5, .int a.1)] [] a.2 o := by
  unfold fX9_hourRows_l15 at h
  refine R_iload DX9_hourRows_15 4 rfl ?_
  refine R_constI DX9_hourRows_17 ci_32000 ?_
  by_cases c2 : (iI 32000) ≤ a.1
  · replace h := if_t h c2
    refine R_icmp_ge_t DX9_hourRows_20 c2 ?_
    refine R.sub (L' := [(0, .ref x0), (1, .int x1), (2, .int x2), (3, .long x3)]) [0, 1, 2, 3] rfl ?_
    cases h
    exact he0 _ rfl
  · replace h := if_f h c2
    refine R_icmp_ge_f DX9_hourRows_20 c2 ?_
    refine R_aload DX9_hourRows_23 0 rfl ?_
    obtain ⟨v3, ev3, h⟩ := bind_some h
    refine R_gR DX9_hourRows_24 fl_RX9_86 ev3 ?_
    refine R_iload DX9_hourRows_27 4 rfl ?_
    refine R_lload DX9_hourRows_29 3 rfl ?_
    obtain ⟨s4, es4, h⟩ := bind_some h
    refine R_sL DX9_hourRows_30 es4 ?_
    refine R_iinc [(5, .int (a.1 + iI 1)), (0, .ref x0), (1, .int x1), (2, .int x2), (3, .long x3)] DX9_hourRows_31 4 rfl (v := a.1 + iI 1) (by rfl) (by decide) rfl ?_
    refine R_goto DX9_hourRows_34 ?_
    refine R.sub (L' := [(0, .ref x0), (1, .int x1), (2, .int x2), (3, .long x3), (5, .int (a.1 + iI 1))]) [1, 2, 3, 4, 0] rfl ?_
    cases h
    exact hc _ _ rfl
set_option maxRecDepth 8000 in
theorem tX9_hourRows_b178 {G : Gm} {x0 : Nat} {x1 : Int32} {x2 : Int32} {x3 : Int64} {x5 : Int32} {x6 : Int32} {s : Hp} {o : Option Value × Hp} {w : (Int32 × Hp) ⊕ ((Hp))} (h : fX9_hourRows_b178 x0 x1 x2 x3 x5 x6 s = some w) (hc : ∀ (q6 : Int32) (qs : Hp), w = .inl (q6, qs) → R G MX9_hourRows 66 [(0, .ref x0), (1, .int x1), (2, .int x2), (3, .long x3), (5, .int x5), (6, .int q6)] [] qs o) (he0 : ∀ (qs : Hp), w = .inr qs → R G MX9_hourRows 184 [(0, .ref x0), (1, .int x1), (2, .int x2), (3, .long x3), (5, .int x5)] [] qs o) : R G MX9_hourRows 178 [(0, .ref x0), (1, .int x1), (2, .int x2), (3, .long x3), (5, .int x5), (6, .int x6)] [] s o := by
  unfold fX9_hourRows_b178 at h
  refine R_iinc [(6, .int (x6 + iI 1)), (0, .ref x0), (1, .int x1), (2, .int x2), (3, .long x3), (5, .int x5)] DX9_hourRows_178 5 rfl (v := x6 + iI 1) (by rfl) (by decide) rfl ?_
  refine R_goto DX9_hourRows_181 ?_
  refine R.sub (L' := [(0, .ref x0), (1, .int x1), (2, .int x2), (3, .long x3), (5, .int x5), (6, .int (x6 + iI 1))]) [1, 2, 3, 4, 5, 0] rfl ?_
  cases h
  exact hc _ _ rfl
set_option maxRecDepth 8000 in
theorem tX9_hourRows_b177 {G : Gm} {x0 : Nat} {x1 : Int32} {x2 : Int32} {x3 : Int64} {x5 : Int32} {x6 : Int32} {y0 : Nat} {y1 : Int32} {y2 : Int64} {s : Hp} {o : Option Value × Hp} {w : (Int32 × Hp) ⊕ ((Hp))} (h : fX9_hourRows_b177 x0 x1 x2 x3 x5 x6 y0 y1 y2 s = some w) (hc : ∀ (q6 : Int32) (qs : Hp), w = .inl (q6, qs) → R G MX9_hourRows 66 [(0, .ref x0), (1, .int x1), (2, .int x2), (3, .long x3), (5, .int x5), (6, .int q6)] [] qs o) (he0 : ∀ (qs : Hp), w = .inr qs → R G MX9_hourRows 184 [(0, .ref x0), (1, .int x1), (2, .int x2), (3, .long x3), (5, .int x5)] [] qs o) : R G MX9_hourRows 177 [(0, .ref x0), (1, .int x1), (2, .int x2), (3, .long x3), (5, .int x5), (6, .int x6)] [.long y2, .int y1, .ref y0] s o := by
  unfold fX9_hourRows_b177 at h
  obtain ⟨s26, es26, h⟩ := bind_some h
  refine R_sL DX9_hourRows_177 es26 ?_
  exact tX9_hourRows_b178 h hc he0
set_option maxRecDepth 8000 in
theorem tX9_hourRows_b144 {G : Gm} {x0 : Nat} {x1 : Int32} {x2 : Int32} {x3 : Int64} {x5 : Int32} {x6 : Int32} {x7 : Int32} {y0 : Int64} {s : Hp} {o : Option Value × Hp} {w : (Int32 × Hp) ⊕ ((Hp))} (h : fX9_hourRows_b144 x0 x1 x2 x3 x5 x6 x7 y0 s = some w) (hc : ∀ (q6 : Int32) (qs : Hp), w = .inl (q6, qs) → R G MX9_hourRows 66 [(0, .ref x0), (1, .int x1), (2, .int x2), (3, .long x3), (5, .int x5), (6, .int q6)] [] qs o) (he0 : ∀ (qs : Hp), w = .inr qs → R G MX9_hourRows 184 [(0, .ref x0), (1, .int x1), (2, .int x2), (3, .long x3), (5, .int x5)] [] qs o) : R G MX9_hourRows 144 [(0, .ref x0), (1, .int x1), (2, .int x2), (3, .long x3), (5, .int x5), (6, .int x6), (7, .int x7)] [.long y0] s o := by
  unfold fX9_hourRows_b144 at h
  refine R_lstore [(8, .long y0), (0, .ref x0), (1, .int x1), (2, .int x2), (3, .long x3), (5, .int x5), (6, .int x6), (7, .int x7)] DX9_hourRows_144 (by decide) rfl ?_
  refine R_aload DX9_hourRows_146 1 rfl ?_
  obtain ⟨v20, ev20, h⟩ := bind_some h
  refine R_gR DX9_hourRows_147 fl_RX9_86 ev20 ?_
  refine R_iload DX9_hourRows_150 7 rfl ?_
  refine R_lload DX9_hourRows_152 0 rfl ?_
  refine R_aload DX9_hourRows_154 1 rfl ?_
  obtain ⟨v21, ev21, h⟩ := bind_some h
  refine R_gR DX9_hourRows_155 fl_RX9_86 ev21 ?_
  refine R_iload DX9_hourRows_158 7 rfl ?_
  obtain ⟨v22, ev22, h⟩ := bind_some h
  refine R_aL DX9_hourRows_160 ev22 ?_
  refine R_lcmp DX9_hourRows_161 ?_
  by_cases c23 : (lg_cmp y0 v22) ≤ 0
  · replace h := if_t h c23
    refine R_if_le_t DX9_hourRows_162 c23 ?_
    refine R_aload DX9_hourRows_170 1 rfl ?_
    obtain ⟨v24, ev24, h⟩ := bind_some h
    refine R_gR DX9_hourRows_171 fl_RX9_86 ev24 ?_
    refine R_iload DX9_hourRows_174 7 rfl ?_
    obtain ⟨v25, ev25, h⟩ := bind_some h
    refine R_aL DX9_hourRows_176 ev25 ?_
    refine R.sub (L' := [(0, .ref x0), (1, .int x1), (2, .int x2), (3, .long x3), (5, .int x5), (6, .int x6)]) [1, 2, 3, 4, 5, 6] rfl ?_
    exact tX9_hourRows_b177 h hc he0
  · replace h := if_f h c23
    refine R_if_le_f DX9_hourRows_162 c23 ?_
    refine R_lload DX9_hourRows_165 0 rfl ?_
    refine R_goto DX9_hourRows_167 ?_
    refine R.sub (L' := [(0, .ref x0), (1, .int x1), (2, .int x2), (3, .long x3), (5, .int x5), (6, .int x6)]) [1, 2, 3, 4, 5, 6] rfl ?_
    exact tX9_hourRows_b177 h hc he0
set_option maxRecDepth 8000 in
theorem tX9_hourRows_b143 {G : Gm} {x0 : Nat} {x1 : Int32} {x2 : Int32} {x3 : Int64} {x5 : Int32} {x6 : Int32} {x7 : Int32} {y0 : Int64} {y1 : Int64} {s : Hp} {o : Option Value × Hp} {w : (Int32 × Hp) ⊕ ((Hp))} (h : fX9_hourRows_b143 x0 x1 x2 x3 x5 x6 x7 y0 y1 s = some w) (hc : ∀ (q6 : Int32) (qs : Hp), w = .inl (q6, qs) → R G MX9_hourRows 66 [(0, .ref x0), (1, .int x1), (2, .int x2), (3, .long x3), (5, .int x5), (6, .int q6)] [] qs o) (he0 : ∀ (qs : Hp), w = .inr qs → R G MX9_hourRows 184 [(0, .ref x0), (1, .int x1), (2, .int x2), (3, .long x3), (5, .int x5)] [] qs o) : R G MX9_hourRows 143 [(0, .ref x0), (1, .int x1), (2, .int x2), (3, .long x3), (5, .int x5), (6, .int x6), (7, .int x7)] [.long y1, .long y0] s o := by
  unfold fX9_hourRows_b143 at h
  refine R_ladd DX9_hourRows_143 ?_
  exact tX9_hourRows_b144 h hc he0
set_option maxRecDepth 8000 in
theorem tX9_hourRows_l66 {G : Gm} {x0 : Nat} {x1 : Int32} {x2 : Int32} {x3 : Int64} {x5 : Int32} {o : Option Value × Hp} {a : Int32 × Hp} {w : (Int32 × Hp) ⊕ ((Hp))} (h : fX9_hourRows_l66 x0 x1 x2 x3 x5 a = some w) (hc : ∀ (q6 : Int32) (qs : Hp), w = .inl (q6, qs) → R G MX9_hourRows 66 [(0, .ref x0), (1, .int x1), (2, .int x2), (3, .long x3), (5, .int x5), (6, .int q6)] [] qs o) (he0 : ∀ (qs : Hp), w = .inr qs → R G MX9_hourRows 184 [(0, .ref x0), (1, .int x1), (2, .int x2), (3, .long x3), (5, .int x5)] [] qs o) : R G MX9_hourRows 66 [(0, .ref x0), (1, .int x1), (2, .int x2), (3, .long x3), (5, .int x5), (6, .int a.1)] [] a.2 o := by
  unfold fX9_hourRows_l66 at h
  refine R_iload DX9_hourRows_66 5 rfl ?_
  refine R_constI DX9_hourRows_68 ci_3 ?_
  by_cases c10 : (iI 3) ≤ a.1
  · replace h := if_t h c10
    refine R_icmp_ge_t DX9_hourRows_69 c10 ?_
    refine R.sub (L' := [(0, .ref x0), (1, .int x1), (2, .int x2), (3, .long x3), (5, .int x5)]) [0, 1, 2, 3, 4] rfl ?_
    cases h
    exact he0 _ rfl
  · replace h := if_f h c10
    refine R_icmp_ge_f DX9_hourRows_69 c10 ?_
    refine R_aload DX9_hourRows_72 0 rfl ?_
    refine R_constI DX9_hourRows_73 ci_32 ?_
    refine R_iload DX9_hourRows_75 4 rfl ?_
    refine R_imul DX9_hourRows_77 ?_
    obtain ⟨s11, es11, h⟩ := bind_some h
    refine R_cV0 [.int ((iI 32) * x5)] DX9_hourRows_78 kzvX9_reads_ ml_RX9_446 ⟨Nat.le_of_ble_eq_true rfl, Nat.le_of_ble_eq_true rfl⟩ rfl (Nat.le_of_ble_eq_true rfl) (kX9_reads_ es11) ?_
    refine R_aload DX9_hourRows_81 0 rfl ?_
    refine R_iload DX9_hourRows_82 5 rfl ?_
    refine R_iload DX9_hourRows_84 1 rfl ?_
    obtain ⟨r12, er12, h⟩ := bind_some h
    refine R_cV1 [.int a.1, .int x1] DX9_hourRows_85 kzvX9_acts ml_RX9_448 ⟨Nat.le_of_ble_eq_true rfl, Nat.le_of_ble_eq_true rfl⟩ rfl (Nat.le_of_ble_eq_true rfl) (kX9_acts er12) ?_
    by_cases c13 : r12.1 = 0
    · replace h := if_t h c13
      refine R_if_ne_f DX9_hourRows_88 c13 ?_
      refine R_goto DX9_hourRows_91 ?_
      exact tX9_hourRows_b178 h hc he0
    · replace h := if_f h c13
      refine R_if_ne_t DX9_hourRows_88 c13 ?_
      refine R_aload DX9_hourRows_94 0 rfl ?_
      obtain ⟨r14, er14, h⟩ := bind_some h
      refine R_cV1 [] DX9_hourRows_95 kzvX9_state ml_RX9_429 ⟨Nat.le_of_ble_eq_true rfl, Nat.le_of_ble_eq_true rfl⟩ rfl (Nat.le_of_ble_eq_true rfl) (kX9_state er14) ?_
      refine R_istore [(7, .int r14.1), (0, .ref x0), (1, .int x1), (2, .int x2), (3, .long x3), (5, .int x5), (6, .int a.1)] DX9_hourRows_98 (by decide) rfl ?_
      refine R_iload DX9_hourRows_100 3 rfl ?_
      by_cases c15 : x2 = 0
      · replace h := if_t h c15
        refine R_if_ne_f DX9_hourRows_101 c15 ?_
        refine R_aload DX9_hourRows_104 1 rfl ?_
        obtain ⟨v27, ev27, h⟩ := bind_some h
        refine R_gR DX9_hourRows_105 fl_RX9_86 ev27 ?_
        refine R_iload DX9_hourRows_108 0 rfl ?_
        obtain ⟨v28, ev28, h⟩ := bind_some h
        refine R_aL DX9_hourRows_110 ev28 ?_
        refine R_aload DX9_hourRows_111 1 rfl ?_
        obtain ⟨v29, ev29, h⟩ := bind_some h
        refine R_gR DX9_hourRows_112 fl_RX9_83 ev29 ?_
        refine R_iload DX9_hourRows_115 5 rfl ?_
        obtain ⟨v30, ev30, h⟩ := bind_some h
        refine R_aL DX9_hourRows_117 ev30 ?_
        refine R_ladd DX9_hourRows_118 ?_
        refine R_goto DX9_hourRows_119 ?_
        refine R.sub (L' := [(0, .ref x0), (1, .int x1), (2, .int x2), (3, .long x3), (5, .int x5), (6, .int a.1), (7, .int r14.1)]) [1, 2, 3, 4, 5, 6, 0] rfl ?_
        exact tX9_hourRows_b144 h hc he0
      · replace h := if_f h c15
        refine R_if_ne_t DX9_hourRows_101 c15 ?_
        refine R_aload DX9_hourRows_122 1 rfl ?_
        obtain ⟨v16, ev16, h⟩ := bind_some h
        refine R_gR DX9_hourRows_123 fl_RX9_83 ev16 ?_
        refine R_iload DX9_hourRows_126 5 rfl ?_
        obtain ⟨v17, ev17, h⟩ := bind_some h
        refine R_aL DX9_hourRows_128 ev17 ?_
        refine R_aload DX9_hourRows_129 1 rfl ?_
        refine R_iload DX9_hourRows_130 3 rfl ?_
        refine R_iload DX9_hourRows_131 2 rfl ?_
        obtain ⟨r18, er18, h⟩ := bind_some h
        refine R_cV1 [.int x2, .int x1] DX9_hourRows_132 kzvX9_isGood_ ml_RX9_481 ⟨Nat.le_of_ble_eq_true rfl, Nat.le_of_ble_eq_true rfl⟩ rfl (Nat.le_of_ble_eq_true rfl) (kX9_isGood_ er18) ?_
        by_cases c19 : r18.1 = 0
        · replace h := if_t h c19
          refine R_if_eq_t DX9_hourRows_135 c19 ?_
          refine R_lconst DX9_hourRows_142 ?_
          refine R.sub (L' := [(0, .ref x0), (1, .int x1), (2, .int x2), (3, .long x3), (5, .int x5), (6, .int a.1), (7, .int r14.1)]) [1, 2, 3, 4, 5, 6, 0] rfl ?_
          exact tX9_hourRows_b143 h hc he0
        · replace h := if_f h c19
          refine R_if_eq_f DX9_hourRows_135 c19 ?_
          refine R_lconst DX9_hourRows_138 ?_
          refine R_goto DX9_hourRows_139 ?_
          refine R.sub (L' := [(0, .ref x0), (1, .int x1), (2, .int x2), (3, .long x3), (5, .int x5), (6, .int a.1), (7, .int r14.1)]) [1, 2, 3, 4, 5, 6, 0] rfl ?_
          exact tX9_hourRows_b143 h hc he0
set_option maxRecDepth 8000 in
theorem tX9_hourRows_b184 {G : Gm} {x0 : Nat} {x1 : Int32} {x2 : Int32} {x3 : Int64} {x5 : Int32} {s : Hp} {o : Option Value × Hp} {w : (Int32 × Hp) ⊕ ((Hp))} (h : fX9_hourRows_b184 x0 x1 x2 x3 x5 s = some w) (hc : ∀ (q5 : Int32) (qs : Hp), w = .inl (q5, qs) → R G MX9_hourRows 40 [(0, .ref x0), (1, .int x1), (2, .int x2), (3, .long x3), (5, .int q5)] [] qs o) (he0 : ∀ (qs : Hp), w = .inr qs → R G MX9_hourRows 190 [(0, .ref x0)] [] qs o) : R G MX9_hourRows 184 [(0, .ref x0), (1, .int x1), (2, .int x2), (3, .long x3), (5, .int x5)] [] s o := by
  unfold fX9_hourRows_b184 at h
  refine R_iinc [(5, .int (x5 + iI 1)), (0, .ref x0), (1, .int x1), (2, .int x2), (3, .long x3)] DX9_hourRows_184 4 rfl (v := x5 + iI 1) (by rfl) (by decide) rfl ?_
  refine R_goto DX9_hourRows_187 ?_
  refine R.sub (L' := [(0, .ref x0), (1, .int x1), (2, .int x2), (3, .long x3), (5, .int (x5 + iI 1))]) [1, 2, 3, 4, 0] rfl ?_
  cases h
  exact hc _ _ rfl
set_option maxRecDepth 8000 in
theorem tX9_hourRows_l40 {G : Gm} {x0 : Nat} {x1 : Int32} {x2 : Int32} {x3 : Int64} {o : Option Value × Hp} {a : Int32 × Hp} {w : (Int32 × Hp) ⊕ ((Hp))} (h : fX9_hourRows_l40 x0 x1 x2 x3 a = some w) (hc : ∀ (q5 : Int32) (qs : Hp), w = .inl (q5, qs) → R G MX9_hourRows 40 [(0, .ref x0), (1, .int x1), (2, .int x2), (3, .long x3), (5, .int q5)] [] qs o) (he0 : ∀ (qs : Hp), w = .inr qs → R G MX9_hourRows 190 [(0, .ref x0)] [] qs o) : R G MX9_hourRows 40 [(0, .ref x0), (1, .int x1), (2, .int x2), (3, .long x3), (5, .int a.1)] [] a.2 o := by
  unfold fX9_hourRows_l40 at h
  refine R_iload DX9_hourRows_40 4 rfl ?_
  refine R_constI DX9_hourRows_42 ci_32000 ?_
  by_cases c6 : (iI 32000) ≤ a.1
  · replace h := if_t h c6
    refine R_icmp_ge_t DX9_hourRows_45 c6 ?_
    refine R.sub (L' := [(0, .ref x0)]) [0] rfl ?_
    cases h
    exact he0 _ rfl
  · replace h := if_f h c6
    refine R_icmp_ge_f DX9_hourRows_45 c6 ?_
    refine R_aload DX9_hourRows_48 0 rfl ?_
    obtain ⟨v7, ev7, h⟩ := bind_some h
    refine R_gR DX9_hourRows_49 fl_RX9_83 ev7 ?_
    refine R_iload DX9_hourRows_52 4 rfl ?_
    obtain ⟨v8, ev8, h⟩ := bind_some h
    refine R_aL DX9_hourRows_54 ev8 ?_
    refine R_lload DX9_hourRows_55 3 rfl ?_
    refine R_lcmp DX9_hourRows_56 ?_
    by_cases c9 : (lg_cmp v8 x3) = 0
    · replace h := if_t h c9
      refine R_if_ne_f DX9_hourRows_57 c9 ?_
      refine R_goto DX9_hourRows_60 ?_
      exact tX9_hourRows_b184 h hc he0
    · replace h := if_f h c9
      refine R_if_ne_t DX9_hourRows_57 c9 ?_
      refine R_constI DX9_hourRows_63 ci_0 ?_
      refine R_istore [(6, .int (iI 0)), (0, .ref x0), (1, .int x1), (2, .int x2), (3, .long x3), (5, .int a.1)] DX9_hourRows_64 (by decide) rfl ?_
      refine R.sub (L' := [(0, .ref x0), (1, .int x1), (2, .int x2), (3, .long x3), (5, .int a.1), (6, .int (iI 0))]) [1, 2, 3, 4, 5, 0] rfl ?_
      obtain ⟨r31, hi, h⟩ := bind_some h
      have hE : (fun u66 : Hp => R G MX9_hourRows 184 [(0, .ref x0), (1, .int x1), (2, .int x2), (3, .long x3), (5, .int a.1)] [] u66 o) r31 → ∀ (q6 : Int32) (qs : Hp), iter (fX9_hourRows_l66 x0 x1 x2 x3 a.1) FU (q6, qs) = some r31 → R G MX9_hourRows 66 [(0, .ref x0), (1, .int x1), (2, .int x2), (3, .long x3), (5, .int a.1), (6, .int q6)] [] qs o := fun hX q6 qs hj => loop_R (fX9_hourRows_l66 x0 x1 x2 x3 a.1) (fun p66 : Int32 × Hp => R G MX9_hourRows 66 [(0, .ref x0), (1, .int x1), (2, .int x2), (3, .long x3), (5, .int a.1), (6, .int p66.1)] [] p66.2 o) (fun u66 : Hp => R G MX9_hourRows 184 [(0, .ref x0), (1, .int x1), (2, .int x2), (3, .long x3), (5, .int a.1)] [] u66 o) (fun a w hw hc he => tX9_hourRows_l66 hw (fun q6 qs e => hc (q6, qs) e) (fun qs e => he qs e)) FU (q6, qs) r31 hj hX
      refine hE ?_ _ _ hi
      clear hE hi
      exact tX9_hourRows_b184 h hc he0
set_option maxRecDepth 8000 in
theorem tX9_hourRows_l193 {G : Gm} {x0 : Nat} {o : Option Value × Hp} {a : Int32 × Hp} {w : (Int32 × Hp) ⊕ ((Hp))} (h : fX9_hourRows_l193 x0 a = some w) (hc : ∀ (q5 : Int32) (qs : Hp), w = .inl (q5, qs) → R G MX9_hourRows 193 [(0, .ref x0), (5, .int q5)] [] qs o) (he0 : ∀ (qs : Hp), w = .inr qs → R G MX9_hourRows 221 [] [] qs o) : R G MX9_hourRows 193 [(0, .ref x0), (5, .int a.1)] [] a.2 o := by
  unfold fX9_hourRows_l193 at h
  refine R_iload DX9_hourRows_193 1 rfl ?_
  refine R_constI DX9_hourRows_195 ci_32000 ?_
  by_cases c33 : (iI 32000) ≤ a.1
  · replace h := if_t h c33
    refine R_icmp_ge_t DX9_hourRows_198 c33 ?_
    refine R.sub (L' := []) [] rfl ?_
    cases h
    exact he0 _ rfl
  · replace h := if_f h c33
    refine R_icmp_ge_f DX9_hourRows_198 c33 ?_
    refine R_aload DX9_hourRows_201 0 rfl ?_
    obtain ⟨v34, ev34, h⟩ := bind_some h
    refine R_gR DX9_hourRows_202 fl_RX9_83 ev34 ?_
    refine R_iload DX9_hourRows_205 1 rfl ?_
    refine R_aload DX9_hourRows_207 0 rfl ?_
    obtain ⟨v35, ev35, h⟩ := bind_some h
    refine R_gR DX9_hourRows_208 fl_RX9_86 ev35 ?_
    refine R_iload DX9_hourRows_211 1 rfl ?_
    obtain ⟨v36, ev36, h⟩ := bind_some h
    refine R_aL DX9_hourRows_213 ev36 ?_
    obtain ⟨s37, es37, h⟩ := bind_some h
    refine R_sL DX9_hourRows_214 es37 ?_
    refine R_iinc [(5, .int (a.1 + iI 1)), (0, .ref x0)] DX9_hourRows_215 1 rfl (v := a.1 + iI 1) (by rfl) (by decide) rfl ?_
    refine R_goto DX9_hourRows_218 ?_
    refine R.sub (L' := [(0, .ref x0), (5, .int (a.1 + iI 1))]) [1, 0] rfl ?_
    cases h
    exact hc _ _ rfl
set_option maxRecDepth 8000 in
theorem tX9_hourRows_b11 {G : Gm} {x0 : Nat} {x1 : Int32} {x2 : Int32} {y0 : Int64} {s : Hp} {w : Hp} (h : fX9_hourRows_b11 x0 x1 x2 y0 s = some w) : R G MX9_hourRows 11 [(0, .ref x0), (1, .int x1), (2, .int x2)] [.long y0] s (none, w) := by
  unfold fX9_hourRows_b11 at h
  refine R_lstore [(3, .long y0), (0, .ref x0), (1, .int x1), (2, .int x2)] DX9_hourRows_11 (by decide) rfl ?_
  refine R_constI DX9_hourRows_12 ci_0 ?_
  refine R_istore [(5, .int (iI 0)), (3, .long y0), (0, .ref x0), (1, .int x1), (2, .int x2)] DX9_hourRows_13 (by decide) rfl ?_
  refine R.sub (L' := [(0, .ref x0), (1, .int x1), (2, .int x2), (3, .long y0), (5, .int (iI 0))]) [2, 3, 4, 1, 0] rfl ?_
  obtain ⟨r5, hi, h⟩ := bind_some h
  have hE : (fun u15 : Hp => R G MX9_hourRows 37 [(0, .ref x0), (1, .int x1), (2, .int x2), (3, .long y0)] [] u15 (none, w)) r5 → ∀ (q5 : Int32) (qs : Hp), iter (fX9_hourRows_l15 x0 x1 x2 y0) FU (q5, qs) = some r5 → R G MX9_hourRows 15 [(0, .ref x0), (1, .int x1), (2, .int x2), (3, .long y0), (5, .int q5)] [] qs (none, w) := fun hX q5 qs hj => loop_R (fX9_hourRows_l15 x0 x1 x2 y0) (fun p15 : Int32 × Hp => R G MX9_hourRows 15 [(0, .ref x0), (1, .int x1), (2, .int x2), (3, .long y0), (5, .int p15.1)] [] p15.2 (none, w)) (fun u15 : Hp => R G MX9_hourRows 37 [(0, .ref x0), (1, .int x1), (2, .int x2), (3, .long y0)] [] u15 (none, w)) (fun a w hw hc he => tX9_hourRows_l15 hw (fun q5 qs e => hc (q5, qs) e) (fun qs e => he qs e)) FU (q5, qs) r5 hj hX
  refine hE ?_ _ _ hi
  clear hE hi
  refine R_constI DX9_hourRows_37 ci_0 ?_
  refine R_istore [(5, .int (iI 0)), (0, .ref x0), (1, .int x1), (2, .int x2), (3, .long y0)] DX9_hourRows_38 (by decide) rfl ?_
  refine R.sub (L' := [(0, .ref x0), (1, .int x1), (2, .int x2), (3, .long y0), (5, .int (iI 0))]) [1, 2, 3, 4, 0] rfl ?_
  obtain ⟨r32, hi, h⟩ := bind_some h
  have hE : (fun u40 : Hp => R G MX9_hourRows 190 [(0, .ref x0)] [] u40 (none, w)) r32 → ∀ (q5 : Int32) (qs : Hp), iter (fX9_hourRows_l40 x0 x1 x2 y0) FU (q5, qs) = some r32 → R G MX9_hourRows 40 [(0, .ref x0), (1, .int x1), (2, .int x2), (3, .long y0), (5, .int q5)] [] qs (none, w) := fun hX q5 qs hj => loop_R (fX9_hourRows_l40 x0 x1 x2 y0) (fun p40 : Int32 × Hp => R G MX9_hourRows 40 [(0, .ref x0), (1, .int x1), (2, .int x2), (3, .long y0), (5, .int p40.1)] [] p40.2 (none, w)) (fun u40 : Hp => R G MX9_hourRows 190 [(0, .ref x0)] [] u40 (none, w)) (fun a w hw hc he => tX9_hourRows_l40 hw (fun q5 qs e => hc (q5, qs) e) (fun qs e => he qs e)) FU (q5, qs) r32 hj hX
  refine hE ?_ _ _ hi
  clear hE hi
  refine R_constI DX9_hourRows_190 ci_0 ?_
  refine R_istore [(5, .int (iI 0)), (0, .ref x0)] DX9_hourRows_191 (by decide) rfl ?_
  refine R.sub (L' := [(0, .ref x0), (5, .int (iI 0))]) [1, 0] rfl ?_
  obtain ⟨r38, hi, h⟩ := bind_some h
  have hE : (fun u193 : Hp => R G MX9_hourRows 221 [] [] u193 (none, w)) r38 → ∀ (q5 : Int32) (qs : Hp), iter (fX9_hourRows_l193 x0) FU (q5, qs) = some r38 → R G MX9_hourRows 193 [(0, .ref x0), (5, .int q5)] [] qs (none, w) := fun hX q5 qs hj => loop_R (fX9_hourRows_l193 x0) (fun p193 : Int32 × Hp => R G MX9_hourRows 193 [(0, .ref x0), (5, .int p193.1)] [] p193.2 (none, w)) (fun u193 : Hp => R G MX9_hourRows 221 [] [] u193 (none, w)) (fun a w hw hc he => tX9_hourRows_l193 hw (fun q5 qs e => hc (q5, qs) e) (fun qs e => he qs e)) FU (q5, qs) r38 hj hX
  refine hE ?_ _ _ hi
  clear hE hi
  cases h
  exact R_return rfl DX9_hourRows_221
set_option maxRecDepth 8000 in
theorem kX9_hourRows {G : Gm} {x0 : Nat} {x1 : Int32} {x2 : Int32} {s : Hp} {w : Hp} (h : fX9_hourRows x0 x1 x2 s = some w) : (s.2.2 x0).1 = 9 ∧ Call G MX9_hourRows [.ref x0, .int x1, .int x2] s (none, w) := by
  unfold fX9_hourRows at h
  obtain ⟨_, e0, h⟩ := bind_some h
  refine ⟨ck_some e0, Call.of_R pnRX9 (Nat.le_of_ble_eq_true rfl) ?_⟩
  clear e0
  show R G MX9_hourRows 0 [(0, .ref x0), (1, .int x1), (2, .int x2)] [] s (none, w)
  refine R_iload DX9_hourRows_0 2 rfl ?_
  by_cases c1 : x2 = 0
  · replace h := if_t h c1
    refine R_if_ne_f DX9_hourRows_1 c1 ?_
    refine R_lconst DX9_hourRows_4 ?_
    refine R_goto DX9_hourRows_5 ?_
    exact tX9_hourRows_b11 h
  · replace h := if_f h c1
    refine R_if_ne_t DX9_hourRows_1 c1 ?_
    refine R_ldc2 DX9_hourRows_8 cw_RX9_136 ?_
    exact tX9_hourRows_b11 h
set_option maxRecDepth 8000 in
theorem tX9_ways_b22 {G : Gm} {s : Hp} {w : Int64 × Hp} (h : fX9_ways_b22 s = some w) : R G MX9_ways 22 [] [] s (some (.long w.1), w.2) := by
  unfold fX9_ways_b22 at h
  refine R_ldc2 DX9_ways_22 cw_RX9_483 ?_
  cases h
  exact R_lreturn rfl DX9_ways_25
set_option maxRecDepth 8000 in
theorem tX9_ways_l35 {G : Gm} {x0 : Nat} {x2 : Int32} {o : Option Value × Hp} {a : Int32 × Hp} {w : (Int32 × Hp) ⊕ ((Hp))} (h : fX9_ways_l35 x0 x2 a = some w) (hc : ∀ (q3 : Int32) (qs : Hp), w = .inl (q3, qs) → R G MX9_ways 35 [(0, .ref x0), (2, .int x2), (3, .int q3)] [] qs o) (he0 : ∀ (qs : Hp), w = .inr qs → R G MX9_ways 52 [(0, .ref x0)] [] qs o) : R G MX9_ways 35 [(0, .ref x0), (2, .int x2), (3, .int a.1)] [] a.2 o := by
  unfold fX9_ways_l35 at h
  refine R_iload DX9_ways_35 2 rfl ?_
  refine R_iload DX9_ways_36 1 rfl ?_
  by_cases c7 : x2 < a.1
  · replace h := if_t h c7
    refine R_icmp_gt_t DX9_ways_37 c7 ?_
    refine R.sub (L' := [(0, .ref x0)]) [0] rfl ?_
    cases h
    exact he0 _ rfl
  · replace h := if_f h c7
    refine R_icmp_gt_f DX9_ways_37 c7 ?_
    refine R_aload DX9_ways_40 0 rfl ?_
    refine R_iload DX9_ways_41 2 rfl ?_
    refine R_constI DX9_ways_42 ci_0 ?_
    obtain ⟨s8, es8, h⟩ := bind_some h
    refine R_cV0 [.int a.1, .int (iI 0)] DX9_ways_43 kzvX9_hourRows ml_RX9_489 ⟨Nat.le_of_ble_eq_true rfl, Nat.le_of_ble_eq_true rfl⟩ rfl (Nat.le_of_ble_eq_true rfl) (kX9_hourRows es8) ?_
    refine R_iinc [(3, .int (a.1 + iI 1)), (0, .ref x0), (2, .int x2)] DX9_ways_46 2 rfl (v := a.1 + iI 1) (by rfl) (by decide) rfl ?_
    refine R_goto DX9_ways_49 ?_
    refine R.sub (L' := [(0, .ref x0), (2, .int x2), (3, .int (a.1 + iI 1))]) [1, 2, 0] rfl ?_
    cases h
    exact hc _ _ rfl
set_option maxRecDepth 8000 in
theorem tX9_ways_l57 {G : Gm} {x0 : Nat} {o : Option Value × Hp} {a : Int64 × Int32 × Hp} {w : (Int64 × Int32 × Hp) ⊕ ((Int64 × Hp))} (h : fX9_ways_l57 x0 a = some w) (hc : ∀ (q3 : Int64) (q5 : Int32) (qs : Hp), w = .inl (q3, q5, qs) → R G MX9_ways 57 [(0, .ref x0), (3, .long q3), (5, .int q5)] [] qs o) (he0 : ∀ (q3 : Int64) (qs : Hp), w = .inr (q3, qs) → R G MX9_ways 81 [(3, .long q3)] [] qs o) : R G MX9_ways 57 [(0, .ref x0), (3, .long a.1), (5, .int a.2.1)] [] a.2.2 o := by
  unfold fX9_ways_l57 at h
  refine R_iload DX9_ways_57 2 rfl ?_
  refine R_constI DX9_ways_59 ci_32000 ?_
  by_cases c10 : (iI 32000) ≤ a.2.1
  · replace h := if_t h c10
    refine R_icmp_ge_t DX9_ways_62 c10 ?_
    refine R.sub (L' := [(3, .long a.1)]) [1] rfl ?_
    cases h
    exact he0 _ _ rfl
  · replace h := if_f h c10
    refine R_icmp_ge_f DX9_ways_62 c10 ?_
    refine R_lload DX9_ways_65 1 rfl ?_
    refine R_aload DX9_ways_66 0 rfl ?_
    obtain ⟨v11, ev11, h⟩ := bind_some h
    refine R_gR DX9_ways_67 fl_RX9_83 ev11 ?_
    refine R_iload DX9_ways_70 2 rfl ?_
    obtain ⟨v12, ev12, h⟩ := bind_some h
    refine R_aL DX9_ways_72 ev12 ?_
    refine R_ladd DX9_ways_73 ?_
    obtain ⟨z13, ez13, h⟩ := lt_some h
    refine R_lstoreE ez13 [(3, .long z13), (0, .ref x0), (5, .int a.2.1)] DX9_ways_74 (by decide) rfl ?_
    refine R_iinc [(5, .int (a.2.1 + iI 1)), (3, .long z13), (0, .ref x0)] DX9_ways_75 2 rfl (v := a.2.1 + iI 1) (by rfl) (by decide) rfl ?_
    refine R_goto DX9_ways_78 ?_
    refine R.sub (L' := [(0, .ref x0), (3, .long z13), (5, .int (a.2.1 + iI 1))]) [2, 1, 0] rfl ?_
    cases h
    exact hc _ _ _ rfl
set_option maxRecDepth 8000 in
theorem kX9_ways {G : Gm} {x0 : Nat} {x1 : Int32} {x2 : Int32} {s : Hp} {w : Int64 × Hp} (h : fX9_ways x0 x1 x2 s = some w) : (s.2.2 x0).1 = 9 ∧ Call G MX9_ways [.ref x0, .int x1, .int x2] s (some (.long w.1), w.2) := by
  unfold fX9_ways at h
  obtain ⟨_, e0, h⟩ := bind_some h
  refine ⟨ck_some e0, Call.of_R pnRX9 (Nat.le_of_ble_eq_true rfl) ?_⟩
  clear e0
  show R G MX9_ways 0 [(0, .ref x0), (1, .int x1), (2, .int x2)] [] s (some (.long w.1), w.2)
  refine R_aload DX9_ways_0 0 rfl ?_
  refine R_constI DX9_ways_1 ci_0 ?_
  obtain ⟨s1, es1, h⟩ := bind_some h
  refine R_pI DX9_ways_2 fl_RX9_92 es1 ?_
  refine R_aload DX9_ways_5 0 rfl ?_
  refine R_iload DX9_ways_6 1 rfl ?_
  obtain ⟨r2, er2, h⟩ := bind_some h
  refine R_cV1 [.int x1] DX9_ways_7 kzvX9_isShop ml_RX9_314 ⟨Nat.le_of_ble_eq_true rfl, Nat.le_of_ble_eq_true rfl⟩ rfl (Nat.le_of_ble_eq_true rfl) (kX9_isShop er2) ?_
  by_cases c3 : r2.1 = 0
  · replace h := if_t h c3
    refine R_if_eq_t DX9_ways_10 c3 ?_
    refine R.sub (L' := []) [] rfl ?_
    exact tX9_ways_b22 h
  · replace h := if_f h c3
    refine R_if_eq_f DX9_ways_10 c3 ?_
    refine R_aload DX9_ways_13 0 rfl ?_
    refine R_iload DX9_ways_14 2 rfl ?_
    refine R_i2l DX9_ways_15 ?_
    obtain ⟨r4, er4, h⟩ := bind_some h
    refine R_cV1 [.long (Int32.toInt64 x2)] DX9_ways_16 kzvX9_isHour ml_RX9_305 ⟨Nat.le_of_ble_eq_true rfl, Nat.le_of_ble_eq_true rfl⟩ rfl (Nat.le_of_ble_eq_true rfl) (kX9_isHour er4) ?_
    by_cases c5 : r4.1 = 0
    · replace h := if_t h c5
      refine R_if_ne_f DX9_ways_19 c5 ?_
      refine R.sub (L' := []) [] rfl ?_
      exact tX9_ways_b22 h
    · replace h := if_f h c5
      refine R_if_ne_t DX9_ways_19 c5 ?_
      refine R_aload DX9_ways_26 0 rfl ?_
      refine R_iload DX9_ways_27 1 rfl ?_
      refine R_lconst DX9_ways_28 ?_
      refine R_lconst DX9_ways_29 ?_
      obtain ⟨s6, es6, h⟩ := bind_some h
      refine R_cV0 [.int x1, .long 1, .long 0] DX9_ways_30 kzvX9_startsRows ml_RX9_485 ⟨Nat.le_of_ble_eq_true rfl, Nat.le_of_ble_eq_true rfl⟩ rfl (Nat.le_of_ble_eq_true rfl) (kX9_startsRows es6) ?_
      refine R_constI DX9_ways_33 ci_0 ?_
      refine R_istore [(3, .int (iI 0)), (0, .ref x0), (1, .int x1), (2, .int x2)] DX9_ways_34 (by decide) rfl ?_
      refine R.sub (L' := [(0, .ref x0), (2, .int x2), (3, .int (iI 0))]) [1, 3, 0] rfl ?_
      obtain ⟨r9, hi, h⟩ := bind_some h
      have hE : (fun u35 : Hp => R G MX9_ways 52 [(0, .ref x0)] [] u35 (some (.long w.1), w.2)) r9 → ∀ (q3 : Int32) (qs : Hp), iter (fX9_ways_l35 x0 x2) FU (q3, qs) = some r9 → R G MX9_ways 35 [(0, .ref x0), (2, .int x2), (3, .int q3)] [] qs (some (.long w.1), w.2) := fun hX q3 qs hj => loop_R (fX9_ways_l35 x0 x2) (fun p35 : Int32 × Hp => R G MX9_ways 35 [(0, .ref x0), (2, .int x2), (3, .int p35.1)] [] p35.2 (some (.long w.1), w.2)) (fun u35 : Hp => R G MX9_ways 52 [(0, .ref x0)] [] u35 (some (.long w.1), w.2)) (fun a w hw hc he => tX9_ways_l35 hw (fun q3 qs e => hc (q3, qs) e) (fun qs e => he qs e)) FU (q3, qs) r9 hj hX
      refine hE ?_ _ _ hi
      clear hE hi
      refine R_lconst DX9_ways_52 ?_
      refine R_lstore [(3, .long 0), (0, .ref x0)] DX9_ways_53 (by decide) rfl ?_
      refine R_constI DX9_ways_54 ci_0 ?_
      refine R_istore [(5, .int (iI 0)), (3, .long 0), (0, .ref x0)] DX9_ways_55 (by decide) rfl ?_
      refine R.sub (L' := [(0, .ref x0), (3, .long 0), (5, .int (iI 0))]) [2, 1, 0] rfl ?_
      obtain ⟨r14, hi, h⟩ := bind_some h
      have hE : (fun u57 : Int64 × Hp => R G MX9_ways 81 [(3, .long u57.1)] [] u57.2 (some (.long w.1), w.2)) r14 → ∀ (q3 : Int64) (q5 : Int32) (qs : Hp), iter (fX9_ways_l57 x0) FU (q3, q5, qs) = some r14 → R G MX9_ways 57 [(0, .ref x0), (3, .long q3), (5, .int q5)] [] qs (some (.long w.1), w.2) := fun hX q3 q5 qs hj => loop_R (fX9_ways_l57 x0) (fun p57 : Int64 × Int32 × Hp => R G MX9_ways 57 [(0, .ref x0), (3, .long p57.1), (5, .int p57.2.1)] [] p57.2.2 (some (.long w.1), w.2)) (fun u57 : Int64 × Hp => R G MX9_ways 81 [(3, .long u57.1)] [] u57.2 (some (.long w.1), w.2)) (fun a w hw hc he => tX9_ways_l57 hw (fun q3 q5 qs e => hc (q3, q5, qs) e) (fun q3 qs e => he (q3, qs) e)) FU (q3, q5, qs) r14 hj hX
      refine hE ?_ _ _ _ hi
      clear hE hi
      refine R_lload DX9_ways_81 0 rfl ?_
      cases h
      exact R_lreturn rfl DX9_ways_82
set_option maxRecDepth 8000 in
theorem tX9_mostBy_l11 {G : Gm} {x0 : Nat} {x2 : Int32} {o : Option Value × Hp} {a : Int32 × Hp} {w : (Int32 × Hp) ⊕ ((Hp))} (h : fX9_mostBy_l11 x0 x2 a = some w) (hc : ∀ (q3 : Int32) (qs : Hp), w = .inl (q3, qs) → R G MX9_mostBy 11 [(0, .ref x0), (2, .int x2), (3, .int q3)] [] qs o) (he0 : ∀ (qs : Hp), w = .inr qs → R G MX9_mostBy 33 [(0, .ref x0)] [] qs o) : R G MX9_mostBy 11 [(0, .ref x0), (2, .int x2), (3, .int a.1)] [] a.2 o := by
  unfold fX9_mostBy_l11 at h
  refine R_iload DX9_mostBy_11 2 rfl ?_
  refine R_aload DX9_mostBy_12 0 rfl ?_
  obtain ⟨v2, ev2, h⟩ := bind_some h
  refine R_gR DX9_mostBy_13 fl_RX9_34 ev2 ?_
  refine R_constI DX9_mostBy_16 ci_3 ?_
  obtain ⟨v3, ev3, h⟩ := bind_some h
  refine R_aI DX9_mostBy_17 ev3 ?_
  by_cases c4 : v3 ≤ a.1
  · replace h := if_t h c4
    refine R_icmp_ge_t DX9_mostBy_18 c4 ?_
    refine R.sub (L' := [(0, .ref x0)]) [0] rfl ?_
    cases h
    exact he0 _ rfl
  · replace h := if_f h c4
    refine R_icmp_ge_f DX9_mostBy_18 c4 ?_
    refine R_aload DX9_mostBy_21 0 rfl ?_
    refine R_iload DX9_mostBy_22 2 rfl ?_
    refine R_iload DX9_mostBy_23 1 rfl ?_
    obtain ⟨s5, es5, h⟩ := bind_some h
    refine R_cV0 [.int a.1, .int x2] DX9_mostBy_24 kzvX9_hourRows ml_RX9_489 ⟨Nat.le_of_ble_eq_true rfl, Nat.le_of_ble_eq_true rfl⟩ rfl (Nat.le_of_ble_eq_true rfl) (kX9_hourRows es5) ?_
    refine R_iinc [(3, .int (a.1 + iI 1)), (0, .ref x0), (2, .int x2)] DX9_mostBy_27 2 rfl (v := a.1 + iI 1) (by rfl) (by decide) rfl ?_
    refine R_goto DX9_mostBy_30 ?_
    refine R.sub (L' := [(0, .ref x0), (2, .int x2), (3, .int (a.1 + iI 1))]) [1, 2, 0] rfl ?_
    cases h
    exact hc _ _ rfl
set_option maxRecDepth 8000 in
theorem tX9_mostBy_b69 {G : Gm} {x0 : Nat} {x5 : Int32} {y0 : Int64} {s : Hp} {o : Option Value × Hp} {w : (Int64 × Int32 × Hp) ⊕ ((Int64 × Hp))} (h : fX9_mostBy_b69 x0 x5 y0 s = some w) (hc : ∀ (q3 : Int64) (q5 : Int32) (qs : Hp), w = .inl (q3, q5, qs) → R G MX9_mostBy 38 [(0, .ref x0), (3, .long q3), (5, .int q5)] [] qs o) (he0 : ∀ (q3 : Int64) (qs : Hp), w = .inr (q3, qs) → R G MX9_mostBy 76 [(3, .long q3)] [] qs o) : R G MX9_mostBy 69 [(0, .ref x0), (5, .int x5)] [.long y0] s o := by
  unfold fX9_mostBy_b69 at h
  refine R_lstore [(3, .long y0), (0, .ref x0), (5, .int x5)] DX9_mostBy_69 (by decide) rfl ?_
  refine R_iinc [(5, .int (x5 + iI 1)), (3, .long y0), (0, .ref x0)] DX9_mostBy_70 2 rfl (v := x5 + iI 1) (by rfl) (by decide) rfl ?_
  refine R_goto DX9_mostBy_73 ?_
  refine R.sub (L' := [(0, .ref x0), (3, .long y0), (5, .int (x5 + iI 1))]) [2, 1, 0] rfl ?_
  cases h
  exact hc _ _ _ rfl
set_option maxRecDepth 8000 in
theorem tX9_mostBy_l38 {G : Gm} {x0 : Nat} {o : Option Value × Hp} {a : Int64 × Int32 × Hp} {w : (Int64 × Int32 × Hp) ⊕ ((Int64 × Hp))} (h : fX9_mostBy_l38 x0 a = some w) (hc : ∀ (q3 : Int64) (q5 : Int32) (qs : Hp), w = .inl (q3, q5, qs) → R G MX9_mostBy 38 [(0, .ref x0), (3, .long q3), (5, .int q5)] [] qs o) (he0 : ∀ (q3 : Int64) (qs : Hp), w = .inr (q3, qs) → R G MX9_mostBy 76 [(3, .long q3)] [] qs o) : R G MX9_mostBy 38 [(0, .ref x0), (3, .long a.1), (5, .int a.2.1)] [] a.2.2 o := by
  unfold fX9_mostBy_l38 at h
  refine R_iload DX9_mostBy_38 2 rfl ?_
  refine R_constI DX9_mostBy_40 ci_32000 ?_
  by_cases c7 : (iI 32000) ≤ a.2.1
  · replace h := if_t h c7
    refine R_icmp_ge_t DX9_mostBy_43 c7 ?_
    refine R.sub (L' := [(3, .long a.1)]) [1] rfl ?_
    cases h
    exact he0 _ _ rfl
  · replace h := if_f h c7
    refine R_icmp_ge_f DX9_mostBy_43 c7 ?_
    refine R_aload DX9_mostBy_46 0 rfl ?_
    obtain ⟨v8, ev8, h⟩ := bind_some h
    refine R_gR DX9_mostBy_47 fl_RX9_83 ev8 ?_
    refine R_iload DX9_mostBy_50 2 rfl ?_
    obtain ⟨v9, ev9, h⟩ := bind_some h
    refine R_aL DX9_mostBy_52 ev9 ?_
    refine R_lload DX9_mostBy_53 1 rfl ?_
    refine R_lcmp DX9_mostBy_54 ?_
    by_cases c10 : (lg_cmp v9 a.1) ≤ 0
    · replace h := if_t h c10
      refine R_if_le_t DX9_mostBy_55 c10 ?_
      refine R_lload DX9_mostBy_68 1 rfl ?_
      refine R.sub (L' := [(0, .ref x0), (5, .int a.2.1)]) [0, 2] rfl ?_
      exact tX9_mostBy_b69 h hc he0
    · replace h := if_f h c10
      refine R_if_le_f DX9_mostBy_55 c10 ?_
      refine R_aload DX9_mostBy_58 0 rfl ?_
      obtain ⟨v11, ev11, h⟩ := bind_some h
      refine R_gR DX9_mostBy_59 fl_RX9_83 ev11 ?_
      refine R_iload DX9_mostBy_62 2 rfl ?_
      obtain ⟨v12, ev12, h⟩ := bind_some h
      refine R_aL DX9_mostBy_64 ev12 ?_
      refine R_goto DX9_mostBy_65 ?_
      refine R.sub (L' := [(0, .ref x0), (5, .int a.2.1)]) [0, 2] rfl ?_
      exact tX9_mostBy_b69 h hc he0
set_option maxRecDepth 8000 in
theorem kX9_mostBy {G : Gm} {x0 : Nat} {x1 : Int32} {x2 : Int32} {s : Hp} {w : Int32 × Hp} (h : fX9_mostBy x0 x1 x2 s = some w) : (s.2.2 x0).1 = 9 ∧ Call G MX9_mostBy [.ref x0, .int x1, .int x2] s (some (.int w.1), w.2) := by
  unfold fX9_mostBy at h
  obtain ⟨_, e0, h⟩ := bind_some h
  refine ⟨ck_some e0, Call.of_R pnRX9 (Nat.le_of_ble_eq_true rfl) ?_⟩
  clear e0
  show R G MX9_mostBy 0 [(0, .ref x0), (1, .int x1), (2, .int x2)] [] s (some (.int w.1), w.2)
  refine R_aload DX9_mostBy_0 0 rfl ?_
  refine R_iload DX9_mostBy_1 1 rfl ?_
  refine R_lconst DX9_mostBy_2 ?_
  refine R_ldc2 DX9_mostBy_3 cw_RX9_136 ?_
  obtain ⟨s1, es1, h⟩ := bind_some h
  refine R_cV0 [.int x1, .long 0, .long (-1)] DX9_mostBy_6 kzvX9_startsRows ml_RX9_485 ⟨Nat.le_of_ble_eq_true rfl, Nat.le_of_ble_eq_true rfl⟩ rfl (Nat.le_of_ble_eq_true rfl) (kX9_startsRows es1) ?_
  refine R_constI DX9_mostBy_9 ci_0 ?_
  refine R_istore [(3, .int (iI 0)), (0, .ref x0), (1, .int x1), (2, .int x2)] DX9_mostBy_10 (by decide) rfl ?_
  refine R.sub (L' := [(0, .ref x0), (2, .int x2), (3, .int (iI 0))]) [1, 3, 0] rfl ?_
  obtain ⟨r6, hi, h⟩ := bind_some h
  have hE : (fun u11 : Hp => R G MX9_mostBy 33 [(0, .ref x0)] [] u11 (some (.int w.1), w.2)) r6 → ∀ (q3 : Int32) (qs : Hp), iter (fX9_mostBy_l11 x0 x2) FU (q3, qs) = some r6 → R G MX9_mostBy 11 [(0, .ref x0), (2, .int x2), (3, .int q3)] [] qs (some (.int w.1), w.2) := fun hX q3 qs hj => loop_R (fX9_mostBy_l11 x0 x2) (fun p11 : Int32 × Hp => R G MX9_mostBy 11 [(0, .ref x0), (2, .int x2), (3, .int p11.1)] [] p11.2 (some (.int w.1), w.2)) (fun u11 : Hp => R G MX9_mostBy 33 [(0, .ref x0)] [] u11 (some (.int w.1), w.2)) (fun a w hw hc he => tX9_mostBy_l11 hw (fun q3 qs e => hc (q3, qs) e) (fun qs e => he qs e)) FU (q3, qs) r6 hj hX
  refine hE ?_ _ _ hi
  clear hE hi
  refine R_lconst DX9_mostBy_33 ?_
  refine R_lstore [(3, .long 0), (0, .ref x0)] DX9_mostBy_34 (by decide) rfl ?_
  refine R_constI DX9_mostBy_35 ci_0 ?_
  refine R_istore [(5, .int (iI 0)), (3, .long 0), (0, .ref x0)] DX9_mostBy_36 (by decide) rfl ?_
  refine R.sub (L' := [(0, .ref x0), (3, .long 0), (5, .int (iI 0))]) [2, 1, 0] rfl ?_
  obtain ⟨r13, hi, h⟩ := bind_some h
  have hE : (fun u38 : Int64 × Hp => R G MX9_mostBy 76 [(3, .long u38.1)] [] u38.2 (some (.int w.1), w.2)) r13 → ∀ (q3 : Int64) (q5 : Int32) (qs : Hp), iter (fX9_mostBy_l38 x0) FU (q3, q5, qs) = some r13 → R G MX9_mostBy 38 [(0, .ref x0), (3, .long q3), (5, .int q5)] [] qs (some (.int w.1), w.2) := fun hX q3 q5 qs hj => loop_R (fX9_mostBy_l38 x0) (fun p38 : Int64 × Int32 × Hp => R G MX9_mostBy 38 [(0, .ref x0), (3, .long p38.1), (5, .int p38.2.1)] [] p38.2.2 (some (.int w.1), w.2)) (fun u38 : Int64 × Hp => R G MX9_mostBy 76 [(3, .long u38.1)] [] u38.2 (some (.int w.1), w.2)) (fun a w hw hc he => tX9_mostBy_l38 hw (fun q3 q5 qs e => hc (q3, q5, qs) e) (fun q3 qs e => he (q3, qs) e)) FU (q3, q5, qs) r13 hj hX
  refine hE ?_ _ _ _ hi
  clear hE hi
  refine R_lload DX9_mostBy_76 0 rfl ?_
  refine R_l2i DX9_mostBy_77 ?_
  cases h
  exact R_ireturn rfl DX9_mostBy_78
set_option maxRecDepth 8000 in
theorem kX9_fair {G : Gm} {x0 : Nat} {x1 : Int32} {s : Hp} {w : Int32 × Hp} (h : fX9_fair x0 x1 s = some w) : (s.2.2 x0).1 = 9 ∧ Call G MX9_fair [.ref x0, .int x1] s (some (.int w.1), w.2) := by
  unfold fX9_fair at h
  obtain ⟨_, e0, h⟩ := bind_some h
  refine ⟨ck_some e0, Call.of_R pnRX9 (Nat.le_of_ble_eq_true rfl) ?_⟩
  clear e0
  show R G MX9_fair 0 [(0, .ref x0), (1, .int x1)] [] s (some (.int w.1), w.2)
  refine R_aload DX9_fair_0 0 rfl ?_
  refine R_constI DX9_fair_1 ci_0 ?_
  obtain ⟨s1, es1, h⟩ := bind_some h
  refine R_pI DX9_fair_2 fl_RX9_92 es1 ?_
  refine R_aload DX9_fair_5 0 rfl ?_
  refine R_iload DX9_fair_6 1 rfl ?_
  obtain ⟨r2, er2, h⟩ := bind_some h
  refine R_cV1 [.int x1] DX9_fair_7 kzvX9_isShop ml_RX9_314 ⟨Nat.le_of_ble_eq_true rfl, Nat.le_of_ble_eq_true rfl⟩ rfl (Nat.le_of_ble_eq_true rfl) (kX9_isShop er2) ?_
  by_cases c3 : r2.1 = 0
  · replace h := if_t h c3
    refine R_if_ne_f DX9_fair_10 c3 ?_
    refine R_constI DX9_fair_13 ci_m2 ?_
    refine R_goto DX9_fair_15 ?_
    cases h
    exact R_ireturn rfl DX9_fair_38
  · replace h := if_f h c3
    refine R_if_ne_t DX9_fair_10 c3 ?_
    refine R_aload DX9_fair_18 0 rfl ?_
    obtain ⟨v4, ev4, h⟩ := bind_some h
    refine R_gR DX9_fair_19 fl_RX9_34 ev4 ?_
    refine R_constI DX9_fair_22 ci_9 ?_
    obtain ⟨v5, ev5, h⟩ := bind_some h
    refine R_aI DX9_fair_24 ev5 ?_
    by_cases c6 : v5 = 0
    · replace h := if_t h c6
      refine R_if_ne_f DX9_fair_25 c6 ?_
      refine R_constI DX9_fair_28 ci_m1 ?_
      refine R_goto DX9_fair_29 ?_
      cases h
      exact R_ireturn rfl DX9_fair_38
    · replace h := if_f h c6
      refine R_if_ne_t DX9_fair_25 c6 ?_
      refine R_aload DX9_fair_32 0 rfl ?_
      refine R_iload DX9_fair_33 1 rfl ?_
      refine R_constI DX9_fair_34 ci_1 ?_
      obtain ⟨r7, er7, h⟩ := bind_some h
      refine R_cV1 [.int x1, .int (iI 1)] DX9_fair_35 kzvX9_mostBy ml_RX9_492 ⟨Nat.le_of_ble_eq_true rfl, Nat.le_of_ble_eq_true rfl⟩ rfl (Nat.le_of_ble_eq_true rfl) (kX9_mostBy er7) ?_
      cases h
      exact R_ireturn rfl DX9_fair_38
set_option maxRecDepth 8000 in
theorem kX9_aloft {G : Gm} {x0 : Nat} {x1 : Int32} {s : Hp} {w : Int32 × Hp} (h : fX9_aloft x0 x1 s = some w) : (s.2.2 x0).1 = 9 ∧ Call G MX9_aloft [.ref x0, .int x1] s (some (.int w.1), w.2) := by
  unfold fX9_aloft at h
  obtain ⟨_, e0, h⟩ := bind_some h
  refine ⟨ck_some e0, Call.of_R pnRX9 (Nat.le_of_ble_eq_true rfl) ?_⟩
  clear e0
  show R G MX9_aloft 0 [(0, .ref x0), (1, .int x1)] [] s (some (.int w.1), w.2)
  refine R_aload DX9_aloft_0 0 rfl ?_
  refine R_constI DX9_aloft_1 ci_0 ?_
  obtain ⟨s1, es1, h⟩ := bind_some h
  refine R_pI DX9_aloft_2 fl_RX9_92 es1 ?_
  refine R_aload DX9_aloft_5 0 rfl ?_
  refine R_iload DX9_aloft_6 1 rfl ?_
  obtain ⟨r2, er2, h⟩ := bind_some h
  refine R_cV1 [.int x1] DX9_aloft_7 kzvX9_isShop ml_RX9_314 ⟨Nat.le_of_ble_eq_true rfl, Nat.le_of_ble_eq_true rfl⟩ rfl (Nat.le_of_ble_eq_true rfl) (kX9_isShop er2) ?_
  by_cases c3 : r2.1 = 0
  · replace h := if_t h c3
    refine R_if_eq_t DX9_aloft_10 c3 ?_
    refine R_constI DX9_aloft_22 ci_m2 ?_
    cases h
    exact R_ireturn rfl DX9_aloft_24
  · replace h := if_f h c3
    refine R_if_eq_f DX9_aloft_10 c3 ?_
    refine R_aload DX9_aloft_13 0 rfl ?_
    refine R_iload DX9_aloft_14 1 rfl ?_
    refine R_constI DX9_aloft_15 ci_2 ?_
    obtain ⟨r4, er4, h⟩ := bind_some h
    refine R_cV1 [.int x1, .int (iI 2)] DX9_aloft_16 kzvX9_mostBy ml_RX9_492 ⟨Nat.le_of_ble_eq_true rfl, Nat.le_of_ble_eq_true rfl⟩ rfl (Nat.le_of_ble_eq_true rfl) (kX9_mostBy er4) ?_
    refine R_goto DX9_aloft_19 ?_
    cases h
    exact R_ireturn rfl DX9_aloft_24
set_option maxRecDepth 8000 in
theorem tX9_lasts_b122 {G : Gm} {x0 : Nat} {x2 : Int32} {x3 : Int32} {x5 : Int32} {x6 : Int32} {x7 : Int32} {y0 : Int32} {s : Hp} {o : Option Value × Hp} {w : (Int32 × Int32 × Hp) ⊕ ((Int32 × Hp))} (h : fX9_lasts_b122 x0 x2 x3 x5 x6 x7 y0 s = some w) (hc : ∀ (q4 : Int32) (q7 : Int32) (qs : Hp), w = .inl (q4, q7, qs) → R G MX9_lasts 87 [(0, .ref x0), (2, .int x2), (3, .int x3), (4, .int q4), (5, .int x5), (6, .int x6), (7, .int q7)] [] qs o) (he0 : ∀ (q4 : Int32) (qs : Hp), w = .inr (q4, qs) → R G MX9_lasts 130 [(0, .ref x0), (2, .int x2), (3, .int x3), (4, .int q4), (5, .int x5), (6, .int x6)] [] qs o) : R G MX9_lasts 122 [(0, .ref x0), (2, .int x2), (3, .int x3), (5, .int x5), (6, .int x6), (7, .int x7)] [.int y0] s o := by
  unfold fX9_lasts_b122 at h
  refine R_istore [(4, .int y0), (0, .ref x0), (2, .int x2), (3, .int x3), (5, .int x5), (6, .int x6), (7, .int x7)] DX9_lasts_122 (by decide) rfl ?_
  refine R_iinc [(7, .int (x7 + iI 1)), (4, .int y0), (0, .ref x0), (2, .int x2), (3, .int x3), (5, .int x5), (6, .int x6)] DX9_lasts_124 6 rfl (v := x7 + iI 1) (by rfl) (by decide) rfl ?_
  refine R_goto DX9_lasts_127 ?_
  refine R.sub (L' := [(0, .ref x0), (2, .int x2), (3, .int x3), (4, .int y0), (5, .int x5), (6, .int x6), (7, .int (x7 + iI 1))]) [2, 3, 4, 1, 5, 6, 0] rfl ?_
  cases h
  exact hc _ _ _ rfl
set_option maxRecDepth 8000 in
theorem tX9_lasts_l87 {G : Gm} {x0 : Nat} {x2 : Int32} {x3 : Int32} {x5 : Int32} {x6 : Int32} {o : Option Value × Hp} {a : Int32 × Int32 × Hp} {w : (Int32 × Int32 × Hp) ⊕ ((Int32 × Hp))} (h : fX9_lasts_l87 x0 x2 x3 x5 x6 a = some w) (hc : ∀ (q4 : Int32) (q7 : Int32) (qs : Hp), w = .inl (q4, q7, qs) → R G MX9_lasts 87 [(0, .ref x0), (2, .int x2), (3, .int x3), (4, .int q4), (5, .int x5), (6, .int x6), (7, .int q7)] [] qs o) (he0 : ∀ (q4 : Int32) (qs : Hp), w = .inr (q4, qs) → R G MX9_lasts 130 [(0, .ref x0), (2, .int x2), (3, .int x3), (4, .int q4), (5, .int x5), (6, .int x6)] [] qs o) : R G MX9_lasts 87 [(0, .ref x0), (2, .int x2), (3, .int x3), (4, .int a.1), (5, .int x5), (6, .int x6), (7, .int a.2.1)] [] a.2.2 o := by
  unfold fX9_lasts_l87 at h
  refine R_iload DX9_lasts_87 6 rfl ?_
  refine R_aload DX9_lasts_89 0 rfl ?_
  obtain ⟨v17, ev17, h⟩ := bind_some h
  refine R_gR DX9_lasts_90 fl_RX9_34 ev17 ?_
  refine R_constI DX9_lasts_93 ci_2 ?_
  obtain ⟨v18, ev18, h⟩ := bind_some h
  refine R_aI DX9_lasts_94 ev18 ?_
  by_cases c19 : v18 ≤ a.2.1
  · replace h := if_t h c19
    refine R_icmp_ge_t DX9_lasts_95 c19 ?_
    refine R.sub (L' := [(0, .ref x0), (2, .int x2), (3, .int x3), (4, .int a.1), (5, .int x5), (6, .int x6)]) [0, 1, 2, 3, 4, 5] rfl ?_
    cases h
    exact he0 _ _ rfl
  · replace h := if_f h c19
    refine R_icmp_ge_f DX9_lasts_95 c19 ?_
    refine R_iload DX9_lasts_98 3 rfl ?_
    by_cases c20 : a.1 = 0
    · replace h := if_t h c20
      refine R_if_ne_f DX9_lasts_100 c20 ?_
      refine R_aload DX9_lasts_103 0 rfl ?_
      refine R_iload DX9_lasts_104 4 rfl ?_
      refine R_iload DX9_lasts_106 5 rfl ?_
      refine R_iload DX9_lasts_108 6 rfl ?_
      obtain ⟨r21, er21, h⟩ := bind_some h
      refine R_cV1 [.int x5, .int x6, .int a.2.1] DX9_lasts_110 kzvX9_mostLeft ml_RX9_461 ⟨Nat.le_of_ble_eq_true rfl, Nat.le_of_ble_eq_true rfl⟩ rfl (Nat.le_of_ble_eq_true rfl) (kX9_mostLeft er21) ?_
      refine R_constI DX9_lasts_113 ci_m1 ?_
      by_cases c22 : r21.1 = (iI (-1))
      · replace h := if_t h c22
        refine R_icmp_eq_t DX9_lasts_114 c22 ?_
        refine R_constI DX9_lasts_121 ci_0 ?_
        refine R.sub (L' := [(0, .ref x0), (2, .int x2), (3, .int x3), (5, .int x5), (6, .int x6), (7, .int a.2.1)]) [0, 1, 2, 4, 5, 6] rfl ?_
        exact tX9_lasts_b122 h hc he0
      · replace h := if_f h c22
        refine R_icmp_eq_f DX9_lasts_114 c22 ?_
        refine R_constI DX9_lasts_117 ci_1 ?_
        refine R_goto DX9_lasts_118 ?_
        refine R.sub (L' := [(0, .ref x0), (2, .int x2), (3, .int x3), (5, .int x5), (6, .int x6), (7, .int a.2.1)]) [0, 1, 2, 4, 5, 6] rfl ?_
        exact tX9_lasts_b122 h hc he0
    · replace h := if_f h c20
      refine R_if_ne_t DX9_lasts_100 c20 ?_
      refine R.sub (L' := [(0, .ref x0), (2, .int x2), (3, .int x3), (4, .int a.1), (5, .int x5), (6, .int x6)]) [0, 1, 2, 3, 4, 5] rfl ?_
      cases h
      exact he0 _ _ rfl
set_option maxRecDepth 8000 in
theorem tX9_lasts_b130 {G : Gm} {x0 : Nat} {x2 : Int32} {x3 : Int32} {x4 : Int32} {x5 : Int32} {x6 : Int32} {s : Hp} {o : Option Value × Hp} {w : (Int32 × Int32 × Hp) ⊕ ((Int32 × Hp))} (h : fX9_lasts_b130 x0 x2 x3 x4 x5 x6 s = some w) (hc : ∀ (q4 : Int32) (q6 : Int32) (qs : Hp), w = .inl (q4, q6, qs) → R G MX9_lasts 68 [(0, .ref x0), (2, .int x2), (3, .int x3), (4, .int q4), (5, .int x5), (6, .int q6)] [] qs o) (he0 : ∀ (q4 : Int32) (qs : Hp), w = .inr (q4, qs) → R G MX9_lasts 136 [(0, .ref x0), (2, .int x2), (3, .int x3), (4, .int q4), (5, .int x5)] [] qs o) : R G MX9_lasts 130 [(0, .ref x0), (2, .int x2), (3, .int x3), (4, .int x4), (5, .int x5), (6, .int x6)] [] s o := by
  unfold fX9_lasts_b130 at h
  refine R_iinc [(6, .int (x6 + iI 1)), (0, .ref x0), (2, .int x2), (3, .int x3), (4, .int x4), (5, .int x5)] DX9_lasts_130 5 rfl (v := x6 + iI 1) (by rfl) (by decide) rfl ?_
  refine R_goto DX9_lasts_133 ?_
  refine R.sub (L' := [(0, .ref x0), (2, .int x2), (3, .int x3), (4, .int x4), (5, .int x5), (6, .int (x6 + iI 1))]) [1, 2, 3, 4, 5, 0] rfl ?_
  cases h
  exact hc _ _ _ rfl
set_option maxRecDepth 8000 in
theorem tX9_lasts_l68 {G : Gm} {x0 : Nat} {x2 : Int32} {x3 : Int32} {x5 : Int32} {o : Option Value × Hp} {a : Int32 × Int32 × Hp} {w : (Int32 × Int32 × Hp) ⊕ ((Int32 × Hp))} (h : fX9_lasts_l68 x0 x2 x3 x5 a = some w) (hc : ∀ (q4 : Int32) (q6 : Int32) (qs : Hp), w = .inl (q4, q6, qs) → R G MX9_lasts 68 [(0, .ref x0), (2, .int x2), (3, .int x3), (4, .int q4), (5, .int x5), (6, .int q6)] [] qs o) (he0 : ∀ (q4 : Int32) (qs : Hp), w = .inr (q4, qs) → R G MX9_lasts 136 [(0, .ref x0), (2, .int x2), (3, .int x3), (4, .int q4), (5, .int x5)] [] qs o) : R G MX9_lasts 68 [(0, .ref x0), (2, .int x2), (3, .int x3), (4, .int a.1), (5, .int x5), (6, .int a.2.1)] [] a.2.2 o := by
  unfold fX9_lasts_l68 at h
  refine R_iload DX9_lasts_68 5 rfl ?_
  refine R_aload DX9_lasts_70 0 rfl ?_
  obtain ⟨v13, ev13, h⟩ := bind_some h
  refine R_gR DX9_lasts_71 fl_RX9_34 ev13 ?_
  refine R_constI DX9_lasts_74 ci_1 ?_
  obtain ⟨v14, ev14, h⟩ := bind_some h
  refine R_aI DX9_lasts_75 ev14 ?_
  by_cases c15 : v14 ≤ a.2.1
  · replace h := if_t h c15
    refine R_icmp_ge_t DX9_lasts_76 c15 ?_
    refine R.sub (L' := [(0, .ref x0), (2, .int x2), (3, .int x3), (4, .int a.1), (5, .int x5)]) [0, 1, 2, 3, 4] rfl ?_
    cases h
    exact he0 _ _ rfl
  · replace h := if_f h c15
    refine R_icmp_ge_f DX9_lasts_76 c15 ?_
    refine R_iload DX9_lasts_79 3 rfl ?_
    by_cases c16 : a.1 = 0
    · replace h := if_t h c16
      refine R_if_ne_f DX9_lasts_81 c16 ?_
      refine R_constI DX9_lasts_84 ci_1 ?_
      refine R_istore [(7, .int (iI 1)), (0, .ref x0), (2, .int x2), (3, .int x3), (4, .int a.1), (5, .int x5), (6, .int a.2.1)] DX9_lasts_85 (by decide) rfl ?_
      refine R.sub (L' := [(0, .ref x0), (2, .int x2), (3, .int x3), (4, .int a.1), (5, .int x5), (6, .int a.2.1), (7, .int (iI 1))]) [1, 2, 3, 4, 5, 6, 0] rfl ?_
      obtain ⟨r23, hi, h⟩ := bind_some h
      have hE : (fun u87 : Int32 × Hp => R G MX9_lasts 130 [(0, .ref x0), (2, .int x2), (3, .int x3), (4, .int u87.1), (5, .int x5), (6, .int a.2.1)] [] u87.2 o) r23 → ∀ (q4 : Int32) (q7 : Int32) (qs : Hp), iter (fX9_lasts_l87 x0 x2 x3 x5 a.2.1) FU (q4, q7, qs) = some r23 → R G MX9_lasts 87 [(0, .ref x0), (2, .int x2), (3, .int x3), (4, .int q4), (5, .int x5), (6, .int a.2.1), (7, .int q7)] [] qs o := fun hX q4 q7 qs hj => loop_R (fX9_lasts_l87 x0 x2 x3 x5 a.2.1) (fun p87 : Int32 × Int32 × Hp => R G MX9_lasts 87 [(0, .ref x0), (2, .int x2), (3, .int x3), (4, .int p87.1), (5, .int x5), (6, .int a.2.1), (7, .int p87.2.1)] [] p87.2.2 o) (fun u87 : Int32 × Hp => R G MX9_lasts 130 [(0, .ref x0), (2, .int x2), (3, .int x3), (4, .int u87.1), (5, .int x5), (6, .int a.2.1)] [] u87.2 o) (fun a w hw hc he => tX9_lasts_l87 hw (fun q4 q7 qs e => hc (q4, q7, qs) e) (fun q4 qs e => he (q4, qs) e)) FU (q4, q7, qs) r23 hj hX
      refine hE ?_ _ _ _ hi
      clear hE hi
      exact tX9_lasts_b130 h hc he0
    · replace h := if_f h c16
      refine R_if_ne_t DX9_lasts_81 c16 ?_
      refine R.sub (L' := [(0, .ref x0), (2, .int x2), (3, .int x3), (4, .int a.1), (5, .int x5)]) [0, 1, 2, 3, 4] rfl ?_
      cases h
      exact he0 _ _ rfl
set_option maxRecDepth 8000 in
theorem tX9_lasts_b136 {G : Gm} {x0 : Nat} {x2 : Int32} {x3 : Int32} {x4 : Int32} {x5 : Int32} {s : Hp} {o : Option Value × Hp} {w : (Int32 × Int32 × Hp) ⊕ ((Int32 × Hp))} (h : fX9_lasts_b136 x0 x2 x3 x4 x5 s = some w) (hc : ∀ (q4 : Int32) (q5 : Int32) (qs : Hp), w = .inl (q4, q5, qs) → R G MX9_lasts 49 [(0, .ref x0), (2, .int x2), (3, .int x3), (4, .int q4), (5, .int q5)] [] qs o) (he0 : ∀ (q4 : Int32) (qs : Hp), w = .inr (q4, qs) → R G MX9_lasts 142 [(0, .ref x0), (2, .int x2), (3, .int x3), (4, .int q4)] [] qs o) : R G MX9_lasts 136 [(0, .ref x0), (2, .int x2), (3, .int x3), (4, .int x4), (5, .int x5)] [] s o := by
  unfold fX9_lasts_b136 at h
  refine R_iinc [(5, .int (x5 + iI 1)), (0, .ref x0), (2, .int x2), (3, .int x3), (4, .int x4)] DX9_lasts_136 4 rfl (v := x5 + iI 1) (by rfl) (by decide) rfl ?_
  refine R_goto DX9_lasts_139 ?_
  refine R.sub (L' := [(0, .ref x0), (2, .int x2), (3, .int x3), (4, .int x4), (5, .int (x5 + iI 1))]) [1, 2, 3, 4, 0] rfl ?_
  cases h
  exact hc _ _ _ rfl
set_option maxRecDepth 8000 in
theorem tX9_lasts_l49 {G : Gm} {x0 : Nat} {x2 : Int32} {x3 : Int32} {o : Option Value × Hp} {a : Int32 × Int32 × Hp} {w : (Int32 × Int32 × Hp) ⊕ ((Int32 × Hp))} (h : fX9_lasts_l49 x0 x2 x3 a = some w) (hc : ∀ (q4 : Int32) (q5 : Int32) (qs : Hp), w = .inl (q4, q5, qs) → R G MX9_lasts 49 [(0, .ref x0), (2, .int x2), (3, .int x3), (4, .int q4), (5, .int q5)] [] qs o) (he0 : ∀ (q4 : Int32) (qs : Hp), w = .inr (q4, qs) → R G MX9_lasts 142 [(0, .ref x0), (2, .int x2), (3, .int x3), (4, .int q4)] [] qs o) : R G MX9_lasts 49 [(0, .ref x0), (2, .int x2), (3, .int x3), (4, .int a.1), (5, .int a.2.1)] [] a.2.2 o := by
  unfold fX9_lasts_l49 at h
  refine R_iload DX9_lasts_49 4 rfl ?_
  refine R_aload DX9_lasts_51 0 rfl ?_
  obtain ⟨v9, ev9, h⟩ := bind_some h
  refine R_gR DX9_lasts_52 fl_RX9_34 ev9 ?_
  refine R_constI DX9_lasts_55 ci_0 ?_
  obtain ⟨v10, ev10, h⟩ := bind_some h
  refine R_aI DX9_lasts_56 ev10 ?_
  by_cases c11 : v10 ≤ a.2.1
  · replace h := if_t h c11
    refine R_icmp_ge_t DX9_lasts_57 c11 ?_
    refine R.sub (L' := [(0, .ref x0), (2, .int x2), (3, .int x3), (4, .int a.1)]) [0, 1, 2, 3] rfl ?_
    cases h
    exact he0 _ _ rfl
  · replace h := if_f h c11
    refine R_icmp_ge_f DX9_lasts_57 c11 ?_
    refine R_iload DX9_lasts_60 3 rfl ?_
    by_cases c12 : a.1 = 0
    · replace h := if_t h c12
      refine R_if_ne_f DX9_lasts_62 c12 ?_
      refine R_constI DX9_lasts_65 ci_0 ?_
      refine R_istore [(6, .int (iI 0)), (0, .ref x0), (2, .int x2), (3, .int x3), (4, .int a.1), (5, .int a.2.1)] DX9_lasts_66 (by decide) rfl ?_
      refine R.sub (L' := [(0, .ref x0), (2, .int x2), (3, .int x3), (4, .int a.1), (5, .int a.2.1), (6, .int (iI 0))]) [1, 2, 3, 4, 5, 0] rfl ?_
      obtain ⟨r24, hi, h⟩ := bind_some h
      have hE : (fun u68 : Int32 × Hp => R G MX9_lasts 136 [(0, .ref x0), (2, .int x2), (3, .int x3), (4, .int u68.1), (5, .int a.2.1)] [] u68.2 o) r24 → ∀ (q4 : Int32) (q6 : Int32) (qs : Hp), iter (fX9_lasts_l68 x0 x2 x3 a.2.1) FU (q4, q6, qs) = some r24 → R G MX9_lasts 68 [(0, .ref x0), (2, .int x2), (3, .int x3), (4, .int q4), (5, .int a.2.1), (6, .int q6)] [] qs o := fun hX q4 q6 qs hj => loop_R (fX9_lasts_l68 x0 x2 x3 a.2.1) (fun p68 : Int32 × Int32 × Hp => R G MX9_lasts 68 [(0, .ref x0), (2, .int x2), (3, .int x3), (4, .int p68.1), (5, .int a.2.1), (6, .int p68.2.1)] [] p68.2.2 o) (fun u68 : Int32 × Hp => R G MX9_lasts 136 [(0, .ref x0), (2, .int x2), (3, .int x3), (4, .int u68.1), (5, .int a.2.1)] [] u68.2 o) (fun a w hw hc he => tX9_lasts_l68 hw (fun q4 q6 qs e => hc (q4, q6, qs) e) (fun q4 qs e => he (q4, qs) e)) FU (q4, q6, qs) r24 hj hX
      refine hE ?_ _ _ _ hi
      clear hE hi
      exact tX9_lasts_b136 h hc he0
    · replace h := if_f h c12
      refine R_if_ne_t DX9_lasts_62 c12 ?_
      refine R.sub (L' := [(0, .ref x0), (2, .int x2), (3, .int x3), (4, .int a.1)]) [0, 1, 2, 3] rfl ?_
      cases h
      exact he0 _ _ rfl
set_option maxRecDepth 8000 in
theorem tX9_lasts_b152 {G : Gm} {x0 : Nat} {x3 : Int32} {y0 : Int32} {s : Hp} {o : Option Value × Hp} {w : (Int32 × Int32 × Hp) ⊕ ((Int32 × Hp))} (h : fX9_lasts_b152 x0 x3 y0 s = some w) (hc : ∀ (q2 : Int32) (q3 : Int32) (qs : Hp), w = .inl (q2, q3, qs) → R G MX9_lasts 28 [(0, .ref x0), (2, .int q2), (3, .int q3)] [] qs o) (he0 : ∀ (q2 : Int32) (qs : Hp), w = .inr (q2, qs) → R G MX9_lasts 159 [(2, .int q2)] [] qs o) : R G MX9_lasts 152 [(0, .ref x0), (3, .int x3)] [.int y0] s o := by
  unfold fX9_lasts_b152 at h
  refine R_istore [(2, .int y0), (0, .ref x0), (3, .int x3)] DX9_lasts_152 (by decide) rfl ?_
  refine R_iinc [(3, .int (x3 + iI 1)), (2, .int y0), (0, .ref x0)] DX9_lasts_153 2 rfl (v := x3 + iI 1) (by rfl) (by decide) rfl ?_
  refine R_goto DX9_lasts_156 ?_
  refine R.sub (L' := [(0, .ref x0), (2, .int y0), (3, .int (x3 + iI 1))]) [2, 1, 0] rfl ?_
  cases h
  exact hc _ _ _ rfl
set_option maxRecDepth 8000 in
theorem tX9_lasts_b142 {G : Gm} {x0 : Nat} {x2 : Int32} {x3 : Int32} {x4 : Int32} {s : Hp} {o : Option Value × Hp} {w : (Int32 × Int32 × Hp) ⊕ ((Int32 × Hp))} (h : fX9_lasts_b142 x0 x2 x3 x4 s = some w) (hc : ∀ (q2 : Int32) (q3 : Int32) (qs : Hp), w = .inl (q2, q3, qs) → R G MX9_lasts 28 [(0, .ref x0), (2, .int q2), (3, .int q3)] [] qs o) (he0 : ∀ (q2 : Int32) (qs : Hp), w = .inr (q2, qs) → R G MX9_lasts 159 [(2, .int q2)] [] qs o) : R G MX9_lasts 142 [(0, .ref x0), (2, .int x2), (3, .int x3), (4, .int x4)] [] s o := by
  unfold fX9_lasts_b142 at h
  refine R_iload DX9_lasts_142 3 rfl ?_
  by_cases c26 : x4 = 0
  · replace h := if_t h c26
    refine R_if_eq_t DX9_lasts_144 c26 ?_
    refine R_iload DX9_lasts_151 1 rfl ?_
    refine R.sub (L' := [(0, .ref x0), (3, .int x3)]) [0, 2] rfl ?_
    exact tX9_lasts_b152 h hc he0
  · replace h := if_f h c26
    refine R_if_eq_f DX9_lasts_144 c26 ?_
    refine R_iload DX9_lasts_147 2 rfl ?_
    refine R_goto DX9_lasts_148 ?_
    refine R.sub (L' := [(0, .ref x0), (3, .int x3)]) [0, 2] rfl ?_
    exact tX9_lasts_b152 h hc he0
set_option maxRecDepth 8000 in
theorem tX9_lasts_l28 {G : Gm} {x0 : Nat} {o : Option Value × Hp} {a : Int32 × Int32 × Hp} {w : (Int32 × Int32 × Hp) ⊕ ((Int32 × Hp))} (h : fX9_lasts_l28 x0 a = some w) (hc : ∀ (q2 : Int32) (q3 : Int32) (qs : Hp), w = .inl (q2, q3, qs) → R G MX9_lasts 28 [(0, .ref x0), (2, .int q2), (3, .int q3)] [] qs o) (he0 : ∀ (q2 : Int32) (qs : Hp), w = .inr (q2, qs) → R G MX9_lasts 159 [(2, .int q2)] [] qs o) : R G MX9_lasts 28 [(0, .ref x0), (2, .int a.1), (3, .int a.2.1)] [] a.2.2 o := by
  unfold fX9_lasts_l28 at h
  refine R_iload DX9_lasts_28 2 rfl ?_
  refine R_aload DX9_lasts_29 0 rfl ?_
  obtain ⟨v5, ev5, h⟩ := bind_some h
  refine R_gR DX9_lasts_30 fl_RX9_34 ev5 ?_
  refine R_constI DX9_lasts_33 ci_3 ?_
  obtain ⟨v6, ev6, h⟩ := bind_some h
  refine R_aI DX9_lasts_34 ev6 ?_
  by_cases c7 : v6 ≤ a.2.1
  · replace h := if_t h c7
    refine R_icmp_ge_t DX9_lasts_35 c7 ?_
    refine R.sub (L' := [(2, .int a.1)]) [1] rfl ?_
    cases h
    exact he0 _ _ rfl
  · replace h := if_f h c7
    refine R_icmp_ge_f DX9_lasts_35 c7 ?_
    refine R_aload DX9_lasts_38 0 rfl ?_
    refine R_iload DX9_lasts_39 2 rfl ?_
    obtain ⟨s8, es8, h⟩ := bind_some h
    refine R_cV0 [.int a.2.1] DX9_lasts_40 kzvX9_hourFree ml_RX9_464 ⟨Nat.le_of_ble_eq_true rfl, Nat.le_of_ble_eq_true rfl⟩ rfl (Nat.le_of_ble_eq_true rfl) (kX9_hourFree es8) ?_
    refine R_constI DX9_lasts_43 ci_0 ?_
    refine R_istore [(4, .int (iI 0)), (0, .ref x0), (2, .int a.1), (3, .int a.2.1)] DX9_lasts_44 (by decide) rfl ?_
    refine R_constI DX9_lasts_46 ci_0 ?_
    refine R_istore [(5, .int (iI 0)), (4, .int (iI 0)), (0, .ref x0), (2, .int a.1), (3, .int a.2.1)] DX9_lasts_47 (by decide) rfl ?_
    refine R.sub (L' := [(0, .ref x0), (2, .int a.1), (3, .int a.2.1), (4, .int (iI 0)), (5, .int (iI 0))]) [2, 3, 4, 1, 0] rfl ?_
    obtain ⟨r25, hi, h⟩ := bind_some h
    have hE : (fun u49 : Int32 × Hp => R G MX9_lasts 142 [(0, .ref x0), (2, .int a.1), (3, .int a.2.1), (4, .int u49.1)] [] u49.2 o) r25 → ∀ (q4 : Int32) (q5 : Int32) (qs : Hp), iter (fX9_lasts_l49 x0 a.1 a.2.1) FU (q4, q5, qs) = some r25 → R G MX9_lasts 49 [(0, .ref x0), (2, .int a.1), (3, .int a.2.1), (4, .int q4), (5, .int q5)] [] qs o := fun hX q4 q5 qs hj => loop_R (fX9_lasts_l49 x0 a.1 a.2.1) (fun p49 : Int32 × Int32 × Hp => R G MX9_lasts 49 [(0, .ref x0), (2, .int a.1), (3, .int a.2.1), (4, .int p49.1), (5, .int p49.2.1)] [] p49.2.2 o) (fun u49 : Int32 × Hp => R G MX9_lasts 142 [(0, .ref x0), (2, .int a.1), (3, .int a.2.1), (4, .int u49.1)] [] u49.2 o) (fun a w hw hc he => tX9_lasts_l49 hw (fun q4 q5 qs e => hc (q4, q5, qs) e) (fun q4 qs e => he (q4, qs) e)) FU (q4, q5, qs) r25 hj hX
    refine hE ?_ _ _ _ hi
    clear hE hi
    exact tX9_lasts_b142 h hc he0
set_option maxRecDepth 8000 in
theorem kX9_lasts {G : Gm} {x0 : Nat} {x1 : Int32} {s : Hp} {w : Int32 × Hp} (h : fX9_lasts x0 x1 s = some w) : (s.2.2 x0).1 = 9 ∧ Call G MX9_lasts [.ref x0, .int x1] s (some (.int w.1), w.2) := by
  unfold fX9_lasts at h
  obtain ⟨_, e0, h⟩ := bind_some h
  refine ⟨ck_some e0, Call.of_R pnRX9 (Nat.le_of_ble_eq_true rfl) ?_⟩
  clear e0
  show R G MX9_lasts 0 [(0, .ref x0), (1, .int x1)] [] s (some (.int w.1), w.2)
  refine R_aload DX9_lasts_0 0 rfl ?_
  refine R_constI DX9_lasts_1 ci_0 ?_
  obtain ⟨s1, es1, h⟩ := bind_some h
  refine R_pI DX9_lasts_2 fl_RX9_92 es1 ?_
  refine R_aload DX9_lasts_5 0 rfl ?_
  refine R_iload DX9_lasts_6 1 rfl ?_
  obtain ⟨r2, er2, h⟩ := bind_some h
  refine R_cV1 [.int x1] DX9_lasts_7 kzvX9_isShop ml_RX9_314 ⟨Nat.le_of_ble_eq_true rfl, Nat.le_of_ble_eq_true rfl⟩ rfl (Nat.le_of_ble_eq_true rfl) (kX9_isShop er2) ?_
  by_cases c3 : r2.1 = 0
  · replace h := if_t h c3
    refine R_if_ne_f DX9_lasts_10 c3 ?_
    refine R_constI DX9_lasts_13 ci_m2 ?_
    cases h
    exact R_ireturn rfl DX9_lasts_15
  · replace h := if_f h c3
    refine R_if_ne_t DX9_lasts_10 c3 ?_
    refine R_aload DX9_lasts_16 0 rfl ?_
    refine R_iload DX9_lasts_17 1 rfl ?_
    refine R_constI DX9_lasts_18 ci_9 ?_
    refine R_constI DX9_lasts_20 ci_0 ?_
    obtain ⟨s4, es4, h⟩ := bind_some h
    refine R_cV0 [.int x1, .int (iI 9), .int (iI 0)] DX9_lasts_21 kzvX9_starts ml_RX9_458 ⟨Nat.le_of_ble_eq_true rfl, Nat.le_of_ble_eq_true rfl⟩ rfl (Nat.le_of_ble_eq_true rfl) (kX9_starts es4) ?_
    refine R_constI DX9_lasts_24 ci_m1 ?_
    refine R_istore [(2, .int (iI (-1))), (0, .ref x0), (1, .int x1)] DX9_lasts_25 (by decide) rfl ?_
    refine R_constI DX9_lasts_26 ci_0 ?_
    refine R_istore [(3, .int (iI 0)), (2, .int (iI (-1))), (0, .ref x0), (1, .int x1)] DX9_lasts_27 (by decide) rfl ?_
    refine R.sub (L' := [(0, .ref x0), (2, .int (iI (-1))), (3, .int (iI 0))]) [2, 1, 0] rfl ?_
    obtain ⟨r27, hi, h⟩ := bind_some h
    have hE : (fun u28 : Int32 × Hp => R G MX9_lasts 159 [(2, .int u28.1)] [] u28.2 (some (.int w.1), w.2)) r27 → ∀ (q2 : Int32) (q3 : Int32) (qs : Hp), iter (fX9_lasts_l28 x0) FU (q2, q3, qs) = some r27 → R G MX9_lasts 28 [(0, .ref x0), (2, .int q2), (3, .int q3)] [] qs (some (.int w.1), w.2) := fun hX q2 q3 qs hj => loop_R (fX9_lasts_l28 x0) (fun p28 : Int32 × Int32 × Hp => R G MX9_lasts 28 [(0, .ref x0), (2, .int p28.1), (3, .int p28.2.1)] [] p28.2.2 (some (.int w.1), w.2)) (fun u28 : Int32 × Hp => R G MX9_lasts 159 [(2, .int u28.1)] [] u28.2 (some (.int w.1), w.2)) (fun a w hw hc he => tX9_lasts_l28 hw (fun q2 q3 qs e => hc (q2, q3, qs) e) (fun q2 qs e => he (q2, qs) e)) FU (q2, q3, qs) r27 hj hX
    refine hE ?_ _ _ _ hi
    clear hE hi
    refine R_iload DX9_lasts_159 0 rfl ?_
    cases h
    exact R_ireturn rfl DX9_lasts_160
set_option maxRecDepth 8000 in
theorem tX9_tourLeft_b61 {G : Gm} {x0 : Nat} {x1 : Int32} {x2 : Int32} {x3 : Int32} {x4 : Int64} {s : Hp} {o : Option Value × Hp} {w : (Int32 × Int64 × Hp) ⊕ ((Int32 × Hp))} (h : fX9_tourLeft_b61 x0 x1 x2 x3 x4 s = some w) (hc : ∀ (q2 : Int32) (q4 : Int64) (qs : Hp), w = .inl (q2, q4, qs) → R G MX9_tourLeft 19 [(0, .ref x0), (1, .int x1), (2, .int q2), (3, .int x3), (4, .long q4)] [] qs o) (he0 : ∀ (q2 : Int32) (qs : Hp), w = .inr (q2, qs) → R G MX9_tourLeft 73 [(0, .ref x0), (1, .int x1), (2, .int q2), (3, .int x3)] [] qs o) : R G MX9_tourLeft 61 [(0, .ref x0), (1, .int x1), (2, .int x2), (3, .int x3), (4, .long x4)] [] s o := by
  unfold fX9_tourLeft_b61 at h
  refine R_lload DX9_tourLeft_61 4 rfl ?_
  refine R_lload DX9_tourLeft_63 4 rfl ?_
  refine R_lconst DX9_tourLeft_65 ?_
  refine R_lsub DX9_tourLeft_66 ?_
  refine R_land DX9_tourLeft_67 ?_
  obtain ⟨z9, ez9, h⟩ := lt_some h
  refine R_lstoreE ez9 [(4, .long z9), (0, .ref x0), (1, .int x1), (2, .int x2), (3, .int x3)] DX9_tourLeft_68 (by decide) rfl ?_
  refine R_goto DX9_tourLeft_70 ?_
  refine R.sub (L' := [(0, .ref x0), (1, .int x1), (2, .int x2), (3, .int x3), (4, .long z9)]) [1, 2, 3, 4, 0] rfl ?_
  cases h
  exact hc _ _ _ rfl
set_option maxRecDepth 8000 in
theorem tX9_tourLeft_l19 {G : Gm} {x0 : Nat} {x1 : Int32} {x3 : Int32} {o : Option Value × Hp} {a : Int32 × Int64 × Hp} {w : (Int32 × Int64 × Hp) ⊕ ((Int32 × Hp))} (h : fX9_tourLeft_l19 x0 x1 x3 a = some w) (hc : ∀ (q2 : Int32) (q4 : Int64) (qs : Hp), w = .inl (q2, q4, qs) → R G MX9_tourLeft 19 [(0, .ref x0), (1, .int x1), (2, .int q2), (3, .int x3), (4, .long q4)] [] qs o) (he0 : ∀ (q2 : Int32) (qs : Hp), w = .inr (q2, qs) → R G MX9_tourLeft 73 [(0, .ref x0), (1, .int x1), (2, .int q2), (3, .int x3)] [] qs o) : R G MX9_tourLeft 19 [(0, .ref x0), (1, .int x1), (2, .int a.1), (3, .int x3), (4, .long a.2.1)] [] a.2.2 o := by
  unfold fX9_tourLeft_l19 at h
  refine R_lload DX9_tourLeft_19 4 rfl ?_
  refine R_lconst DX9_tourLeft_21 ?_
  refine R_lcmp DX9_tourLeft_22 ?_
  by_cases c4 : (lg_cmp a.2.1 0) = 0
  · replace h := if_t h c4
    refine R_if_eq_t DX9_tourLeft_23 c4 ?_
    refine R.sub (L' := [(0, .ref x0), (1, .int x1), (2, .int a.1), (3, .int x3)]) [0, 1, 2, 3] rfl ?_
    cases h
    exact he0 _ _ rfl
  · replace h := if_f h c4
    refine R_if_eq_f DX9_tourLeft_23 c4 ?_
    refine R_aload DX9_tourLeft_26 0 rfl ?_
    refine R_constI DX9_tourLeft_27 ci_64 ?_
    refine R_iload DX9_tourLeft_29 3 rfl ?_
    refine R_imul DX9_tourLeft_30 ?_
    refine R_lload DX9_tourLeft_31 4 rfl ?_
    obtain ⟨r5, er5, h⟩ := bind_some h
    refine R_cS1 [.long a.2.1] DX9_tourLeft_33 kzsX9_lowest ml_RX9_442 ⟨Nat.le_of_ble_eq_true rfl, Nat.le_of_ble_eq_true rfl⟩ rfl (Nat.le_of_ble_eq_true rfl) (kX9_lowest er5) ?_
    refine R_iadd DX9_tourLeft_36 ?_
    obtain ⟨s6, es6, h⟩ := bind_some h
    refine R_cV0 [.int (((iI 64) * x3) + r5.1)] DX9_tourLeft_37 kzvX9_reads_ ml_RX9_446 ⟨Nat.le_of_ble_eq_true rfl, Nat.le_of_ble_eq_true rfl⟩ rfl (Nat.le_of_ble_eq_true rfl) (kX9_reads_ es6) ?_
    refine R_aload DX9_tourLeft_40 0 rfl ?_
    obtain ⟨v7, ev7, h⟩ := bind_some h
    refine R_gI DX9_tourLeft_41 fl_RX9_420 ev7 ?_
    refine R_iload DX9_tourLeft_44 1 rfl ?_
    by_cases c8 : v7 = x1
    · replace h := if_t h c8
      refine R_icmp_ne_f DX9_tourLeft_45 c8 ?_
      refine R_aload DX9_tourLeft_48 0 rfl ?_
      obtain ⟨v10, ev10, h⟩ := bind_some h
      refine R_gI DX9_tourLeft_49 fl_RX9_414 ev10 ?_
      refine R_iload DX9_tourLeft_52 2 rfl ?_
      by_cases c11 : v10 ≤ a.1
      · replace h := if_t h c11
        refine R_icmp_le_t DX9_tourLeft_53 c11 ?_
        exact tX9_tourLeft_b61 h hc he0
      · replace h := if_f h c11
        refine R_icmp_le_f DX9_tourLeft_53 c11 ?_
        refine R_aload DX9_tourLeft_56 0 rfl ?_
        obtain ⟨v12, ev12, h⟩ := bind_some h
        refine R_gI DX9_tourLeft_57 fl_RX9_414 ev12 ?_
        refine R_istore [(2, .int v12), (0, .ref x0), (1, .int x1), (3, .int x3), (4, .long a.2.1)] DX9_tourLeft_60 (by decide) rfl ?_
        refine R.sub (L' := [(0, .ref x0), (1, .int x1), (2, .int v12), (3, .int x3), (4, .long a.2.1)]) [1, 2, 0, 3, 4] rfl ?_
        exact tX9_tourLeft_b61 h hc he0
    · replace h := if_f h c8
      refine R_icmp_ne_t DX9_tourLeft_45 c8 ?_
      exact tX9_tourLeft_b61 h hc he0
set_option maxRecDepth 8000 in
theorem tX9_tourLeft_l4 {G : Gm} {x0 : Nat} {x1 : Int32} {o : Option Value × Hp} {a : Int32 × Int32 × Hp} {w : (Int32 × Int32 × Hp) ⊕ ((Int32 × Hp))} (h : fX9_tourLeft_l4 x0 x1 a = some w) (hc : ∀ (q2 : Int32) (q3 : Int32) (qs : Hp), w = .inl (q2, q3, qs) → R G MX9_tourLeft 4 [(0, .ref x0), (1, .int x1), (2, .int q2), (3, .int q3)] [] qs o) (he0 : ∀ (q2 : Int32) (qs : Hp), w = .inr (q2, qs) → R G MX9_tourLeft 79 [(2, .int q2)] [] qs o) : R G MX9_tourLeft 4 [(0, .ref x0), (1, .int x1), (2, .int a.1), (3, .int a.2.1)] [] a.2.2 o := by
  unfold fX9_tourLeft_l4 at h
  refine R_iload DX9_tourLeft_4 3 rfl ?_
  refine R_constI DX9_tourLeft_5 ci_16000 ?_
  by_cases c1 : (iI 16000) ≤ a.2.1
  · replace h := if_t h c1
    refine R_icmp_ge_t DX9_tourLeft_8 c1 ?_
    refine R.sub (L' := [(2, .int a.1)]) [2] rfl ?_
    cases h
    exact he0 _ _ rfl
  · replace h := if_f h c1
    refine R_icmp_ge_f DX9_tourLeft_8 c1 ?_
    refine R_aload DX9_tourLeft_11 0 rfl ?_
    obtain ⟨v2, ev2, h⟩ := bind_some h
    refine R_gR DX9_tourLeft_12 fl_RX9_77 ev2 ?_
    refine R_iload DX9_tourLeft_15 3 rfl ?_
    obtain ⟨v3, ev3, h⟩ := bind_some h
    refine R_aL DX9_tourLeft_16 ev3 ?_
    refine R_lstore [(4, .long v3), (0, .ref x0), (1, .int x1), (2, .int a.1), (3, .int a.2.1)] DX9_tourLeft_17 (by decide) rfl ?_
    refine R.sub (L' := [(0, .ref x0), (1, .int x1), (2, .int a.1), (3, .int a.2.1), (4, .long v3)]) [1, 2, 3, 4, 0] rfl ?_
    obtain ⟨r13, hi, h⟩ := bind_some h
    have hE : (fun u19 : Int32 × Hp => R G MX9_tourLeft 73 [(0, .ref x0), (1, .int x1), (2, .int u19.1), (3, .int a.2.1)] [] u19.2 o) r13 → ∀ (q2 : Int32) (q4 : Int64) (qs : Hp), iter (fX9_tourLeft_l19 x0 x1 a.2.1) FU (q2, q4, qs) = some r13 → R G MX9_tourLeft 19 [(0, .ref x0), (1, .int x1), (2, .int q2), (3, .int a.2.1), (4, .long q4)] [] qs o := fun hX q2 q4 qs hj => loop_R (fX9_tourLeft_l19 x0 x1 a.2.1) (fun p19 : Int32 × Int64 × Hp => R G MX9_tourLeft 19 [(0, .ref x0), (1, .int x1), (2, .int p19.1), (3, .int a.2.1), (4, .long p19.2.1)] [] p19.2.2 o) (fun u19 : Int32 × Hp => R G MX9_tourLeft 73 [(0, .ref x0), (1, .int x1), (2, .int u19.1), (3, .int a.2.1)] [] u19.2 o) (fun a w hw hc he => tX9_tourLeft_l19 hw (fun q2 q4 qs e => hc (q2, q4, qs) e) (fun q2 qs e => he (q2, qs) e)) FU (q2, q4, qs) r13 hj hX
    refine hE ?_ _ _ _ hi
    clear hE hi
    refine R_iinc [(3, .int (a.2.1 + iI 1)), (0, .ref x0), (1, .int x1), (2, .int r13.1)] DX9_tourLeft_73 3 rfl (v := a.2.1 + iI 1) (by rfl) (by decide) rfl ?_
    refine R_goto DX9_tourLeft_76 ?_
    refine R.sub (L' := [(0, .ref x0), (1, .int x1), (2, .int r13.1), (3, .int (a.2.1 + iI 1))]) [1, 2, 3, 0] rfl ?_
    cases h
    exact hc _ _ _ rfl
set_option maxRecDepth 8000 in
theorem kX9_tourLeft {G : Gm} {x0 : Nat} {x1 : Int32} {s : Hp} {w : Int32 × Hp} (h : fX9_tourLeft x0 x1 s = some w) : (s.2.2 x0).1 = 9 ∧ Call G MX9_tourLeft [.ref x0, .int x1] s (some (.int w.1), w.2) := by
  unfold fX9_tourLeft at h
  obtain ⟨_, e0, h⟩ := bind_some h
  refine ⟨ck_some e0, Call.of_R pnRX9 (Nat.le_of_ble_eq_true rfl) ?_⟩
  clear e0
  show R G MX9_tourLeft 0 [(0, .ref x0), (1, .int x1)] [] s (some (.int w.1), w.2)
  refine R_constI DX9_tourLeft_0 ci_m1 ?_
  refine R_istore [(2, .int (iI (-1))), (0, .ref x0), (1, .int x1)] DX9_tourLeft_1 (by decide) rfl ?_
  refine R_constI DX9_tourLeft_2 ci_0 ?_
  refine R_istore [(3, .int (iI 0)), (2, .int (iI (-1))), (0, .ref x0), (1, .int x1)] DX9_tourLeft_3 (by decide) rfl ?_
  refine R.sub (L' := [(0, .ref x0), (1, .int x1), (2, .int (iI (-1))), (3, .int (iI 0))]) [2, 3, 1, 0] rfl ?_
  obtain ⟨r14, hi, h⟩ := bind_some h
  have hE : (fun u4 : Int32 × Hp => R G MX9_tourLeft 79 [(2, .int u4.1)] [] u4.2 (some (.int w.1), w.2)) r14 → ∀ (q2 : Int32) (q3 : Int32) (qs : Hp), iter (fX9_tourLeft_l4 x0 x1) FU (q2, q3, qs) = some r14 → R G MX9_tourLeft 4 [(0, .ref x0), (1, .int x1), (2, .int q2), (3, .int q3)] [] qs (some (.int w.1), w.2) := fun hX q2 q3 qs hj => loop_R (fX9_tourLeft_l4 x0 x1) (fun p4 : Int32 × Int32 × Hp => R G MX9_tourLeft 4 [(0, .ref x0), (1, .int x1), (2, .int p4.1), (3, .int p4.2.1)] [] p4.2.2 (some (.int w.1), w.2)) (fun u4 : Int32 × Hp => R G MX9_tourLeft 79 [(2, .int u4.1)] [] u4.2 (some (.int w.1), w.2)) (fun a w hw hc he => tX9_tourLeft_l4 hw (fun q2 q3 qs e => hc (q2, q3, qs) e) (fun q2 qs e => he (q2, qs) e)) FU (q2, q3, qs) r14 hj hX
  refine hE ?_ _ _ _ hi
  clear hE hi
  refine R_iload DX9_tourLeft_79 0 rfl ?_
  cases h
  exact R_ireturn rfl DX9_tourLeft_80
set_option maxRecDepth 8000 in
theorem kX9_isDoors {G : Gm} {x0 : Nat} {x1 : Int32} {s : Hp} {w : Int32 × Hp} (h : fX9_isDoors x0 x1 s = some w) : (s.2.2 x0).1 = 9 ∧ Call G MX9_isDoors [.ref x0, .int x1] s (some (.int w.1), w.2) := by
  unfold fX9_isDoors at h
  obtain ⟨_, e0, h⟩ := bind_some h
  refine ⟨ck_some e0, Call.of_R pnRX9 (Nat.le_of_ble_eq_true rfl) ?_⟩
  clear e0
  show R G MX9_isDoors 0 [(0, .ref x0), (1, .int x1)] [] s (some (.int w.1), w.2)
  refine R_iload DX9_isDoors_0 1 rfl ?_
  refine R_i2l DX9_isDoors_1 ?_
  refine R_lconst DX9_isDoors_2 ?_
  refine R_constI DX9_isDoors_3 ci_1 ?_
  refine R_aload DX9_isDoors_4 0 rfl ?_
  obtain ⟨v1, ev1, h⟩ := bind_some h
  refine R_gR DX9_isDoors_5 fl_RX9_34 ev1 ?_
  refine R_constI DX9_isDoors_8 ci_8 ?_
  obtain ⟨v2, ev2, h⟩ := bind_some h
  refine R_aI DX9_isDoors_10 ev2 ?_
  refine R_ishl DX9_isDoors_11 ?_
  refine R_constI DX9_isDoors_12 ci_1 ?_
  refine R_isub DX9_isDoors_13 ?_
  refine R_i2l DX9_isDoors_14 ?_
  obtain ⟨r3, er3, h⟩ := bind_some h
  refine R_cS1 [.long (Int32.toInt64 x1), .long 0, .long (Int32.toInt64 ((ish (iI 1) v2) - (iI 1)))] DX9_isDoors_15 kzsX9_in ml_RX9_97 ⟨Nat.le_of_ble_eq_true rfl, Nat.le_of_ble_eq_true rfl⟩ rfl (Nat.le_of_ble_eq_true rfl) (kX9_in er3) ?_
  obtain ⟨_, ez, h⟩ := bind_some h
  cases h
  exact R_zreturn rfl DX9_isDoors_18 (rZ_some ez)
set_option maxRecDepth 8000 in
theorem tX9_tour_b21 {G : Gm} {s : Hp} {w : Int32 × Hp} (h : fX9_tour_b21 s = some w) : R G MX9_tour 21 [] [] s (some (.int w.1), w.2) := by
  unfold fX9_tour_b21 at h
  refine R_constI DX9_tour_21 ci_m2 ?_
  cases h
  exact R_ireturn rfl DX9_tour_23
set_option maxRecDepth 8000 in
theorem tX9_tour_b77 {G : Gm} {x0 : Nat} {x1 : Int32} {x2 : Int32} {x4 : Int32} {y0 : Int32} {s : Hp} {o : Option Value × Hp} {w : (Int32 × Int32 × Hp) ⊕ ((Int32 × Hp))} (h : fX9_tour_b77 x0 x1 x2 x4 y0 s = some w) (hc : ∀ (q3 : Int32) (q4 : Int32) (qs : Hp), w = .inl (q3, q4, qs) → R G MX9_tour 41 [(0, .ref x0), (1, .int x1), (2, .int x2), (3, .int q3), (4, .int q4)] [] qs o) (he0 : ∀ (q3 : Int32) (qs : Hp), w = .inr (q3, qs) → R G MX9_tour 84 [(0, .ref x0), (1, .int x1), (3, .int q3)] [] qs o) : R G MX9_tour 77 [(0, .ref x0), (1, .int x1), (2, .int x2), (4, .int x4)] [.int y0] s o := by
  unfold fX9_tour_b77 at h
  refine R_istore [(3, .int y0), (0, .ref x0), (1, .int x1), (2, .int x2), (4, .int x4)] DX9_tour_77 (by decide) rfl ?_
  refine R_iinc [(4, .int (x4 + iI 1)), (3, .int y0), (0, .ref x0), (1, .int x1), (2, .int x2)] DX9_tour_78 4 rfl (v := x4 + iI 1) (by rfl) (by decide) rfl ?_
  refine R_goto DX9_tour_81 ?_
  refine R.sub (L' := [(0, .ref x0), (1, .int x1), (2, .int x2), (3, .int y0), (4, .int (x4 + iI 1))]) [2, 3, 4, 1, 0] rfl ?_
  cases h
  exact hc _ _ _ rfl
set_option maxRecDepth 8000 in
theorem tX9_tour_l41 {G : Gm} {x0 : Nat} {x1 : Int32} {x2 : Int32} {o : Option Value × Hp} {a : Int32 × Int32 × Hp} {w : (Int32 × Int32 × Hp) ⊕ ((Int32 × Hp))} (h : fX9_tour_l41 x0 x1 x2 a = some w) (hc : ∀ (q3 : Int32) (q4 : Int32) (qs : Hp), w = .inl (q3, q4, qs) → R G MX9_tour 41 [(0, .ref x0), (1, .int x1), (2, .int x2), (3, .int q3), (4, .int q4)] [] qs o) (he0 : ∀ (q3 : Int32) (qs : Hp), w = .inr (q3, qs) → R G MX9_tour 84 [(0, .ref x0), (1, .int x1), (3, .int q3)] [] qs o) : R G MX9_tour 41 [(0, .ref x0), (1, .int x1), (2, .int x2), (3, .int a.1), (4, .int a.2.1)] [] a.2.2 o := by
  unfold fX9_tour_l41 at h
  refine R_iload DX9_tour_41 4 rfl ?_
  refine R_aload DX9_tour_43 0 rfl ?_
  obtain ⟨v8, ev8, h⟩ := bind_some h
  refine R_gR DX9_tour_44 fl_RX9_34 ev8 ?_
  refine R_constI DX9_tour_47 ci_3 ?_
  obtain ⟨v9, ev9, h⟩ := bind_some h
  refine R_aI DX9_tour_48 ev9 ?_
  by_cases c10 : v9 ≤ a.2.1
  · replace h := if_t h c10
    refine R_icmp_ge_t DX9_tour_49 c10 ?_
    refine R.sub (L' := [(0, .ref x0), (1, .int x1), (3, .int a.1)]) [0, 1, 3] rfl ?_
    cases h
    exact he0 _ _ rfl
  · replace h := if_f h c10
    refine R_icmp_ge_f DX9_tour_49 c10 ?_
    refine R_aload DX9_tour_52 0 rfl ?_
    refine R_iload DX9_tour_53 4 rfl ?_
    obtain ⟨s11, es11, h⟩ := bind_some h
    refine R_cV0 [.int a.2.1] DX9_tour_55 kzvX9_hourFree ml_RX9_464 ⟨Nat.le_of_ble_eq_true rfl, Nat.le_of_ble_eq_true rfl⟩ rfl (Nat.le_of_ble_eq_true rfl) (kX9_hourFree es11) ?_
    refine R_aload DX9_tour_58 0 rfl ?_
    refine R_iload DX9_tour_59 2 rfl ?_
    obtain ⟨r12, er12, h⟩ := bind_some h
    refine R_cV1 [.int x2] DX9_tour_60 kzvX9_tourLeft ml_RX9_498 ⟨Nat.le_of_ble_eq_true rfl, Nat.le_of_ble_eq_true rfl⟩ rfl (Nat.le_of_ble_eq_true rfl) (kX9_tourLeft er12) ?_
    refine R_istore [(5, .int r12.1), (0, .ref x0), (1, .int x1), (2, .int x2), (3, .int a.1), (4, .int a.2.1)] DX9_tour_63 (by decide) rfl ?_
    refine R_iload DX9_tour_65 0 rfl ?_
    refine R_iload DX9_tour_67 4 rfl ?_
    by_cases c13 : r12.1 ≤ a.1
    · replace h := if_t h c13
      refine R_icmp_le_t DX9_tour_68 c13 ?_
      refine R_iload DX9_tour_76 4 rfl ?_
      refine R.sub (L' := [(0, .ref x0), (1, .int x1), (2, .int x2), (4, .int a.2.1)]) [1, 2, 3, 5] rfl ?_
      exact tX9_tour_b77 h hc he0
    · replace h := if_f h c13
      refine R_icmp_le_f DX9_tour_68 c13 ?_
      refine R_iload DX9_tour_71 0 rfl ?_
      refine R_goto DX9_tour_73 ?_
      refine R.sub (L' := [(0, .ref x0), (1, .int x1), (2, .int x2), (4, .int a.2.1)]) [1, 2, 3, 5] rfl ?_
      exact tX9_tour_b77 h hc he0
set_option maxRecDepth 8000 in
theorem kX9_tour {G : Gm} {x0 : Nat} {x1 : Int32} {x2 : Int32} {s : Hp} {w : Int32 × Hp} (h : fX9_tour x0 x1 x2 s = some w) : (s.2.2 x0).1 = 9 ∧ Call G MX9_tour [.ref x0, .int x1, .int x2] s (some (.int w.1), w.2) := by
  unfold fX9_tour at h
  obtain ⟨_, e0, h⟩ := bind_some h
  refine ⟨ck_some e0, Call.of_R pnRX9 (Nat.le_of_ble_eq_true rfl) ?_⟩
  clear e0
  show R G MX9_tour 0 [(0, .ref x0), (1, .int x1), (2, .int x2)] [] s (some (.int w.1), w.2)
  refine R_aload DX9_tour_0 0 rfl ?_
  refine R_constI DX9_tour_1 ci_0 ?_
  obtain ⟨s1, es1, h⟩ := bind_some h
  refine R_pI DX9_tour_2 fl_RX9_92 es1 ?_
  refine R_aload DX9_tour_5 0 rfl ?_
  refine R_iload DX9_tour_6 1 rfl ?_
  obtain ⟨r2, er2, h⟩ := bind_some h
  refine R_cV1 [.int x1] DX9_tour_7 kzvX9_isShop ml_RX9_314 ⟨Nat.le_of_ble_eq_true rfl, Nat.le_of_ble_eq_true rfl⟩ rfl (Nat.le_of_ble_eq_true rfl) (kX9_isShop er2) ?_
  by_cases c3 : r2.1 = 0
  · replace h := if_t h c3
    refine R_if_eq_t DX9_tour_10 c3 ?_
    refine R.sub (L' := []) [] rfl ?_
    exact tX9_tour_b21 h
  · replace h := if_f h c3
    refine R_if_eq_f DX9_tour_10 c3 ?_
    refine R_aload DX9_tour_13 0 rfl ?_
    refine R_iload DX9_tour_14 2 rfl ?_
    obtain ⟨r4, er4, h⟩ := bind_some h
    refine R_cV1 [.int x2] DX9_tour_15 kzvX9_isDoors ml_RX9_495 ⟨Nat.le_of_ble_eq_true rfl, Nat.le_of_ble_eq_true rfl⟩ rfl (Nat.le_of_ble_eq_true rfl) (kX9_isDoors er4) ?_
    by_cases c5 : r4.1 = 0
    · replace h := if_t h c5
      refine R_if_ne_f DX9_tour_18 c5 ?_
      refine R.sub (L' := []) [] rfl ?_
      exact tX9_tour_b21 h
    · replace h := if_f h c5
      refine R_if_ne_t DX9_tour_18 c5 ?_
      refine R_aload DX9_tour_24 0 rfl ?_
      refine R_iload DX9_tour_25 1 rfl ?_
      refine R_constI DX9_tour_26 ci_9 ?_
      refine R_iload DX9_tour_28 2 rfl ?_
      obtain ⟨s6, es6, h⟩ := bind_some h
      refine R_cV0 [.int x1, .int (iI 9), .int x2] DX9_tour_29 kzvX9_starts ml_RX9_458 ⟨Nat.le_of_ble_eq_true rfl, Nat.le_of_ble_eq_true rfl⟩ rfl (Nat.le_of_ble_eq_true rfl) (kX9_starts es6) ?_
      refine R_aload DX9_tour_32 0 rfl ?_
      refine R_iload DX9_tour_33 2 rfl ?_
      obtain ⟨r7, er7, h⟩ := bind_some h
      refine R_cV1 [.int x2] DX9_tour_34 kzvX9_tourLeft ml_RX9_498 ⟨Nat.le_of_ble_eq_true rfl, Nat.le_of_ble_eq_true rfl⟩ rfl (Nat.le_of_ble_eq_true rfl) (kX9_tourLeft er7) ?_
      refine R_istore [(3, .int r7.1), (0, .ref x0), (1, .int x1), (2, .int x2)] DX9_tour_37 (by decide) rfl ?_
      refine R_constI DX9_tour_38 ci_0 ?_
      refine R_istore [(4, .int (iI 0)), (3, .int r7.1), (0, .ref x0), (1, .int x1), (2, .int x2)] DX9_tour_39 (by decide) rfl ?_
      refine R.sub (L' := [(0, .ref x0), (1, .int x1), (2, .int x2), (3, .int r7.1), (4, .int (iI 0))]) [2, 3, 4, 1, 0] rfl ?_
      obtain ⟨r14, hi, h⟩ := bind_some h
      have hE : (fun u41 : Int32 × Hp => R G MX9_tour 84 [(0, .ref x0), (1, .int x1), (3, .int u41.1)] [] u41.2 (some (.int w.1), w.2)) r14 → ∀ (q3 : Int32) (q4 : Int32) (qs : Hp), iter (fX9_tour_l41 x0 x1 x2) FU (q3, q4, qs) = some r14 → R G MX9_tour 41 [(0, .ref x0), (1, .int x1), (2, .int x2), (3, .int q3), (4, .int q4)] [] qs (some (.int w.1), w.2) := fun hX q3 q4 qs hj => loop_R (fX9_tour_l41 x0 x1 x2) (fun p41 : Int32 × Int32 × Hp => R G MX9_tour 41 [(0, .ref x0), (1, .int x1), (2, .int x2), (3, .int p41.1), (4, .int p41.2.1)] [] p41.2.2 (some (.int w.1), w.2)) (fun u41 : Int32 × Hp => R G MX9_tour 84 [(0, .ref x0), (1, .int x1), (3, .int u41.1)] [] u41.2 (some (.int w.1), w.2)) (fun a w hw hc he => tX9_tour_l41 hw (fun q3 q4 qs e => hc (q3, q4, qs) e) (fun q3 qs e => he (q3, qs) e)) FU (q3, q4, qs) r14 hj hX
      refine hE ?_ _ _ _ hi
      clear hE hi
      refine R_iload DX9_tour_84 2 rfl ?_
      refine R_constI DX9_tour_85 ci_m1 ?_
      by_cases c15 : r14.1 = (iI (-1))
      · replace h := if_t h c15
        refine R_icmp_ne_f DX9_tour_86 c15 ?_
        refine R_constI DX9_tour_89 ci_m1 ?_
        refine R_goto DX9_tour_90 ?_
        cases h
        exact R_ireturn rfl DX9_tour_106
      · replace h := if_f h c15
        refine R_icmp_ne_t DX9_tour_86 c15 ?_
        refine R_aload DX9_tour_93 0 rfl ?_
        obtain ⟨v16, ev16, h⟩ := bind_some h
        refine R_gR DX9_tour_94 fl_RX9_43 ev16 ?_
        refine R_constI DX9_tour_97 ci_6 ?_
        refine R_iload DX9_tour_99 1 rfl ?_
        refine R_imul DX9_tour_100 ?_
        refine R_constI DX9_tour_101 ci_3 ?_
        refine R_iadd DX9_tour_102 ?_
        obtain ⟨v17, ev17, h⟩ := bind_some h
        refine R_aI DX9_tour_103 ev17 ?_
        refine R_iload DX9_tour_104 2 rfl ?_
        refine R_isub DX9_tour_105 ?_
        cases h
        exact R_ireturn rfl DX9_tour_106
set_option maxRecDepth 8000 in
theorem tX9_done_b21 {G : Gm} {s : Hp} {w : Int32 × Hp} (h : fX9_done_b21 s = some w) : R G MX9_done 21 [] [] s (some (.int w.1), w.2) := by
  unfold fX9_done_b21 at h
  refine R_constI DX9_done_21 ci_m2 ?_
  cases h
  exact R_ireturn rfl DX9_done_23
set_option maxRecDepth 8000 in
theorem tX9_done_l45 {G : Gm} {x0 : Nat} {x2 : Int32} {o : Option Value × Hp} {a : Int32 × Hp} {w : (Int32 × Hp) ⊕ ((Hp) ⊕ (Int32 × Hp))} (h : fX9_done_l45 x0 x2 a = some w) (hc : ∀ (q3 : Int32) (qs : Hp), w = .inl (q3, qs) → R G MX9_done 45 [(0, .ref x0), (2, .int x2), (3, .int q3)] [] qs o) (he0 : ∀ (qs : Hp), w = .inr (.inl qs) → R G MX9_done 77 [] [] qs o) (he1 : ∀ (q3 : Int32) (qs : Hp), w = .inr (.inr (q3, qs)) → R G MX9_done 69 [(3, .int q3)] [] qs o) : R G MX9_done 45 [(0, .ref x0), (2, .int x2), (3, .int a.1)] [] a.2 o := by
  unfold fX9_done_l45 at h
  refine R_iload DX9_done_45 2 rfl ?_
  refine R_aload DX9_done_46 0 rfl ?_
  obtain ⟨v9, ev9, h⟩ := bind_some h
  refine R_gR DX9_done_47 fl_RX9_34 ev9 ?_
  refine R_constI DX9_done_50 ci_3 ?_
  obtain ⟨v10, ev10, h⟩ := bind_some h
  refine R_aI DX9_done_51 ev10 ?_
  by_cases c11 : v10 ≤ a.1
  · replace h := if_t h c11
    refine R_icmp_ge_t DX9_done_52 c11 ?_
    refine R.sub (L' := []) [] rfl ?_
    cases h
    exact he0 _ rfl
  · replace h := if_f h c11
    refine R_icmp_ge_f DX9_done_52 c11 ?_
    refine R_aload DX9_done_55 0 rfl ?_
    refine R_iload DX9_done_56 2 rfl ?_
    obtain ⟨s12, es12, h⟩ := bind_some h
    refine R_cV0 [.int a.1] DX9_done_57 kzvX9_hourFree ml_RX9_464 ⟨Nat.le_of_ble_eq_true rfl, Nat.le_of_ble_eq_true rfl⟩ rfl (Nat.le_of_ble_eq_true rfl) (kX9_hourFree es12) ?_
    refine R_aload DX9_done_60 0 rfl ?_
    refine R_iload DX9_done_61 1 rfl ?_
    obtain ⟨r13, er13, h⟩ := bind_some h
    refine R_cV1 [.int x2] DX9_done_62 kzvX9_tourLeft ml_RX9_498 ⟨Nat.le_of_ble_eq_true rfl, Nat.le_of_ble_eq_true rfl⟩ rfl (Nat.le_of_ble_eq_true rfl) (kX9_tourLeft er13) ?_
    refine R_constI DX9_done_65 ci_m1 ?_
    by_cases c14 : r13.1 = (iI (-1))
    · replace h := if_t h c14
      refine R_icmp_eq_t DX9_done_66 c14 ?_
      refine R_iinc [(3, .int (a.1 + iI 1)), (0, .ref x0), (2, .int x2)] DX9_done_71 2 rfl (v := a.1 + iI 1) (by rfl) (by decide) rfl ?_
      refine R_goto DX9_done_74 ?_
      refine R.sub (L' := [(0, .ref x0), (2, .int x2), (3, .int (a.1 + iI 1))]) [1, 2, 0] rfl ?_
      cases h
      exact hc _ _ rfl
    · replace h := if_f h c14
      refine R_icmp_eq_f DX9_done_66 c14 ?_
      refine R.sub (L' := [(3, .int a.1)]) [2] rfl ?_
      cases h
      exact he1 _ _ rfl
set_option maxRecDepth 8000 in
theorem kX9_done {G : Gm} {x0 : Nat} {x1 : Int32} {x2 : Int32} {s : Hp} {w : Int32 × Hp} (h : fX9_done x0 x1 x2 s = some w) : (s.2.2 x0).1 = 9 ∧ Call G MX9_done [.ref x0, .int x1, .int x2] s (some (.int w.1), w.2) := by
  unfold fX9_done at h
  obtain ⟨_, e0, h⟩ := bind_some h
  refine ⟨ck_some e0, Call.of_R pnRX9 (Nat.le_of_ble_eq_true rfl) ?_⟩
  clear e0
  show R G MX9_done 0 [(0, .ref x0), (1, .int x1), (2, .int x2)] [] s (some (.int w.1), w.2)
  refine R_aload DX9_done_0 0 rfl ?_
  refine R_constI DX9_done_1 ci_0 ?_
  obtain ⟨s1, es1, h⟩ := bind_some h
  refine R_pI DX9_done_2 fl_RX9_92 es1 ?_
  refine R_aload DX9_done_5 0 rfl ?_
  refine R_iload DX9_done_6 1 rfl ?_
  obtain ⟨r2, er2, h⟩ := bind_some h
  refine R_cV1 [.int x1] DX9_done_7 kzvX9_isShop ml_RX9_314 ⟨Nat.le_of_ble_eq_true rfl, Nat.le_of_ble_eq_true rfl⟩ rfl (Nat.le_of_ble_eq_true rfl) (kX9_isShop er2) ?_
  by_cases c3 : r2.1 = 0
  · replace h := if_t h c3
    refine R_if_eq_t DX9_done_10 c3 ?_
    refine R.sub (L' := []) [] rfl ?_
    exact tX9_done_b21 h
  · replace h := if_f h c3
    refine R_if_eq_f DX9_done_10 c3 ?_
    refine R_aload DX9_done_13 0 rfl ?_
    refine R_iload DX9_done_14 2 rfl ?_
    obtain ⟨r4, er4, h⟩ := bind_some h
    refine R_cV1 [.int x2] DX9_done_15 kzvX9_isDoors ml_RX9_495 ⟨Nat.le_of_ble_eq_true rfl, Nat.le_of_ble_eq_true rfl⟩ rfl (Nat.le_of_ble_eq_true rfl) (kX9_isDoors er4) ?_
    by_cases c5 : r4.1 = 0
    · replace h := if_t h c5
      refine R_if_ne_f DX9_done_18 c5 ?_
      refine R.sub (L' := []) [] rfl ?_
      exact tX9_done_b21 h
    · replace h := if_f h c5
      refine R_if_ne_t DX9_done_18 c5 ?_
      refine R_aload DX9_done_24 0 rfl ?_
      refine R_iload DX9_done_25 1 rfl ?_
      refine R_constI DX9_done_26 ci_9 ?_
      refine R_iload DX9_done_28 2 rfl ?_
      obtain ⟨s6, es6, h⟩ := bind_some h
      refine R_cV0 [.int x1, .int (iI 9), .int x2] DX9_done_29 kzvX9_starts ml_RX9_458 ⟨Nat.le_of_ble_eq_true rfl, Nat.le_of_ble_eq_true rfl⟩ rfl (Nat.le_of_ble_eq_true rfl) (kX9_starts es6) ?_
      refine R_aload DX9_done_32 0 rfl ?_
      refine R_iload DX9_done_33 2 rfl ?_
      obtain ⟨r7, er7, h⟩ := bind_some h
      refine R_cV1 [.int x2] DX9_done_34 kzvX9_tourLeft ml_RX9_498 ⟨Nat.le_of_ble_eq_true rfl, Nat.le_of_ble_eq_true rfl⟩ rfl (Nat.le_of_ble_eq_true rfl) (kX9_tourLeft er7) ?_
      refine R_constI DX9_done_37 ci_m1 ?_
      by_cases c8 : r7.1 = (iI (-1))
      · replace h := if_t h c8
        refine R_icmp_eq_t DX9_done_38 c8 ?_
        refine R_constI DX9_done_43 ci_0 ?_
        refine R_istore [(3, .int (iI 0)), (0, .ref x0), (1, .int x1), (2, .int x2)] DX9_done_44 (by decide) rfl ?_
        refine R.sub (L' := [(0, .ref x0), (2, .int x2), (3, .int (iI 0))]) [1, 3, 0] rfl ?_
        obtain ⟨r15, hi, h⟩ := bind_some h
        have hE : (Sum.elim (fun u45 : Hp => R G MX9_done 77 [] [] u45 (some (.int w.1), w.2)) (fun u45 : Int32 × Hp => R G MX9_done 69 [(3, .int u45.1)] [] u45.2 (some (.int w.1), w.2))) r15 → ∀ (q3 : Int32) (qs : Hp), iter (fX9_done_l45 x0 x2) FU (q3, qs) = some r15 → R G MX9_done 45 [(0, .ref x0), (2, .int x2), (3, .int q3)] [] qs (some (.int w.1), w.2) := fun hX q3 qs hj => loop_R (fX9_done_l45 x0 x2) (fun p45 : Int32 × Hp => R G MX9_done 45 [(0, .ref x0), (2, .int x2), (3, .int p45.1)] [] p45.2 (some (.int w.1), w.2)) (Sum.elim (fun u45 : Hp => R G MX9_done 77 [] [] u45 (some (.int w.1), w.2)) (fun u45 : Int32 × Hp => R G MX9_done 69 [(3, .int u45.1)] [] u45.2 (some (.int w.1), w.2))) (fun a w hw hc he => tX9_done_l45 hw (fun q3 qs e => hc (q3, qs) e) (fun qs e => he (.inl qs) e) (fun q3 qs e => he (.inr (q3, qs)) e)) FU (q3, qs) r15 hj hX
        refine hE ?_ _ _ hi
        clear hE hi
        rcases r15 with r15a | r15b
        · replace h := el_l h
          refine R_constI DX9_done_77 ci_m1 ?_
          cases h
          exact R_ireturn rfl DX9_done_78
        replace h := el_r h
        refine R_iload DX9_done_69 0 rfl ?_
        cases h
        exact R_ireturn rfl DX9_done_70
      · replace h := if_f h c8
        refine R_icmp_eq_f DX9_done_38 c8 ?_
        refine R_constI DX9_done_41 ci_m1 ?_
        cases h
        exact R_ireturn rfl DX9_done_42
set_option maxRecDepth 8000 in
theorem tX9_doors_b35 {G : Gm} {s : Hp} {w : Int32 × Hp} (h : fX9_doors_b35 s = some w) : R G MX9_doors 35 [] [] s (some (.int w.1), w.2) := by
  unfold fX9_doors_b35 at h
  refine R_constI DX9_doors_35 ci_m2 ?_
  cases h
  exact R_ireturn rfl DX9_doors_37
set_option maxRecDepth 8000 in
theorem tX9_doors_l58 {G : Gm} {x0 : Nat} {x3 : Int32} {o : Option Value × Hp} {a : Int32 × Hp} {w : (Int32 × Hp) ⊕ ((Hp))} (h : fX9_doors_l58 x0 x3 a = some w) (hc : ∀ (q4 : Int32) (qs : Hp), w = .inl (q4, qs) → R G MX9_doors 58 [(0, .ref x0), (3, .int x3), (4, .int q4)] [] qs o) (he0 : ∀ (qs : Hp), w = .inr qs → R G MX9_doors 81 [(0, .ref x0), (3, .int x3)] [] qs o) : R G MX9_doors 58 [(0, .ref x0), (3, .int x3), (4, .int a.1)] [] a.2 o := by
  unfold fX9_doors_l58 at h
  refine R_iload DX9_doors_58 2 rfl ?_
  refine R_aload DX9_doors_60 0 rfl ?_
  obtain ⟨v11, ev11, h⟩ := bind_some h
  refine R_gR DX9_doors_61 fl_RX9_34 ev11 ?_
  refine R_constI DX9_doors_64 ci_3 ?_
  obtain ⟨v12, ev12, h⟩ := bind_some h
  refine R_aI DX9_doors_65 ev12 ?_
  by_cases c13 : v12 ≤ a.1
  · replace h := if_t h c13
    refine R_icmp_ge_t DX9_doors_66 c13 ?_
    refine R.sub (L' := [(0, .ref x0), (3, .int x3)]) [0, 1] rfl ?_
    cases h
    exact he0 _ rfl
  · replace h := if_f h c13
    refine R_icmp_ge_f DX9_doors_66 c13 ?_
    refine R_aload DX9_doors_69 0 rfl ?_
    refine R_iload DX9_doors_70 2 rfl ?_
    obtain ⟨s14, es14, h⟩ := bind_some h
    refine R_cV0 [.int a.1] DX9_doors_72 kzvX9_hourFree ml_RX9_464 ⟨Nat.le_of_ble_eq_true rfl, Nat.le_of_ble_eq_true rfl⟩ rfl (Nat.le_of_ble_eq_true rfl) (kX9_hourFree es14) ?_
    refine R_iinc [(4, .int (a.1 + iI 1)), (0, .ref x0), (3, .int x3)] DX9_doors_75 2 rfl (v := a.1 + iI 1) (by rfl) (by decide) rfl ?_
    refine R_goto DX9_doors_78 ?_
    refine R.sub (L' := [(0, .ref x0), (3, .int x3), (4, .int (a.1 + iI 1))]) [1, 2, 0] rfl ?_
    cases h
    exact hc _ _ rfl
set_option maxRecDepth 8000 in
theorem tX9_doors_b171 {G : Gm} {x0 : Nat} {x3 : Int32} {x4 : Int32} {x5 : Int32} {x6 : Int64} {s : Hp} {o : Option Value × Hp} {w : (Int32 × Int64 × Hp) ⊕ ((Int32 × Hp))} (h : fX9_doors_b171 x0 x3 x4 x5 x6 s = some w) (hc : ∀ (q4 : Int32) (q6 : Int64) (qs : Hp), w = .inl (q4, q6, qs) → R G MX9_doors 104 [(0, .ref x0), (3, .int x3), (4, .int q4), (5, .int x5), (6, .long q6)] [] qs o) (he0 : ∀ (q4 : Int32) (qs : Hp), w = .inr (q4, qs) → R G MX9_doors 183 [(0, .ref x0), (3, .int x3), (4, .int q4), (5, .int x5)] [] qs o) : R G MX9_doors 171 [(0, .ref x0), (3, .int x3), (4, .int x4), (5, .int x5), (6, .long x6)] [] s o := by
  unfold fX9_doors_b171 at h
  refine R_lload DX9_doors_171 4 rfl ?_
  refine R_lload DX9_doors_173 4 rfl ?_
  refine R_lconst DX9_doors_175 ?_
  refine R_lsub DX9_doors_176 ?_
  refine R_land DX9_doors_177 ?_
  obtain ⟨z27, ez27, h⟩ := lt_some h
  refine R_lstoreE ez27 [(6, .long z27), (0, .ref x0), (3, .int x3), (4, .int x4), (5, .int x5)] DX9_doors_178 (by decide) rfl ?_
  refine R_goto DX9_doors_180 ?_
  refine R.sub (L' := [(0, .ref x0), (3, .int x3), (4, .int x4), (5, .int x5), (6, .long z27)]) [1, 2, 3, 4, 0] rfl ?_
  cases h
  exact hc _ _ _ rfl
set_option maxRecDepth 8000 in
theorem tX9_doors_b165 {G : Gm} {x0 : Nat} {x3 : Int32} {x5 : Int32} {x6 : Int64} {s : Hp} {o : Option Value × Hp} {w : (Int32 × Int64 × Hp) ⊕ ((Int32 × Hp))} (h : fX9_doors_b165 x0 x3 x5 x6 s = some w) (hc : ∀ (q4 : Int32) (q6 : Int64) (qs : Hp), w = .inl (q4, q6, qs) → R G MX9_doors 104 [(0, .ref x0), (3, .int x3), (4, .int q4), (5, .int x5), (6, .long q6)] [] qs o) (he0 : ∀ (q4 : Int32) (qs : Hp), w = .inr (q4, qs) → R G MX9_doors 183 [(0, .ref x0), (3, .int x3), (4, .int q4), (5, .int x5)] [] qs o) : R G MX9_doors 165 [(0, .ref x0), (3, .int x3), (5, .int x5), (6, .long x6)] [] s o := by
  unfold fX9_doors_b165 at h
  refine R_aload DX9_doors_165 0 rfl ?_
  obtain ⟨v26, ev26, h⟩ := bind_some h
  refine R_gI DX9_doors_166 fl_RX9_420 ev26 ?_
  refine R_istore [(4, .int v26), (0, .ref x0), (3, .int x3), (5, .int x5), (6, .long x6)] DX9_doors_169 (by decide) rfl ?_
  refine R.sub (L' := [(0, .ref x0), (3, .int x3), (4, .int v26), (5, .int x5), (6, .long x6)]) [1, 2, 0, 3, 4] rfl ?_
  exact tX9_doors_b171 h hc he0
set_option maxRecDepth 8000 in
theorem tX9_doors_l104 {G : Gm} {x0 : Nat} {x3 : Int32} {x5 : Int32} {o : Option Value × Hp} {a : Int32 × Int64 × Hp} {w : (Int32 × Int64 × Hp) ⊕ ((Int32 × Hp))} (h : fX9_doors_l104 x0 x3 x5 a = some w) (hc : ∀ (q4 : Int32) (q6 : Int64) (qs : Hp), w = .inl (q4, q6, qs) → R G MX9_doors 104 [(0, .ref x0), (3, .int x3), (4, .int q4), (5, .int x5), (6, .long q6)] [] qs o) (he0 : ∀ (q4 : Int32) (qs : Hp), w = .inr (q4, qs) → R G MX9_doors 183 [(0, .ref x0), (3, .int x3), (4, .int q4), (5, .int x5)] [] qs o) : R G MX9_doors 104 [(0, .ref x0), (3, .int x3), (4, .int a.1), (5, .int x5), (6, .long a.2.1)] [] a.2.2 o := by
  unfold fX9_doors_l104 at h
  refine R_lload DX9_doors_104 4 rfl ?_
  refine R_lconst DX9_doors_106 ?_
  refine R_lcmp DX9_doors_107 ?_
  by_cases c19 : (lg_cmp a.2.1 0) = 0
  · replace h := if_t h c19
    refine R_if_eq_t DX9_doors_108 c19 ?_
    refine R.sub (L' := [(0, .ref x0), (3, .int x3), (4, .int a.1), (5, .int x5)]) [0, 1, 2, 3] rfl ?_
    cases h
    exact he0 _ _ rfl
  · replace h := if_f h c19
    refine R_if_eq_f DX9_doors_108 c19 ?_
    refine R_aload DX9_doors_111 0 rfl ?_
    refine R_constI DX9_doors_112 ci_64 ?_
    refine R_iload DX9_doors_114 3 rfl ?_
    refine R_imul DX9_doors_116 ?_
    refine R_lload DX9_doors_117 4 rfl ?_
    obtain ⟨r20, er20, h⟩ := bind_some h
    refine R_cS1 [.long a.2.1] DX9_doors_119 kzsX9_lowest ml_RX9_442 ⟨Nat.le_of_ble_eq_true rfl, Nat.le_of_ble_eq_true rfl⟩ rfl (Nat.le_of_ble_eq_true rfl) (kX9_lowest er20) ?_
    refine R_iadd DX9_doors_122 ?_
    obtain ⟨s21, es21, h⟩ := bind_some h
    refine R_cV0 [.int (((iI 64) * x5) + r20.1)] DX9_doors_123 kzvX9_reads_ ml_RX9_446 ⟨Nat.le_of_ble_eq_true rfl, Nat.le_of_ble_eq_true rfl⟩ rfl (Nat.le_of_ble_eq_true rfl) (kX9_reads_ es21) ?_
    refine R_aload DX9_doors_126 0 rfl ?_
    obtain ⟨v22, ev22, h⟩ := bind_some h
    refine R_gI DX9_doors_127 fl_RX9_420 ev22 ?_
    obtain ⟨r23, er23, h⟩ := bind_some h
    refine R_cS1 [.int v22] DX9_doors_130 kzsX9_sizeOf ml_RX9_503 ⟨Nat.le_of_ble_eq_true rfl, Nat.le_of_ble_eq_true rfl⟩ rfl (Nat.le_of_ble_eq_true rfl) (kX9_sizeOf er23) ?_
    refine R_iload DX9_doors_133 2 rfl ?_
    obtain ⟨r24, er24, h⟩ := bind_some h
    refine R_cS1 [.int a.1] DX9_doors_135 kzsX9_sizeOf ml_RX9_503 ⟨Nat.le_of_ble_eq_true rfl, Nat.le_of_ble_eq_true rfl⟩ rfl (Nat.le_of_ble_eq_true rfl) (kX9_sizeOf er24) ?_
    by_cases c25 : r24.1 < r23.1
    · replace h := if_t h c25
      refine R_icmp_gt_t DX9_doors_138 c25 ?_
      refine R.sub (L' := [(0, .ref x0), (3, .int x3), (5, .int x5), (6, .long a.2.1)]) [0, 1, 3, 4] rfl ?_
      exact tX9_doors_b165 h hc he0
    · replace h := if_f h c25
      refine R_icmp_gt_f DX9_doors_138 c25 ?_
      refine R_aload DX9_doors_141 0 rfl ?_
      obtain ⟨v28, ev28, h⟩ := bind_some h
      refine R_gI DX9_doors_142 fl_RX9_420 ev28 ?_
      obtain ⟨r29, er29, h⟩ := bind_some h
      refine R_cS1 [.int v28] DX9_doors_145 kzsX9_sizeOf ml_RX9_503 ⟨Nat.le_of_ble_eq_true rfl, Nat.le_of_ble_eq_true rfl⟩ rfl (Nat.le_of_ble_eq_true rfl) (kX9_sizeOf er29) ?_
      refine R_iload DX9_doors_148 2 rfl ?_
      obtain ⟨r30, er30, h⟩ := bind_some h
      refine R_cS1 [.int a.1] DX9_doors_150 kzsX9_sizeOf ml_RX9_503 ⟨Nat.le_of_ble_eq_true rfl, Nat.le_of_ble_eq_true rfl⟩ rfl (Nat.le_of_ble_eq_true rfl) (kX9_sizeOf er30) ?_
      by_cases c31 : r29.1 = r30.1
      · replace h := if_t h c31
        refine R_icmp_ne_f DX9_doors_153 c31 ?_
        refine R_aload DX9_doors_156 0 rfl ?_
        obtain ⟨v32, ev32, h⟩ := bind_some h
        refine R_gI DX9_doors_157 fl_RX9_420 ev32 ?_
        refine R_iload DX9_doors_160 2 rfl ?_
        by_cases c33 : a.1 ≤ v32
        · replace h := if_t h c33
          refine R_icmp_ge_t DX9_doors_162 c33 ?_
          exact tX9_doors_b171 h hc he0
        · replace h := if_f h c33
          refine R_icmp_ge_f DX9_doors_162 c33 ?_
          refine R.sub (L' := [(0, .ref x0), (3, .int x3), (5, .int x5), (6, .long a.2.1)]) [0, 1, 3, 4] rfl ?_
          exact tX9_doors_b165 h hc he0
      · replace h := if_f h c31
        refine R_icmp_ne_t DX9_doors_153 c31 ?_
        exact tX9_doors_b171 h hc he0
set_option maxRecDepth 8000 in
theorem tX9_doors_l87 {G : Gm} {x0 : Nat} {x3 : Int32} {o : Option Value × Hp} {a : Int32 × Int32 × Hp} {w : (Int32 × Int32 × Hp) ⊕ ((Int32 × Hp))} (h : fX9_doors_l87 x0 x3 a = some w) (hc : ∀ (q4 : Int32) (q5 : Int32) (qs : Hp), w = .inl (q4, q5, qs) → R G MX9_doors 87 [(0, .ref x0), (3, .int x3), (4, .int q4), (5, .int q5)] [] qs o) (he0 : ∀ (q4 : Int32) (qs : Hp), w = .inr (q4, qs) → R G MX9_doors 189 [(3, .int x3), (4, .int q4)] [] qs o) : R G MX9_doors 87 [(0, .ref x0), (3, .int x3), (4, .int a.1), (5, .int a.2.1)] [] a.2.2 o := by
  unfold fX9_doors_l87 at h
  refine R_iload DX9_doors_87 3 rfl ?_
  refine R_constI DX9_doors_89 ci_16000 ?_
  by_cases c16 : (iI 16000) ≤ a.2.1
  · replace h := if_t h c16
    refine R_icmp_ge_t DX9_doors_92 c16 ?_
    refine R.sub (L' := [(3, .int x3), (4, .int a.1)]) [1, 2] rfl ?_
    cases h
    exact he0 _ _ rfl
  · replace h := if_f h c16
    refine R_icmp_ge_f DX9_doors_92 c16 ?_
    refine R_aload DX9_doors_95 0 rfl ?_
    obtain ⟨v17, ev17, h⟩ := bind_some h
    refine R_gR DX9_doors_96 fl_RX9_77 ev17 ?_
    refine R_iload DX9_doors_99 3 rfl ?_
    obtain ⟨v18, ev18, h⟩ := bind_some h
    refine R_aL DX9_doors_101 ev18 ?_
    refine R_lstore [(6, .long v18), (0, .ref x0), (3, .int x3), (4, .int a.1), (5, .int a.2.1)] DX9_doors_102 (by decide) rfl ?_
    refine R.sub (L' := [(0, .ref x0), (3, .int x3), (4, .int a.1), (5, .int a.2.1), (6, .long v18)]) [1, 2, 3, 4, 0] rfl ?_
    obtain ⟨r34, hi, h⟩ := bind_some h
    have hE : (fun u104 : Int32 × Hp => R G MX9_doors 183 [(0, .ref x0), (3, .int x3), (4, .int u104.1), (5, .int a.2.1)] [] u104.2 o) r34 → ∀ (q4 : Int32) (q6 : Int64) (qs : Hp), iter (fX9_doors_l104 x0 x3 a.2.1) FU (q4, q6, qs) = some r34 → R G MX9_doors 104 [(0, .ref x0), (3, .int x3), (4, .int q4), (5, .int a.2.1), (6, .long q6)] [] qs o := fun hX q4 q6 qs hj => loop_R (fX9_doors_l104 x0 x3 a.2.1) (fun p104 : Int32 × Int64 × Hp => R G MX9_doors 104 [(0, .ref x0), (3, .int x3), (4, .int p104.1), (5, .int a.2.1), (6, .long p104.2.1)] [] p104.2.2 o) (fun u104 : Int32 × Hp => R G MX9_doors 183 [(0, .ref x0), (3, .int x3), (4, .int u104.1), (5, .int a.2.1)] [] u104.2 o) (fun a w hw hc he => tX9_doors_l104 hw (fun q4 q6 qs e => hc (q4, q6, qs) e) (fun q4 qs e => he (q4, qs) e)) FU (q4, q6, qs) r34 hj hX
    refine hE ?_ _ _ _ hi
    clear hE hi
    refine R_iinc [(5, .int (a.2.1 + iI 1)), (0, .ref x0), (3, .int x3), (4, .int r34.1)] DX9_doors_183 3 rfl (v := a.2.1 + iI 1) (by rfl) (by decide) rfl ?_
    refine R_goto DX9_doors_186 ?_
    refine R.sub (L' := [(0, .ref x0), (3, .int x3), (4, .int r34.1), (5, .int (a.2.1 + iI 1))]) [1, 2, 3, 0] rfl ?_
    cases h
    exact hc _ _ _ rfl
set_option maxRecDepth 8000 in
theorem kX9_doors {G : Gm} {x0 : Nat} {x1 : Int32} {x2 : Int32} {x3 : Int32} {s : Hp} {w : Int32 × Hp} (h : fX9_doors x0 x1 x2 x3 s = some w) : (s.2.2 x0).1 = 9 ∧ Call G MX9_doors [.ref x0, .int x1, .int x2, .int x3] s (some (.int w.1), w.2) := by
  unfold fX9_doors at h
  obtain ⟨_, e0, h⟩ := bind_some h
  refine ⟨ck_some e0, Call.of_R pnRX9 (Nat.le_of_ble_eq_true rfl) ?_⟩
  clear e0
  show R G MX9_doors 0 [(0, .ref x0), (1, .int x1), (2, .int x2), (3, .int x3)] [] s (some (.int w.1), w.2)
  refine R_aload DX9_doors_0 0 rfl ?_
  refine R_constI DX9_doors_1 ci_0 ?_
  obtain ⟨s1, es1, h⟩ := bind_some h
  refine R_pI DX9_doors_2 fl_RX9_92 es1 ?_
  refine R_aload DX9_doors_5 0 rfl ?_
  refine R_iload DX9_doors_6 1 rfl ?_
  obtain ⟨r2, er2, h⟩ := bind_some h
  refine R_cV1 [.int x1] DX9_doors_7 kzvX9_isShop ml_RX9_314 ⟨Nat.le_of_ble_eq_true rfl, Nat.le_of_ble_eq_true rfl⟩ rfl (Nat.le_of_ble_eq_true rfl) (kX9_isShop er2) ?_
  by_cases c3 : r2.1 = 0
  · replace h := if_t h c3
    refine R_if_eq_t DX9_doors_10 c3 ?_
    refine R.sub (L' := []) [] rfl ?_
    exact tX9_doors_b35 h
  · replace h := if_f h c3
    refine R_if_eq_f DX9_doors_10 c3 ?_
    refine R_iload DX9_doors_13 2 rfl ?_
    refine R_i2l DX9_doors_14 ?_
    refine R_lconst DX9_doors_15 ?_
    refine R_ldc2 DX9_doors_16 cw_RX9_501 ?_
    obtain ⟨r4, er4, h⟩ := bind_some h
    refine R_cS1 [.long (Int32.toInt64 x2), .long 0, .long 9] DX9_doors_19 kzsX9_in ml_RX9_97 ⟨Nat.le_of_ble_eq_true rfl, Nat.le_of_ble_eq_true rfl⟩ rfl (Nat.le_of_ble_eq_true rfl) (kX9_in er4) ?_
    by_cases c5 : r4.1 = 0
    · replace h := if_t h c5
      refine R_if_eq_t DX9_doors_22 c5 ?_
      refine R.sub (L' := []) [] rfl ?_
      exact tX9_doors_b35 h
    · replace h := if_f h c5
      refine R_if_eq_f DX9_doors_22 c5 ?_
      refine R_iload DX9_doors_25 3 rfl ?_
      refine R_i2l DX9_doors_26 ?_
      refine R_lconst DX9_doors_27 ?_
      refine R_lconst DX9_doors_28 ?_
      obtain ⟨r6, er6, h⟩ := bind_some h
      refine R_cS1 [.long (Int32.toInt64 x3), .long 0, .long 1] DX9_doors_29 kzsX9_in ml_RX9_97 ⟨Nat.le_of_ble_eq_true rfl, Nat.le_of_ble_eq_true rfl⟩ rfl (Nat.le_of_ble_eq_true rfl) (kX9_in er6) ?_
      by_cases c7 : r6.1 = 0
      · replace h := if_t h c7
        refine R_if_ne_f DX9_doors_32 c7 ?_
        refine R.sub (L' := []) [] rfl ?_
        exact tX9_doors_b35 h
      · replace h := if_f h c7
        refine R_if_ne_t DX9_doors_32 c7 ?_
        refine R_aload DX9_doors_38 0 rfl ?_
        refine R_iload DX9_doors_39 1 rfl ?_
        refine R_iload DX9_doors_40 2 rfl ?_
        refine R_constI DX9_doors_41 ci_1 ?_
        refine R_aload DX9_doors_42 0 rfl ?_
        obtain ⟨v8, ev8, h⟩ := bind_some h
        refine R_gR DX9_doors_43 fl_RX9_34 ev8 ?_
        refine R_constI DX9_doors_46 ci_8 ?_
        obtain ⟨v9, ev9, h⟩ := bind_some h
        refine R_aI DX9_doors_48 ev9 ?_
        refine R_ishl DX9_doors_49 ?_
        refine R_constI DX9_doors_50 ci_1 ?_
        refine R_isub DX9_doors_51 ?_
        obtain ⟨s10, es10, h⟩ := bind_some h
        refine R_cV0 [.int x1, .int x2, .int ((ish (iI 1) v9) - (iI 1))] DX9_doors_52 kzvX9_starts ml_RX9_458 ⟨Nat.le_of_ble_eq_true rfl, Nat.le_of_ble_eq_true rfl⟩ rfl (Nat.le_of_ble_eq_true rfl) (kX9_starts es10) ?_
        refine R_constI DX9_doors_55 ci_0 ?_
        refine R_istore [(4, .int (iI 0)), (0, .ref x0), (1, .int x1), (2, .int x2), (3, .int x3)] DX9_doors_56 (by decide) rfl ?_
        refine R.sub (L' := [(0, .ref x0), (3, .int x3), (4, .int (iI 0))]) [1, 4, 0] rfl ?_
        obtain ⟨r15, hi, h⟩ := bind_some h
        have hE : (fun u58 : Hp => R G MX9_doors 81 [(0, .ref x0), (3, .int x3)] [] u58 (some (.int w.1), w.2)) r15 → ∀ (q4 : Int32) (qs : Hp), iter (fX9_doors_l58 x0 x3) FU (q4, qs) = some r15 → R G MX9_doors 58 [(0, .ref x0), (3, .int x3), (4, .int q4)] [] qs (some (.int w.1), w.2) := fun hX q4 qs hj => loop_R (fX9_doors_l58 x0 x3) (fun p58 : Int32 × Hp => R G MX9_doors 58 [(0, .ref x0), (3, .int x3), (4, .int p58.1)] [] p58.2 (some (.int w.1), w.2)) (fun u58 : Hp => R G MX9_doors 81 [(0, .ref x0), (3, .int x3)] [] u58 (some (.int w.1), w.2)) (fun a w hw hc he => tX9_doors_l58 hw (fun q4 qs e => hc (q4, qs) e) (fun qs e => he qs e)) FU (q4, qs) r15 hj hX
        refine hE ?_ _ _ hi
        clear hE hi
        refine R_constI DX9_doors_81 ci_0 ?_
        refine R_istore [(4, .int (iI 0)), (0, .ref x0), (3, .int x3)] DX9_doors_82 (by decide) rfl ?_
        refine R_constI DX9_doors_84 ci_0 ?_
        refine R_istore [(5, .int (iI 0)), (4, .int (iI 0)), (0, .ref x0), (3, .int x3)] DX9_doors_85 (by decide) rfl ?_
        refine R.sub (L' := [(0, .ref x0), (3, .int x3), (4, .int (iI 0)), (5, .int (iI 0))]) [2, 3, 1, 0] rfl ?_
        obtain ⟨r35, hi, h⟩ := bind_some h
        have hE : (fun u87 : Int32 × Hp => R G MX9_doors 189 [(3, .int x3), (4, .int u87.1)] [] u87.2 (some (.int w.1), w.2)) r35 → ∀ (q4 : Int32) (q5 : Int32) (qs : Hp), iter (fX9_doors_l87 x0 x3) FU (q4, q5, qs) = some r35 → R G MX9_doors 87 [(0, .ref x0), (3, .int x3), (4, .int q4), (5, .int q5)] [] qs (some (.int w.1), w.2) := fun hX q4 q5 qs hj => loop_R (fX9_doors_l87 x0 x3) (fun p87 : Int32 × Int32 × Hp => R G MX9_doors 87 [(0, .ref x0), (3, .int x3), (4, .int p87.1), (5, .int p87.2.1)] [] p87.2.2 (some (.int w.1), w.2)) (fun u87 : Int32 × Hp => R G MX9_doors 189 [(3, .int x3), (4, .int u87.1)] [] u87.2 (some (.int w.1), w.2)) (fun a w hw hc he => tX9_doors_l87 hw (fun q4 q5 qs e => hc (q4, q5, qs) e) (fun q4 qs e => he (q4, qs) e)) FU (q4, q5, qs) r35 hj hX
        refine hE ?_ _ _ _ hi
        clear hE hi
        refine R_iload DX9_doors_189 0 rfl ?_
        by_cases c36 : x3 = 0
        · replace h := if_t h c36
          refine R_if_ne_f DX9_doors_190 c36 ?_
          refine R_iload DX9_doors_193 1 rfl ?_
          obtain ⟨r37, er37, h⟩ := bind_some h
          refine R_cS1 [.int r35.1] DX9_doors_195 kzsX9_sizeOf ml_RX9_503 ⟨Nat.le_of_ble_eq_true rfl, Nat.le_of_ble_eq_true rfl⟩ rfl (Nat.le_of_ble_eq_true rfl) (kX9_sizeOf er37) ?_
          refine R_goto DX9_doors_198 ?_
          cases h
          exact R_ireturn rfl DX9_doors_203
        · replace h := if_f h c36
          refine R_if_ne_t DX9_doors_190 c36 ?_
          refine R_iload DX9_doors_201 1 rfl ?_
          cases h
          exact R_ireturn rfl DX9_doors_203
set_option maxRecDepth 8000 in
theorem kX9_cellOf {G : Gm} {x0 : Nat} {x1 : Int32} {x2 : Int32} {x3 : Int32} {s : Hp} {w : Int32 × Hp} (h : fX9_cellOf x0 x1 x2 x3 s = some w) : (s.2.2 x0).1 = 9 ∧ Call G MX9_cellOf [.ref x0, .int x1, .int x2, .int x3] s (some (.int w.1), w.2) := by
  unfold fX9_cellOf at h
  obtain ⟨_, e0, h⟩ := bind_some h
  refine ⟨ck_some e0, Call.of_R pnRX9 (Nat.le_of_ble_eq_true rfl) ?_⟩
  clear e0
  show R G MX9_cellOf 0 [(0, .ref x0), (1, .int x1), (2, .int x2), (3, .int x3)] [] s (some (.int w.1), w.2)
  refine R_iload DX9_cellOf_0 1 rfl ?_
  refine R_constI DX9_cellOf_1 ci_8 ?_
  refine R_imul DX9_cellOf_3 ?_
  refine R_iload DX9_cellOf_4 2 rfl ?_
  refine R_iadd DX9_cellOf_5 ?_
  refine R_constI DX9_cellOf_6 ci_5 ?_
  refine R_imul DX9_cellOf_7 ?_
  refine R_iload DX9_cellOf_8 3 rfl ?_
  refine R_iadd DX9_cellOf_9 ?_
  cases h
  exact R_ireturn rfl DX9_cellOf_10
set_option maxRecDepth 8000 in
theorem tX9_laysCanBe_b89 {G : Gm} {x0 : Nat} {x2 : Int32} {x3 : Int32} {x4 : Int32} {x5 : Int32} {y0 : Nat} {y1 : Int32} {y2 : Int32} {s : Hp} {o : Option Value × Hp} {w : (Int32 × Hp) ⊕ ((Hp))} (h : fX9_laysCanBe_b89 x0 x2 x3 x4 x5 y0 y1 y2 s = some w) (hc : ∀ (q5 : Int32) (qs : Hp), w = .inl (q5, qs) → R G MX9_laysCanBe 46 [(0, .ref x0), (2, .int x2), (3, .int x3), (4, .int x4), (5, .int q5)] [] qs o) (he0 : ∀ (qs : Hp), w = .inr qs → R G MX9_laysCanBe 96 [(0, .ref x0), (2, .int x2), (3, .int x3), (4, .int x4)] [] qs o) : R G MX9_laysCanBe 89 [(0, .ref x0), (2, .int x2), (3, .int x3), (4, .int x4), (5, .int x5)] [.int y2, .int y1, .ref y0] s o := by
  unfold fX9_laysCanBe_b89 at h
  obtain ⟨s13, es13, h⟩ := bind_some h
  refine R_sZ DX9_laysCanBe_89 es13 ?_
  refine R_iinc [(5, .int (x5 + iI 1)), (0, .ref x0), (2, .int x2), (3, .int x3), (4, .int x4)] DX9_laysCanBe_90 4 rfl (v := x5 + iI 1) (by rfl) (by decide) rfl ?_
  refine R_goto DX9_laysCanBe_93 ?_
  refine R.sub (L' := [(0, .ref x0), (2, .int x2), (3, .int x3), (4, .int x4), (5, .int (x5 + iI 1))]) [1, 2, 3, 4, 0] rfl ?_
  cases h
  exact hc _ _ rfl
set_option maxRecDepth 8000 in
theorem tX9_laysCanBe_l46 {G : Gm} {x0 : Nat} {x2 : Int32} {x3 : Int32} {x4 : Int32} {o : Option Value × Hp} {a : Int32 × Hp} {w : (Int32 × Hp) ⊕ ((Hp))} (h : fX9_laysCanBe_l46 x0 x2 x3 x4 a = some w) (hc : ∀ (q5 : Int32) (qs : Hp), w = .inl (q5, qs) → R G MX9_laysCanBe 46 [(0, .ref x0), (2, .int x2), (3, .int x3), (4, .int x4), (5, .int q5)] [] qs o) (he0 : ∀ (qs : Hp), w = .inr qs → R G MX9_laysCanBe 96 [(0, .ref x0), (2, .int x2), (3, .int x3), (4, .int x4)] [] qs o) : R G MX9_laysCanBe 46 [(0, .ref x0), (2, .int x2), (3, .int x3), (4, .int x4), (5, .int a.1)] [] a.2 o := by
  unfold fX9_laysCanBe_l46 at h
  refine R_iload DX9_laysCanBe_46 4 rfl ?_
  refine R_constI DX9_laysCanBe_48 ci_5 ?_
  by_cases c8 : (iI 5) ≤ a.1
  · replace h := if_t h c8
    refine R_icmp_ge_t DX9_laysCanBe_49 c8 ?_
    refine R.sub (L' := [(0, .ref x0), (2, .int x2), (3, .int x3), (4, .int x4)]) [0, 1, 2, 3] rfl ?_
    cases h
    exact he0 _ rfl
  · replace h := if_f h c8
    refine R_icmp_ge_f DX9_laysCanBe_49 c8 ?_
    refine R_aload DX9_laysCanBe_52 0 rfl ?_
    obtain ⟨v9, ev9, h⟩ := bind_some h
    refine R_gR DX9_laysCanBe_53 fl_RX9_89 ev9 ?_
    refine R_constI DX9_laysCanBe_56 ci_320 ?_
    refine R_iload DX9_laysCanBe_59 1 rfl ?_
    refine R_imul DX9_laysCanBe_60 ?_
    refine R_aload DX9_laysCanBe_61 0 rfl ?_
    refine R_iload DX9_laysCanBe_62 2 rfl ?_
    refine R_iload DX9_laysCanBe_63 3 rfl ?_
    refine R_iload DX9_laysCanBe_65 4 rfl ?_
    obtain ⟨r10, er10, h⟩ := bind_some h
    refine R_cV1 [.int x3, .int x4, .int a.1] DX9_laysCanBe_67 kzvX9_cellOf ml_RX9_506 ⟨Nat.le_of_ble_eq_true rfl, Nat.le_of_ble_eq_true rfl⟩ rfl (Nat.le_of_ble_eq_true rfl) (kX9_cellOf er10) ?_
    refine R_iadd DX9_laysCanBe_70 ?_
    refine R_aload DX9_laysCanBe_71 0 rfl ?_
    refine R_iload DX9_laysCanBe_72 2 rfl ?_
    refine R_iload DX9_laysCanBe_73 3 rfl ?_
    refine R_iload DX9_laysCanBe_75 4 rfl ?_
    obtain ⟨r11, er11, h⟩ := bind_some h
    refine R_cV1 [.int x3, .int x4, .int a.1] DX9_laysCanBe_77 kzvX9_mostLeft ml_RX9_461 ⟨Nat.le_of_ble_eq_true rfl, Nat.le_of_ble_eq_true rfl⟩ rfl (Nat.le_of_ble_eq_true rfl) (kX9_mostLeft er11) ?_
    refine R_constI DX9_laysCanBe_80 ci_m1 ?_
    by_cases c12 : r11.1 = (iI (-1))
    · replace h := if_t h c12
      refine R_icmp_eq_t DX9_laysCanBe_81 c12 ?_
      refine R_constI DX9_laysCanBe_88 ci_0 ?_
      exact tX9_laysCanBe_b89 h hc he0
    · replace h := if_f h c12
      refine R_icmp_eq_f DX9_laysCanBe_81 c12 ?_
      refine R_constI DX9_laysCanBe_84 ci_1 ?_
      refine R_goto DX9_laysCanBe_85 ?_
      exact tX9_laysCanBe_b89 h hc he0
set_option maxRecDepth 8000 in
theorem tX9_laysCanBe_l36 {G : Gm} {x0 : Nat} {x2 : Int32} {x3 : Int32} {o : Option Value × Hp} {a : Int32 × Hp} {w : (Int32 × Hp) ⊕ ((Hp))} (h : fX9_laysCanBe_l36 x0 x2 x3 a = some w) (hc : ∀ (q4 : Int32) (qs : Hp), w = .inl (q4, qs) → R G MX9_laysCanBe 36 [(0, .ref x0), (2, .int x2), (3, .int x3), (4, .int q4)] [] qs o) (he0 : ∀ (qs : Hp), w = .inr qs → R G MX9_laysCanBe 102 [(0, .ref x0), (2, .int x2), (3, .int x3)] [] qs o) : R G MX9_laysCanBe 36 [(0, .ref x0), (2, .int x2), (3, .int x3), (4, .int a.1)] [] a.2 o := by
  unfold fX9_laysCanBe_l36 at h
  refine R_iload DX9_laysCanBe_36 3 rfl ?_
  refine R_constI DX9_laysCanBe_38 ci_8 ?_
  by_cases c7 : (iI 8) ≤ a.1
  · replace h := if_t h c7
    refine R_icmp_ge_t DX9_laysCanBe_40 c7 ?_
    refine R.sub (L' := [(0, .ref x0), (2, .int x2), (3, .int x3)]) [0, 1, 2] rfl ?_
    cases h
    exact he0 _ rfl
  · replace h := if_f h c7
    refine R_icmp_ge_f DX9_laysCanBe_40 c7 ?_
    refine R_constI DX9_laysCanBe_43 ci_0 ?_
    refine R_istore [(5, .int (iI 0)), (0, .ref x0), (2, .int x2), (3, .int x3), (4, .int a.1)] DX9_laysCanBe_44 (by decide) rfl ?_
    refine R.sub (L' := [(0, .ref x0), (2, .int x2), (3, .int x3), (4, .int a.1), (5, .int (iI 0))]) [1, 2, 3, 4, 0] rfl ?_
    obtain ⟨r14, hi, h⟩ := bind_some h
    have hE : (fun u46 : Hp => R G MX9_laysCanBe 96 [(0, .ref x0), (2, .int x2), (3, .int x3), (4, .int a.1)] [] u46 o) r14 → ∀ (q5 : Int32) (qs : Hp), iter (fX9_laysCanBe_l46 x0 x2 x3 a.1) FU (q5, qs) = some r14 → R G MX9_laysCanBe 46 [(0, .ref x0), (2, .int x2), (3, .int x3), (4, .int a.1), (5, .int q5)] [] qs o := fun hX q5 qs hj => loop_R (fX9_laysCanBe_l46 x0 x2 x3 a.1) (fun p46 : Int32 × Hp => R G MX9_laysCanBe 46 [(0, .ref x0), (2, .int x2), (3, .int x3), (4, .int a.1), (5, .int p46.1)] [] p46.2 o) (fun u46 : Hp => R G MX9_laysCanBe 96 [(0, .ref x0), (2, .int x2), (3, .int x3), (4, .int a.1)] [] u46 o) (fun a w hw hc he => tX9_laysCanBe_l46 hw (fun q5 qs e => hc (q5, qs) e) (fun qs e => he qs e)) FU (q5, qs) r14 hj hX
    refine hE ?_ _ _ hi
    clear hE hi
    refine R_iinc [(4, .int (a.1 + iI 1)), (0, .ref x0), (2, .int x2), (3, .int x3)] DX9_laysCanBe_96 3 rfl (v := a.1 + iI 1) (by rfl) (by decide) rfl ?_
    refine R_goto DX9_laysCanBe_99 ?_
    refine R.sub (L' := [(0, .ref x0), (2, .int x2), (3, .int x3), (4, .int (a.1 + iI 1))]) [1, 2, 3, 0] rfl ?_
    cases h
    exact hc _ _ rfl
set_option maxRecDepth 8000 in
theorem tX9_laysCanBe_l27 {G : Gm} {x0 : Nat} {x2 : Int32} {o : Option Value × Hp} {a : Int32 × Hp} {w : (Int32 × Hp) ⊕ ((Hp))} (h : fX9_laysCanBe_l27 x0 x2 a = some w) (hc : ∀ (q3 : Int32) (qs : Hp), w = .inl (q3, qs) → R G MX9_laysCanBe 27 [(0, .ref x0), (2, .int x2), (3, .int q3)] [] qs o) (he0 : ∀ (qs : Hp), w = .inr qs → R G MX9_laysCanBe 108 [(0, .ref x0), (2, .int x2)] [] qs o) : R G MX9_laysCanBe 27 [(0, .ref x0), (2, .int x2), (3, .int a.1)] [] a.2 o := by
  unfold fX9_laysCanBe_l27 at h
  refine R_iload DX9_laysCanBe_27 2 rfl ?_
  refine R_constI DX9_laysCanBe_28 ci_8 ?_
  by_cases c6 : (iI 8) ≤ a.1
  · replace h := if_t h c6
    refine R_icmp_ge_t DX9_laysCanBe_30 c6 ?_
    refine R.sub (L' := [(0, .ref x0), (2, .int x2)]) [0, 1] rfl ?_
    cases h
    exact he0 _ rfl
  · replace h := if_f h c6
    refine R_icmp_ge_f DX9_laysCanBe_30 c6 ?_
    refine R_constI DX9_laysCanBe_33 ci_0 ?_
    refine R_istore [(4, .int (iI 0)), (0, .ref x0), (2, .int x2), (3, .int a.1)] DX9_laysCanBe_34 (by decide) rfl ?_
    refine R.sub (L' := [(0, .ref x0), (2, .int x2), (3, .int a.1), (4, .int (iI 0))]) [1, 2, 3, 0] rfl ?_
    obtain ⟨r15, hi, h⟩ := bind_some h
    have hE : (fun u36 : Hp => R G MX9_laysCanBe 102 [(0, .ref x0), (2, .int x2), (3, .int a.1)] [] u36 o) r15 → ∀ (q4 : Int32) (qs : Hp), iter (fX9_laysCanBe_l36 x0 x2 a.1) FU (q4, qs) = some r15 → R G MX9_laysCanBe 36 [(0, .ref x0), (2, .int x2), (3, .int a.1), (4, .int q4)] [] qs o := fun hX q4 qs hj => loop_R (fX9_laysCanBe_l36 x0 x2 a.1) (fun p36 : Int32 × Hp => R G MX9_laysCanBe 36 [(0, .ref x0), (2, .int x2), (3, .int a.1), (4, .int p36.1)] [] p36.2 o) (fun u36 : Hp => R G MX9_laysCanBe 102 [(0, .ref x0), (2, .int x2), (3, .int a.1)] [] u36 o) (fun a w hw hc he => tX9_laysCanBe_l36 hw (fun q4 qs e => hc (q4, qs) e) (fun qs e => he qs e)) FU (q4, qs) r15 hj hX
    refine hE ?_ _ _ hi
    clear hE hi
    refine R_iinc [(3, .int (a.1 + iI 1)), (0, .ref x0), (2, .int x2)] DX9_laysCanBe_102 2 rfl (v := a.1 + iI 1) (by rfl) (by decide) rfl ?_
    refine R_goto DX9_laysCanBe_105 ?_
    refine R.sub (L' := [(0, .ref x0), (2, .int x2), (3, .int (a.1 + iI 1))]) [1, 2, 0] rfl ?_
    cases h
    exact hc _ _ rfl
set_option maxRecDepth 8000 in
theorem tX9_laysCanBe_l10 {G : Gm} {x0 : Nat} {o : Option Value × Hp} {a : Int32 × Hp} {w : (Int32 × Hp) ⊕ ((Hp))} (h : fX9_laysCanBe_l10 x0 a = some w) (hc : ∀ (q2 : Int32) (qs : Hp), w = .inl (q2, qs) → R G MX9_laysCanBe 10 [(0, .ref x0), (2, .int q2)] [] qs o) (he0 : ∀ (qs : Hp), w = .inr qs → R G MX9_laysCanBe 114 [] [] qs o) : R G MX9_laysCanBe 10 [(0, .ref x0), (2, .int a.1)] [] a.2 o := by
  unfold fX9_laysCanBe_l10 at h
  refine R_iload DX9_laysCanBe_10 1 rfl ?_
  refine R_aload DX9_laysCanBe_11 0 rfl ?_
  obtain ⟨v2, ev2, h⟩ := bind_some h
  refine R_gR DX9_laysCanBe_12 fl_RX9_34 ev2 ?_
  refine R_constI DX9_laysCanBe_15 ci_3 ?_
  obtain ⟨v3, ev3, h⟩ := bind_some h
  refine R_aI DX9_laysCanBe_16 ev3 ?_
  by_cases c4 : v3 ≤ a.1
  · replace h := if_t h c4
    refine R_icmp_ge_t DX9_laysCanBe_17 c4 ?_
    refine R.sub (L' := []) [] rfl ?_
    cases h
    exact he0 _ rfl
  · replace h := if_f h c4
    refine R_icmp_ge_f DX9_laysCanBe_17 c4 ?_
    refine R_aload DX9_laysCanBe_20 0 rfl ?_
    refine R_iload DX9_laysCanBe_21 1 rfl ?_
    obtain ⟨s5, es5, h⟩ := bind_some h
    refine R_cV0 [.int a.1] DX9_laysCanBe_22 kzvX9_hourFree ml_RX9_464 ⟨Nat.le_of_ble_eq_true rfl, Nat.le_of_ble_eq_true rfl⟩ rfl (Nat.le_of_ble_eq_true rfl) (kX9_hourFree es5) ?_
    refine R_constI DX9_laysCanBe_25 ci_0 ?_
    refine R_istore [(3, .int (iI 0)), (0, .ref x0), (2, .int a.1)] DX9_laysCanBe_26 (by decide) rfl ?_
    refine R.sub (L' := [(0, .ref x0), (2, .int a.1), (3, .int (iI 0))]) [1, 2, 0] rfl ?_
    obtain ⟨r16, hi, h⟩ := bind_some h
    have hE : (fun u27 : Hp => R G MX9_laysCanBe 108 [(0, .ref x0), (2, .int a.1)] [] u27 o) r16 → ∀ (q3 : Int32) (qs : Hp), iter (fX9_laysCanBe_l27 x0 a.1) FU (q3, qs) = some r16 → R G MX9_laysCanBe 27 [(0, .ref x0), (2, .int a.1), (3, .int q3)] [] qs o := fun hX q3 qs hj => loop_R (fX9_laysCanBe_l27 x0 a.1) (fun p27 : Int32 × Hp => R G MX9_laysCanBe 27 [(0, .ref x0), (2, .int a.1), (3, .int p27.1)] [] p27.2 o) (fun u27 : Hp => R G MX9_laysCanBe 108 [(0, .ref x0), (2, .int a.1)] [] u27 o) (fun a w hw hc he => tX9_laysCanBe_l27 hw (fun q3 qs e => hc (q3, qs) e) (fun qs e => he qs e)) FU (q3, qs) r16 hj hX
    refine hE ?_ _ _ hi
    clear hE hi
    refine R_iinc [(2, .int (a.1 + iI 1)), (0, .ref x0)] DX9_laysCanBe_108 1 rfl (v := a.1 + iI 1) (by rfl) (by decide) rfl ?_
    refine R_goto DX9_laysCanBe_111 ?_
    refine R.sub (L' := [(0, .ref x0), (2, .int (a.1 + iI 1))]) [1, 0] rfl ?_
    cases h
    exact hc _ _ rfl
set_option maxRecDepth 8000 in
theorem kX9_laysCanBe {G : Gm} {x0 : Nat} {x1 : Int32} {s : Hp} {w : Hp} (h : fX9_laysCanBe x0 x1 s = some w) : (s.2.2 x0).1 = 9 ∧ Call G MX9_laysCanBe [.ref x0, .int x1] s (none, w) := by
  unfold fX9_laysCanBe at h
  obtain ⟨_, e0, h⟩ := bind_some h
  refine ⟨ck_some e0, Call.of_R pnRX9 (Nat.le_of_ble_eq_true rfl) ?_⟩
  clear e0
  show R G MX9_laysCanBe 0 [(0, .ref x0), (1, .int x1)] [] s (none, w)
  refine R_aload DX9_laysCanBe_0 0 rfl ?_
  refine R_iload DX9_laysCanBe_1 1 rfl ?_
  refine R_constI DX9_laysCanBe_2 ci_9 ?_
  refine R_constI DX9_laysCanBe_4 ci_0 ?_
  obtain ⟨s1, es1, h⟩ := bind_some h
  refine R_cV0 [.int x1, .int (iI 9), .int (iI 0)] DX9_laysCanBe_5 kzvX9_starts ml_RX9_458 ⟨Nat.le_of_ble_eq_true rfl, Nat.le_of_ble_eq_true rfl⟩ rfl (Nat.le_of_ble_eq_true rfl) (kX9_starts es1) ?_
  refine R_constI DX9_laysCanBe_8 ci_0 ?_
  refine R_istore [(2, .int (iI 0)), (0, .ref x0), (1, .int x1)] DX9_laysCanBe_9 (by decide) rfl ?_
  refine R.sub (L' := [(0, .ref x0), (2, .int (iI 0))]) [1, 0] rfl ?_
  obtain ⟨r17, hi, h⟩ := bind_some h
  have hE : (fun u10 : Hp => R G MX9_laysCanBe 114 [] [] u10 (none, w)) r17 → ∀ (q2 : Int32) (qs : Hp), iter (fX9_laysCanBe_l10 x0) FU (q2, qs) = some r17 → R G MX9_laysCanBe 10 [(0, .ref x0), (2, .int q2)] [] qs (none, w) := fun hX q2 qs hj => loop_R (fX9_laysCanBe_l10 x0) (fun p10 : Int32 × Hp => R G MX9_laysCanBe 10 [(0, .ref x0), (2, .int p10.1)] [] p10.2 (none, w)) (fun u10 : Hp => R G MX9_laysCanBe 114 [] [] u10 (none, w)) (fun a w hw hc he => tX9_laysCanBe_l10 hw (fun q2 qs e => hc (q2, qs) e) (fun qs e => he qs e)) FU (q2, qs) r17 hj hX
  refine hE ?_ _ _ hi
  clear hE hi
  cases h
  exact R_return rfl DX9_laysCanBe_114
set_option maxRecDepth 8000 in
theorem tX9_isNear_b86 {G : Gm} {x0 : Nat} {x1 : Int32} {x2 : Int32} {x3 : Int32} {x4 : Int32} {x5 : Int32} {x6 : Int32} {x7 : Int32} {x8 : Int32} {s : Hp} {o : Option Value × Hp} {w : (Int32 × Hp) ⊕ ((Hp) ⊕ (Hp))} (h : fX9_isNear_b86 x0 x1 x2 x3 x4 x5 x6 x7 x8 s = some w) (hc : ∀ (q8 : Int32) (qs : Hp), w = .inl (q8, qs) → R G MX9_isNear 37 [(0, .ref x0), (1, .int x1), (2, .int x2), (3, .int x3), (4, .int x4), (5, .int x5), (6, .int x6), (7, .int x7), (8, .int q8)] [] qs o) (he0 : ∀ (qs : Hp), w = .inr (.inl qs) → R G MX9_isNear 92 [(0, .ref x0), (1, .int x1), (2, .int x2), (3, .int x3), (4, .int x4), (5, .int x5), (6, .int x6), (7, .int x7)] [] qs o) (he1 : ∀ (qs : Hp), w = .inr (.inr qs) → R G MX9_isNear 84 [] [] qs o) : R G MX9_isNear 86 [(0, .ref x0), (1, .int x1), (2, .int x2), (3, .int x3), (4, .int x4), (5, .int x5), (6, .int x6), (7, .int x7), (8, .int x8)] [] s o := by
  unfold fX9_isNear_b86 at h
  refine R_iinc [(8, .int (x8 + iI 1)), (0, .ref x0), (1, .int x1), (2, .int x2), (3, .int x3), (4, .int x4), (5, .int x5), (6, .int x6), (7, .int x7)] DX9_isNear_86 8 rfl (v := x8 + iI 1) (by rfl) (by decide) rfl ?_
  refine R_goto DX9_isNear_89 ?_
  refine R.sub (L' := [(0, .ref x0), (1, .int x1), (2, .int x2), (3, .int x3), (4, .int x4), (5, .int x5), (6, .int x6), (7, .int x7), (8, .int (x8 + iI 1))]) [1, 2, 3, 4, 5, 6, 7, 8, 0] rfl ?_
  cases h
  exact hc _ _ rfl
set_option maxRecDepth 8000 in
theorem tX9_isNear_l37 {G : Gm} {x0 : Nat} {x1 : Int32} {x2 : Int32} {x3 : Int32} {x4 : Int32} {x5 : Int32} {x6 : Int32} {x7 : Int32} {o : Option Value × Hp} {a : Int32 × Hp} {w : (Int32 × Hp) ⊕ ((Hp) ⊕ (Hp))} (h : fX9_isNear_l37 x0 x1 x2 x3 x4 x5 x6 x7 a = some w) (hc : ∀ (q8 : Int32) (qs : Hp), w = .inl (q8, qs) → R G MX9_isNear 37 [(0, .ref x0), (1, .int x1), (2, .int x2), (3, .int x3), (4, .int x4), (5, .int x5), (6, .int x6), (7, .int x7), (8, .int q8)] [] qs o) (he0 : ∀ (qs : Hp), w = .inr (.inl qs) → R G MX9_isNear 92 [(0, .ref x0), (1, .int x1), (2, .int x2), (3, .int x3), (4, .int x4), (5, .int x5), (6, .int x6), (7, .int x7)] [] qs o) (he1 : ∀ (qs : Hp), w = .inr (.inr qs) → R G MX9_isNear 84 [] [] qs o) : R G MX9_isNear 37 [(0, .ref x0), (1, .int x1), (2, .int x2), (3, .int x3), (4, .int x4), (5, .int x5), (6, .int x6), (7, .int x7), (8, .int a.1)] [] a.2 o := by
  unfold fX9_isNear_l37 at h
  refine R_iload DX9_isNear_37 8 rfl ?_
  refine R_iload DX9_isNear_39 4 rfl ?_
  refine R_iload DX9_isNear_41 5 rfl ?_
  refine R_iadd DX9_isNear_43 ?_
  by_cases c6 : (x4 + x5) < a.1
  · replace h := if_t h c6
    refine R_icmp_gt_t DX9_isNear_44 c6 ?_
    refine R.sub (L' := [(0, .ref x0), (1, .int x1), (2, .int x2), (3, .int x3), (4, .int x4), (5, .int x5), (6, .int x6), (7, .int x7)]) [0, 1, 2, 3, 4, 5, 6, 7] rfl ?_
    cases h
    exact he0 _ rfl
  · replace h := if_f h c6
    refine R_icmp_gt_f DX9_isNear_44 c6 ?_
    refine R_aload DX9_isNear_47 0 rfl ?_
    refine R_iload DX9_isNear_48 6 rfl ?_
    refine R_iload DX9_isNear_50 7 rfl ?_
    refine R_iload DX9_isNear_52 8 rfl ?_
    obtain ⟨r7, er7, h⟩ := bind_some h
    refine R_cV1 [.int x6, .int x7, .int a.1] DX9_isNear_54 kzvX9_isCell ml_RX9_455 ⟨Nat.le_of_ble_eq_true rfl, Nat.le_of_ble_eq_true rfl⟩ rfl (Nat.le_of_ble_eq_true rfl) (kX9_isCell er7) ?_
    by_cases c8 : r7.1 = 0
    · replace h := if_t h c8
      refine R_if_eq_t DX9_isNear_57 c8 ?_
      exact tX9_isNear_b86 h hc he0 he1
    · replace h := if_f h c8
      refine R_if_eq_f DX9_isNear_57 c8 ?_
      refine R_aload DX9_isNear_60 0 rfl ?_
      obtain ⟨v9, ev9, h⟩ := bind_some h
      refine R_gR DX9_isNear_61 fl_RX9_89 ev9 ?_
      refine R_constI DX9_isNear_64 ci_320 ?_
      refine R_iload DX9_isNear_67 1 rfl ?_
      refine R_imul DX9_isNear_68 ?_
      refine R_aload DX9_isNear_69 0 rfl ?_
      refine R_iload DX9_isNear_70 6 rfl ?_
      refine R_iload DX9_isNear_72 7 rfl ?_
      refine R_iload DX9_isNear_74 8 rfl ?_
      obtain ⟨r10, er10, h⟩ := bind_some h
      refine R_cV1 [.int x6, .int x7, .int a.1] DX9_isNear_76 kzvX9_cellOf ml_RX9_506 ⟨Nat.le_of_ble_eq_true rfl, Nat.le_of_ble_eq_true rfl⟩ rfl (Nat.le_of_ble_eq_true rfl) (kX9_cellOf er10) ?_
      refine R_iadd DX9_isNear_79 ?_
      obtain ⟨v11, ev11, h⟩ := bind_some h
      refine R_aZ DX9_isNear_80 ev11 ?_
      by_cases c12 : v11 = 0
      · replace h := if_t h c12
        refine R_if_eq_t DX9_isNear_81 c12 ?_
        exact tX9_isNear_b86 h hc he0 he1
      · replace h := if_f h c12
        refine R_if_eq_f DX9_isNear_81 c12 ?_
        refine R.sub (L' := []) [] rfl ?_
        cases h
        exact he1 _ rfl
set_option maxRecDepth 8000 in
theorem tX9_isNear_l21 {G : Gm} {x0 : Nat} {x1 : Int32} {x2 : Int32} {x3 : Int32} {x4 : Int32} {x5 : Int32} {x6 : Int32} {o : Option Value × Hp} {a : Int32 × Hp} {w : (Int32 × Hp) ⊕ ((Hp) ⊕ (Hp))} (h : fX9_isNear_l21 x0 x1 x2 x3 x4 x5 x6 a = some w) (hc : ∀ (q7 : Int32) (qs : Hp), w = .inl (q7, qs) → R G MX9_isNear 21 [(0, .ref x0), (1, .int x1), (2, .int x2), (3, .int x3), (4, .int x4), (5, .int x5), (6, .int x6), (7, .int q7)] [] qs o) (he0 : ∀ (qs : Hp), w = .inr (.inl qs) → R G MX9_isNear 98 [(0, .ref x0), (1, .int x1), (2, .int x2), (3, .int x3), (4, .int x4), (5, .int x5), (6, .int x6)] [] qs o) (he1 : ∀ (qs : Hp), w = .inr (.inr qs) → R G MX9_isNear 84 [] [] qs o) : R G MX9_isNear 21 [(0, .ref x0), (1, .int x1), (2, .int x2), (3, .int x3), (4, .int x4), (5, .int x5), (6, .int x6), (7, .int a.1)] [] a.2 o := by
  unfold fX9_isNear_l21 at h
  refine R_iload DX9_isNear_21 7 rfl ?_
  refine R_iload DX9_isNear_23 3 rfl ?_
  refine R_iload DX9_isNear_24 5 rfl ?_
  refine R_iadd DX9_isNear_26 ?_
  by_cases c4 : (x3 + x5) < a.1
  · replace h := if_t h c4
    refine R_icmp_gt_t DX9_isNear_27 c4 ?_
    refine R.sub (L' := [(0, .ref x0), (1, .int x1), (2, .int x2), (3, .int x3), (4, .int x4), (5, .int x5), (6, .int x6)]) [0, 1, 2, 3, 4, 5, 6] rfl ?_
    cases h
    exact he0 _ rfl
  · replace h := if_f h c4
    refine R_icmp_gt_f DX9_isNear_27 c4 ?_
    refine R_iload DX9_isNear_30 4 rfl ?_
    refine R_iload DX9_isNear_32 5 rfl ?_
    refine R_isub DX9_isNear_34 ?_
    obtain ⟨z5, ez5, h⟩ := lt_some h
    refine R_istoreE ez5 [(8, .int z5), (0, .ref x0), (1, .int x1), (2, .int x2), (3, .int x3), (4, .int x4), (5, .int x5), (6, .int x6), (7, .int a.1)] DX9_isNear_35 (by decide) rfl ?_
    refine R.sub (L' := [(0, .ref x0), (1, .int x1), (2, .int x2), (3, .int x3), (4, .int x4), (5, .int x5), (6, .int x6), (7, .int a.1), (8, .int z5)]) [1, 2, 3, 4, 5, 6, 7, 8, 0] rfl ?_
    obtain ⟨r13, hi, h⟩ := bind_some h
    have hE : (Sum.elim (fun u37 : Hp => R G MX9_isNear 92 [(0, .ref x0), (1, .int x1), (2, .int x2), (3, .int x3), (4, .int x4), (5, .int x5), (6, .int x6), (7, .int a.1)] [] u37 o) (fun u37 : Hp => R G MX9_isNear 84 [] [] u37 o)) r13 → ∀ (q8 : Int32) (qs : Hp), iter (fX9_isNear_l37 x0 x1 x2 x3 x4 x5 x6 a.1) FU (q8, qs) = some r13 → R G MX9_isNear 37 [(0, .ref x0), (1, .int x1), (2, .int x2), (3, .int x3), (4, .int x4), (5, .int x5), (6, .int x6), (7, .int a.1), (8, .int q8)] [] qs o := fun hX q8 qs hj => loop_R (fX9_isNear_l37 x0 x1 x2 x3 x4 x5 x6 a.1) (fun p37 : Int32 × Hp => R G MX9_isNear 37 [(0, .ref x0), (1, .int x1), (2, .int x2), (3, .int x3), (4, .int x4), (5, .int x5), (6, .int x6), (7, .int a.1), (8, .int p37.1)] [] p37.2 o) (Sum.elim (fun u37 : Hp => R G MX9_isNear 92 [(0, .ref x0), (1, .int x1), (2, .int x2), (3, .int x3), (4, .int x4), (5, .int x5), (6, .int x6), (7, .int a.1)] [] u37 o) (fun u37 : Hp => R G MX9_isNear 84 [] [] u37 o)) (fun a w hw hc he => tX9_isNear_l37 hw (fun q8 qs e => hc (q8, qs) e) (fun qs e => he (.inl qs) e) (fun qs e => he (.inr qs) e)) FU (q8, qs) r13 hj hX
    refine hE ?_ _ _ hi
    clear hE hi
    rcases r13 with r13a | r13b
    · replace h := el_l h
      refine R_iinc [(7, .int (a.1 + iI 1)), (0, .ref x0), (1, .int x1), (2, .int x2), (3, .int x3), (4, .int x4), (5, .int x5), (6, .int x6)] DX9_isNear_92 7 rfl (v := a.1 + iI 1) (by rfl) (by decide) rfl ?_
      refine R_goto DX9_isNear_95 ?_
      refine R.sub (L' := [(0, .ref x0), (1, .int x1), (2, .int x2), (3, .int x3), (4, .int x4), (5, .int x5), (6, .int x6), (7, .int (a.1 + iI 1))]) [1, 2, 3, 4, 5, 6, 7, 0] rfl ?_
      cases h
      exact hc _ _ rfl
    replace h := el_r h
    cases h
    exact he1 _ rfl
set_option maxRecDepth 8000 in
theorem tX9_isNear_l6 {G : Gm} {x0 : Nat} {x1 : Int32} {x2 : Int32} {x3 : Int32} {x4 : Int32} {x5 : Int32} {o : Option Value × Hp} {a : Int32 × Hp} {w : (Int32 × Hp) ⊕ ((Hp) ⊕ (Hp))} (h : fX9_isNear_l6 x0 x1 x2 x3 x4 x5 a = some w) (hc : ∀ (q6 : Int32) (qs : Hp), w = .inl (q6, qs) → R G MX9_isNear 6 [(0, .ref x0), (1, .int x1), (2, .int x2), (3, .int x3), (4, .int x4), (5, .int x5), (6, .int q6)] [] qs o) (he0 : ∀ (qs : Hp), w = .inr (.inl qs) → R G MX9_isNear 104 [] [] qs o) (he1 : ∀ (qs : Hp), w = .inr (.inr qs) → R G MX9_isNear 84 [] [] qs o) : R G MX9_isNear 6 [(0, .ref x0), (1, .int x1), (2, .int x2), (3, .int x3), (4, .int x4), (5, .int x5), (6, .int a.1)] [] a.2 o := by
  unfold fX9_isNear_l6 at h
  refine R_iload DX9_isNear_6 6 rfl ?_
  refine R_iload DX9_isNear_8 2 rfl ?_
  refine R_iload DX9_isNear_9 5 rfl ?_
  refine R_iadd DX9_isNear_11 ?_
  by_cases c2 : (x2 + x5) < a.1
  · replace h := if_t h c2
    refine R_icmp_gt_t DX9_isNear_12 c2 ?_
    refine R.sub (L' := []) [] rfl ?_
    cases h
    exact he0 _ rfl
  · replace h := if_f h c2
    refine R_icmp_gt_f DX9_isNear_12 c2 ?_
    refine R_iload DX9_isNear_15 3 rfl ?_
    refine R_iload DX9_isNear_16 5 rfl ?_
    refine R_isub DX9_isNear_18 ?_
    obtain ⟨z3, ez3, h⟩ := lt_some h
    refine R_istoreE ez3 [(7, .int z3), (0, .ref x0), (1, .int x1), (2, .int x2), (3, .int x3), (4, .int x4), (5, .int x5), (6, .int a.1)] DX9_isNear_19 (by decide) rfl ?_
    refine R.sub (L' := [(0, .ref x0), (1, .int x1), (2, .int x2), (3, .int x3), (4, .int x4), (5, .int x5), (6, .int a.1), (7, .int z3)]) [1, 2, 3, 4, 5, 6, 7, 0] rfl ?_
    obtain ⟨r14, hi, h⟩ := bind_some h
    have hE : (Sum.elim (fun u21 : Hp => R G MX9_isNear 98 [(0, .ref x0), (1, .int x1), (2, .int x2), (3, .int x3), (4, .int x4), (5, .int x5), (6, .int a.1)] [] u21 o) (fun u21 : Hp => R G MX9_isNear 84 [] [] u21 o)) r14 → ∀ (q7 : Int32) (qs : Hp), iter (fX9_isNear_l21 x0 x1 x2 x3 x4 x5 a.1) FU (q7, qs) = some r14 → R G MX9_isNear 21 [(0, .ref x0), (1, .int x1), (2, .int x2), (3, .int x3), (4, .int x4), (5, .int x5), (6, .int a.1), (7, .int q7)] [] qs o := fun hX q7 qs hj => loop_R (fX9_isNear_l21 x0 x1 x2 x3 x4 x5 a.1) (fun p21 : Int32 × Hp => R G MX9_isNear 21 [(0, .ref x0), (1, .int x1), (2, .int x2), (3, .int x3), (4, .int x4), (5, .int x5), (6, .int a.1), (7, .int p21.1)] [] p21.2 o) (Sum.elim (fun u21 : Hp => R G MX9_isNear 98 [(0, .ref x0), (1, .int x1), (2, .int x2), (3, .int x3), (4, .int x4), (5, .int x5), (6, .int a.1)] [] u21 o) (fun u21 : Hp => R G MX9_isNear 84 [] [] u21 o)) (fun a w hw hc he => tX9_isNear_l21 hw (fun q7 qs e => hc (q7, qs) e) (fun qs e => he (.inl qs) e) (fun qs e => he (.inr qs) e)) FU (q7, qs) r14 hj hX
    refine hE ?_ _ _ hi
    clear hE hi
    rcases r14 with r14a | r14b
    · replace h := el_l h
      refine R_iinc [(6, .int (a.1 + iI 1)), (0, .ref x0), (1, .int x1), (2, .int x2), (3, .int x3), (4, .int x4), (5, .int x5)] DX9_isNear_98 6 rfl (v := a.1 + iI 1) (by rfl) (by decide) rfl ?_
      refine R_goto DX9_isNear_101 ?_
      refine R.sub (L' := [(0, .ref x0), (1, .int x1), (2, .int x2), (3, .int x3), (4, .int x4), (5, .int x5), (6, .int (a.1 + iI 1))]) [1, 2, 3, 4, 5, 6, 0] rfl ?_
      cases h
      exact hc _ _ rfl
    replace h := el_r h
    cases h
    exact he1 _ rfl
set_option maxRecDepth 8000 in
theorem kX9_isNear {G : Gm} {x0 : Nat} {x1 : Int32} {x2 : Int32} {x3 : Int32} {x4 : Int32} {x5 : Int32} {s : Hp} {w : Int32 × Hp} (h : fX9_isNear x0 x1 x2 x3 x4 x5 s = some w) : (s.2.2 x0).1 = 9 ∧ Call G MX9_isNear [.ref x0, .int x1, .int x2, .int x3, .int x4, .int x5] s (some (.int w.1), w.2) := by
  unfold fX9_isNear at h
  obtain ⟨_, e0, h⟩ := bind_some h
  refine ⟨ck_some e0, Call.of_R pnRX9 (Nat.le_of_ble_eq_true rfl) ?_⟩
  clear e0
  show R G MX9_isNear 0 [(0, .ref x0), (1, .int x1), (2, .int x2), (3, .int x3), (4, .int x4), (5, .int x5)] [] s (some (.int w.1), w.2)
  refine R_iload DX9_isNear_0 2 rfl ?_
  refine R_iload DX9_isNear_1 5 rfl ?_
  refine R_isub DX9_isNear_3 ?_
  obtain ⟨z1, ez1, h⟩ := lt_some h
  refine R_istoreE ez1 [(6, .int z1), (0, .ref x0), (1, .int x1), (2, .int x2), (3, .int x3), (4, .int x4), (5, .int x5)] DX9_isNear_4 (by decide) rfl ?_
  refine R.sub (L' := [(0, .ref x0), (1, .int x1), (2, .int x2), (3, .int x3), (4, .int x4), (5, .int x5), (6, .int z1)]) [1, 2, 3, 4, 5, 6, 0] rfl ?_
  obtain ⟨r15, hi, h⟩ := bind_some h
  have hE : (Sum.elim (fun u6 : Hp => R G MX9_isNear 104 [] [] u6 (some (.int w.1), w.2)) (fun u6 : Hp => R G MX9_isNear 84 [] [] u6 (some (.int w.1), w.2))) r15 → ∀ (q6 : Int32) (qs : Hp), iter (fX9_isNear_l6 x0 x1 x2 x3 x4 x5) FU (q6, qs) = some r15 → R G MX9_isNear 6 [(0, .ref x0), (1, .int x1), (2, .int x2), (3, .int x3), (4, .int x4), (5, .int x5), (6, .int q6)] [] qs (some (.int w.1), w.2) := fun hX q6 qs hj => loop_R (fX9_isNear_l6 x0 x1 x2 x3 x4 x5) (fun p6 : Int32 × Hp => R G MX9_isNear 6 [(0, .ref x0), (1, .int x1), (2, .int x2), (3, .int x3), (4, .int x4), (5, .int x5), (6, .int p6.1)] [] p6.2 (some (.int w.1), w.2)) (Sum.elim (fun u6 : Hp => R G MX9_isNear 104 [] [] u6 (some (.int w.1), w.2)) (fun u6 : Hp => R G MX9_isNear 84 [] [] u6 (some (.int w.1), w.2))) (fun a w hw hc he => tX9_isNear_l6 hw (fun q6 qs e => hc (q6, qs) e) (fun qs e => he (.inl qs) e) (fun qs e => he (.inr qs) e)) FU (q6, qs) r15 hj hX
  refine hE ?_ _ _ hi
  clear hE hi
  rcases r15 with r15a | r15b
  · replace h := el_l h
    refine R_constI DX9_isNear_104 ci_0 ?_
    cases h
    exact R_zreturn rfl DX9_isNear_105 (by decide)
  replace h := el_r h
  refine R_constI DX9_isNear_84 ci_1 ?_
  cases h
  exact R_zreturn rfl DX9_isNear_85 (by decide)
set_option maxRecDepth 8000 in
theorem tX9_meetBy_b108 {G : Gm} {x0 : Nat} {x3 : Int32} {x4 : Int32} {x5 : Int32} {x6 : Int32} {x7 : Int32} {s : Hp} {o : Option Value × Hp} {w : (Int32 × Hp) ⊕ ((Hp) ⊕ (Hp))} (h : fX9_meetBy_b108 x0 x3 x4 x5 x6 x7 s = some w) (hc : ∀ (q7 : Int32) (qs : Hp), w = .inl (q7, qs) → R G MX9_meetBy 64 [(0, .ref x0), (3, .int x3), (4, .int x4), (5, .int x5), (6, .int x6), (7, .int q7)] [] qs o) (he0 : ∀ (qs : Hp), w = .inr (.inl qs) → R G MX9_meetBy 114 [(0, .ref x0), (3, .int x3), (4, .int x4), (5, .int x5), (6, .int x6)] [] qs o) (he1 : ∀ (qs : Hp), w = .inr (.inr qs) → R G MX9_meetBy 105 [(4, .int x4)] [] qs o) : R G MX9_meetBy 108 [(0, .ref x0), (3, .int x3), (4, .int x4), (5, .int x5), (6, .int x6), (7, .int x7)] [] s o := by
  unfold fX9_meetBy_b108 at h
  refine R_iinc [(7, .int (x7 + iI 1)), (0, .ref x0), (3, .int x3), (4, .int x4), (5, .int x5), (6, .int x6)] DX9_meetBy_108 5 rfl (v := x7 + iI 1) (by rfl) (by decide) rfl ?_
  refine R_goto DX9_meetBy_111 ?_
  refine R.sub (L' := [(0, .ref x0), (3, .int x3), (4, .int x4), (5, .int x5), (6, .int x6), (7, .int (x7 + iI 1))]) [1, 2, 3, 4, 5, 0] rfl ?_
  cases h
  exact hc _ _ rfl
set_option maxRecDepth 8000 in
theorem tX9_meetBy_l64 {G : Gm} {x0 : Nat} {x3 : Int32} {x4 : Int32} {x5 : Int32} {x6 : Int32} {o : Option Value × Hp} {a : Int32 × Hp} {w : (Int32 × Hp) ⊕ ((Hp) ⊕ (Hp))} (h : fX9_meetBy_l64 x0 x3 x4 x5 x6 a = some w) (hc : ∀ (q7 : Int32) (qs : Hp), w = .inl (q7, qs) → R G MX9_meetBy 64 [(0, .ref x0), (3, .int x3), (4, .int x4), (5, .int x5), (6, .int x6), (7, .int q7)] [] qs o) (he0 : ∀ (qs : Hp), w = .inr (.inl qs) → R G MX9_meetBy 114 [(0, .ref x0), (3, .int x3), (4, .int x4), (5, .int x5), (6, .int x6)] [] qs o) (he1 : ∀ (qs : Hp), w = .inr (.inr qs) → R G MX9_meetBy 105 [(4, .int x4)] [] qs o) : R G MX9_meetBy 64 [(0, .ref x0), (3, .int x3), (4, .int x4), (5, .int x5), (6, .int x6), (7, .int a.1)] [] a.2 o := by
  unfold fX9_meetBy_l64 at h
  refine R_iload DX9_meetBy_64 5 rfl ?_
  refine R_aload DX9_meetBy_66 0 rfl ?_
  obtain ⟨v13, ev13, h⟩ := bind_some h
  refine R_gR DX9_meetBy_67 fl_RX9_34 ev13 ?_
  refine R_constI DX9_meetBy_70 ci_2 ?_
  obtain ⟨v14, ev14, h⟩ := bind_some h
  refine R_aI DX9_meetBy_71 ev14 ?_
  by_cases c15 : v14 ≤ a.1
  · replace h := if_t h c15
    refine R_icmp_ge_t DX9_meetBy_72 c15 ?_
    refine R.sub (L' := [(0, .ref x0), (3, .int x3), (4, .int x4), (5, .int x5), (6, .int x6)]) [0, 1, 2, 3, 4] rfl ?_
    cases h
    exact he0 _ rfl
  · replace h := if_f h c15
    refine R_icmp_ge_f DX9_meetBy_72 c15 ?_
    refine R_aload DX9_meetBy_75 0 rfl ?_
    refine R_iload DX9_meetBy_76 3 rfl ?_
    refine R_iload DX9_meetBy_78 4 rfl ?_
    refine R_iload DX9_meetBy_80 5 rfl ?_
    obtain ⟨r16, er16, h⟩ := bind_some h
    refine R_cV1 [.int x5, .int x6, .int a.1] DX9_meetBy_82 kzvX9_mostLeft ml_RX9_461 ⟨Nat.le_of_ble_eq_true rfl, Nat.le_of_ble_eq_true rfl⟩ rfl (Nat.le_of_ble_eq_true rfl) (kX9_mostLeft er16) ?_
    refine R_constI DX9_meetBy_85 ci_m1 ?_
    by_cases c17 : r16.1 = (iI (-1))
    · replace h := if_t h c17
      refine R_icmp_eq_t DX9_meetBy_86 c17 ?_
      exact tX9_meetBy_b108 h hc he0 he1
    · replace h := if_f h c17
      refine R_icmp_eq_f DX9_meetBy_86 c17 ?_
      refine R_aload DX9_meetBy_89 0 rfl ?_
      refine R_iload DX9_meetBy_90 2 rfl ?_
      refine R_iload DX9_meetBy_92 3 rfl ?_
      refine R_iload DX9_meetBy_94 4 rfl ?_
      refine R_iload DX9_meetBy_96 5 rfl ?_
      refine R_iload DX9_meetBy_98 1 rfl ?_
      obtain ⟨r18, er18, h⟩ := bind_some h
      refine R_cV1 [.int x4, .int x5, .int x6, .int a.1, .int x3] DX9_meetBy_99 kzvX9_isNear ml_RX9_512 ⟨Nat.le_of_ble_eq_true rfl, Nat.le_of_ble_eq_true rfl⟩ rfl (Nat.le_of_ble_eq_true rfl) (kX9_isNear er18) ?_
      by_cases c19 : r18.1 = 0
      · replace h := if_t h c19
        refine R_if_eq_t DX9_meetBy_102 c19 ?_
        exact tX9_meetBy_b108 h hc he0 he1
      · replace h := if_f h c19
        refine R_if_eq_f DX9_meetBy_102 c19 ?_
        refine R.sub (L' := [(4, .int x4)]) [2] rfl ?_
        cases h
        exact he1 _ rfl
set_option maxRecDepth 8000 in
theorem tX9_meetBy_l50 {G : Gm} {x0 : Nat} {x3 : Int32} {x4 : Int32} {x5 : Int32} {o : Option Value × Hp} {a : Int32 × Hp} {w : (Int32 × Hp) ⊕ ((Hp) ⊕ (Hp))} (h : fX9_meetBy_l50 x0 x3 x4 x5 a = some w) (hc : ∀ (q6 : Int32) (qs : Hp), w = .inl (q6, qs) → R G MX9_meetBy 50 [(0, .ref x0), (3, .int x3), (4, .int x4), (5, .int x5), (6, .int q6)] [] qs o) (he0 : ∀ (qs : Hp), w = .inr (.inl qs) → R G MX9_meetBy 120 [(0, .ref x0), (3, .int x3), (4, .int x4), (5, .int x5)] [] qs o) (he1 : ∀ (qs : Hp), w = .inr (.inr qs) → R G MX9_meetBy 105 [(4, .int x4)] [] qs o) : R G MX9_meetBy 50 [(0, .ref x0), (3, .int x3), (4, .int x4), (5, .int x5), (6, .int a.1)] [] a.2 o := by
  unfold fX9_meetBy_l50 at h
  refine R_iload DX9_meetBy_50 4 rfl ?_
  refine R_aload DX9_meetBy_52 0 rfl ?_
  obtain ⟨v10, ev10, h⟩ := bind_some h
  refine R_gR DX9_meetBy_53 fl_RX9_34 ev10 ?_
  refine R_constI DX9_meetBy_56 ci_1 ?_
  obtain ⟨v11, ev11, h⟩ := bind_some h
  refine R_aI DX9_meetBy_57 ev11 ?_
  by_cases c12 : v11 ≤ a.1
  · replace h := if_t h c12
    refine R_icmp_ge_t DX9_meetBy_58 c12 ?_
    refine R.sub (L' := [(0, .ref x0), (3, .int x3), (4, .int x4), (5, .int x5)]) [0, 1, 2, 3] rfl ?_
    cases h
    exact he0 _ rfl
  · replace h := if_f h c12
    refine R_icmp_ge_f DX9_meetBy_58 c12 ?_
    refine R_constI DX9_meetBy_61 ci_0 ?_
    refine R_istore [(7, .int (iI 0)), (0, .ref x0), (3, .int x3), (4, .int x4), (5, .int x5), (6, .int a.1)] DX9_meetBy_62 (by decide) rfl ?_
    refine R.sub (L' := [(0, .ref x0), (3, .int x3), (4, .int x4), (5, .int x5), (6, .int a.1), (7, .int (iI 0))]) [1, 2, 3, 4, 5, 0] rfl ?_
    obtain ⟨r20, hi, h⟩ := bind_some h
    have hE : (Sum.elim (fun u64 : Hp => R G MX9_meetBy 114 [(0, .ref x0), (3, .int x3), (4, .int x4), (5, .int x5), (6, .int a.1)] [] u64 o) (fun u64 : Hp => R G MX9_meetBy 105 [(4, .int x4)] [] u64 o)) r20 → ∀ (q7 : Int32) (qs : Hp), iter (fX9_meetBy_l64 x0 x3 x4 x5 a.1) FU (q7, qs) = some r20 → R G MX9_meetBy 64 [(0, .ref x0), (3, .int x3), (4, .int x4), (5, .int x5), (6, .int a.1), (7, .int q7)] [] qs o := fun hX q7 qs hj => loop_R (fX9_meetBy_l64 x0 x3 x4 x5 a.1) (fun p64 : Int32 × Hp => R G MX9_meetBy 64 [(0, .ref x0), (3, .int x3), (4, .int x4), (5, .int x5), (6, .int a.1), (7, .int p64.1)] [] p64.2 o) (Sum.elim (fun u64 : Hp => R G MX9_meetBy 114 [(0, .ref x0), (3, .int x3), (4, .int x4), (5, .int x5), (6, .int a.1)] [] u64 o) (fun u64 : Hp => R G MX9_meetBy 105 [(4, .int x4)] [] u64 o)) (fun a w hw hc he => tX9_meetBy_l64 hw (fun q7 qs e => hc (q7, qs) e) (fun qs e => he (.inl qs) e) (fun qs e => he (.inr qs) e)) FU (q7, qs) r20 hj hX
    refine hE ?_ _ _ hi
    clear hE hi
    rcases r20 with r20a | r20b
    · replace h := el_l h
      refine R_iinc [(6, .int (a.1 + iI 1)), (0, .ref x0), (3, .int x3), (4, .int x4), (5, .int x5)] DX9_meetBy_114 4 rfl (v := a.1 + iI 1) (by rfl) (by decide) rfl ?_
      refine R_goto DX9_meetBy_117 ?_
      refine R.sub (L' := [(0, .ref x0), (3, .int x3), (4, .int x4), (5, .int x5), (6, .int (a.1 + iI 1))]) [1, 2, 3, 4, 0] rfl ?_
      cases h
      exact hc _ _ rfl
    replace h := el_r h
    cases h
    exact he1 _ rfl
set_option maxRecDepth 8000 in
theorem tX9_meetBy_l36 {G : Gm} {x0 : Nat} {x3 : Int32} {x4 : Int32} {o : Option Value × Hp} {a : Int32 × Hp} {w : (Int32 × Hp) ⊕ ((Hp) ⊕ (Hp))} (h : fX9_meetBy_l36 x0 x3 x4 a = some w) (hc : ∀ (q5 : Int32) (qs : Hp), w = .inl (q5, qs) → R G MX9_meetBy 36 [(0, .ref x0), (3, .int x3), (4, .int x4), (5, .int q5)] [] qs o) (he0 : ∀ (qs : Hp), w = .inr (.inl qs) → R G MX9_meetBy 126 [(0, .ref x0), (3, .int x3), (4, .int x4)] [] qs o) (he1 : ∀ (qs : Hp), w = .inr (.inr qs) → R G MX9_meetBy 105 [(4, .int x4)] [] qs o) : R G MX9_meetBy 36 [(0, .ref x0), (3, .int x3), (4, .int x4), (5, .int a.1)] [] a.2 o := by
  unfold fX9_meetBy_l36 at h
  refine R_iload DX9_meetBy_36 3 rfl ?_
  refine R_aload DX9_meetBy_38 0 rfl ?_
  obtain ⟨v7, ev7, h⟩ := bind_some h
  refine R_gR DX9_meetBy_39 fl_RX9_34 ev7 ?_
  refine R_constI DX9_meetBy_42 ci_0 ?_
  obtain ⟨v8, ev8, h⟩ := bind_some h
  refine R_aI DX9_meetBy_43 ev8 ?_
  by_cases c9 : v8 ≤ a.1
  · replace h := if_t h c9
    refine R_icmp_ge_t DX9_meetBy_44 c9 ?_
    refine R.sub (L' := [(0, .ref x0), (3, .int x3), (4, .int x4)]) [0, 1, 2] rfl ?_
    cases h
    exact he0 _ rfl
  · replace h := if_f h c9
    refine R_icmp_ge_f DX9_meetBy_44 c9 ?_
    refine R_constI DX9_meetBy_47 ci_0 ?_
    refine R_istore [(6, .int (iI 0)), (0, .ref x0), (3, .int x3), (4, .int x4), (5, .int a.1)] DX9_meetBy_48 (by decide) rfl ?_
    refine R.sub (L' := [(0, .ref x0), (3, .int x3), (4, .int x4), (5, .int a.1), (6, .int (iI 0))]) [1, 2, 3, 4, 0] rfl ?_
    obtain ⟨r21, hi, h⟩ := bind_some h
    have hE : (Sum.elim (fun u50 : Hp => R G MX9_meetBy 120 [(0, .ref x0), (3, .int x3), (4, .int x4), (5, .int a.1)] [] u50 o) (fun u50 : Hp => R G MX9_meetBy 105 [(4, .int x4)] [] u50 o)) r21 → ∀ (q6 : Int32) (qs : Hp), iter (fX9_meetBy_l50 x0 x3 x4 a.1) FU (q6, qs) = some r21 → R G MX9_meetBy 50 [(0, .ref x0), (3, .int x3), (4, .int x4), (5, .int a.1), (6, .int q6)] [] qs o := fun hX q6 qs hj => loop_R (fX9_meetBy_l50 x0 x3 x4 a.1) (fun p50 : Int32 × Hp => R G MX9_meetBy 50 [(0, .ref x0), (3, .int x3), (4, .int x4), (5, .int a.1), (6, .int p50.1)] [] p50.2 o) (Sum.elim (fun u50 : Hp => R G MX9_meetBy 120 [(0, .ref x0), (3, .int x3), (4, .int x4), (5, .int a.1)] [] u50 o) (fun u50 : Hp => R G MX9_meetBy 105 [(4, .int x4)] [] u50 o)) (fun a w hw hc he => tX9_meetBy_l50 hw (fun q6 qs e => hc (q6, qs) e) (fun qs e => he (.inl qs) e) (fun qs e => he (.inr qs) e)) FU (q6, qs) r21 hj hX
    refine hE ?_ _ _ hi
    clear hE hi
    rcases r21 with r21a | r21b
    · replace h := el_l h
      refine R_iinc [(5, .int (a.1 + iI 1)), (0, .ref x0), (3, .int x3), (4, .int x4)] DX9_meetBy_120 3 rfl (v := a.1 + iI 1) (by rfl) (by decide) rfl ?_
      refine R_goto DX9_meetBy_123 ?_
      refine R.sub (L' := [(0, .ref x0), (3, .int x3), (4, .int x4), (5, .int (a.1 + iI 1))]) [1, 2, 3, 0] rfl ?_
      cases h
      exact hc _ _ rfl
    replace h := el_r h
    cases h
    exact he1 _ rfl
set_option maxRecDepth 8000 in
theorem tX9_meetBy_l16 {G : Gm} {x0 : Nat} {x3 : Int32} {o : Option Value × Hp} {a : Int32 × Hp} {w : (Int32 × Hp) ⊕ ((Hp) ⊕ (Int32 × Hp))} (h : fX9_meetBy_l16 x0 x3 a = some w) (hc : ∀ (q4 : Int32) (qs : Hp), w = .inl (q4, qs) → R G MX9_meetBy 16 [(0, .ref x0), (3, .int x3), (4, .int q4)] [] qs o) (he0 : ∀ (qs : Hp), w = .inr (.inl qs) → R G MX9_meetBy 132 [] [] qs o) (he1 : ∀ (q4 : Int32) (qs : Hp), w = .inr (.inr (q4, qs)) → R G MX9_meetBy 105 [(4, .int q4)] [] qs o) : R G MX9_meetBy 16 [(0, .ref x0), (3, .int x3), (4, .int a.1)] [] a.2 o := by
  unfold fX9_meetBy_l16 at h
  refine R_iload DX9_meetBy_16 2 rfl ?_
  refine R_aload DX9_meetBy_18 0 rfl ?_
  obtain ⟨v3, ev3, h⟩ := bind_some h
  refine R_gR DX9_meetBy_19 fl_RX9_34 ev3 ?_
  refine R_constI DX9_meetBy_22 ci_3 ?_
  obtain ⟨v4, ev4, h⟩ := bind_some h
  refine R_aI DX9_meetBy_23 ev4 ?_
  by_cases c5 : v4 ≤ a.1
  · replace h := if_t h c5
    refine R_icmp_ge_t DX9_meetBy_24 c5 ?_
    refine R.sub (L' := []) [] rfl ?_
    cases h
    exact he0 _ rfl
  · replace h := if_f h c5
    refine R_icmp_ge_f DX9_meetBy_24 c5 ?_
    refine R_aload DX9_meetBy_27 0 rfl ?_
    refine R_iload DX9_meetBy_28 2 rfl ?_
    obtain ⟨s6, es6, h⟩ := bind_some h
    refine R_cV0 [.int a.1] DX9_meetBy_30 kzvX9_hourFree ml_RX9_464 ⟨Nat.le_of_ble_eq_true rfl, Nat.le_of_ble_eq_true rfl⟩ rfl (Nat.le_of_ble_eq_true rfl) (kX9_hourFree es6) ?_
    refine R_constI DX9_meetBy_33 ci_0 ?_
    refine R_istore [(5, .int (iI 0)), (0, .ref x0), (3, .int x3), (4, .int a.1)] DX9_meetBy_34 (by decide) rfl ?_
    refine R.sub (L' := [(0, .ref x0), (3, .int x3), (4, .int a.1), (5, .int (iI 0))]) [1, 2, 3, 0] rfl ?_
    obtain ⟨r22, hi, h⟩ := bind_some h
    have hE : (Sum.elim (fun u36 : Hp => R G MX9_meetBy 126 [(0, .ref x0), (3, .int x3), (4, .int a.1)] [] u36 o) (fun u36 : Hp => R G MX9_meetBy 105 [(4, .int a.1)] [] u36 o)) r22 → ∀ (q5 : Int32) (qs : Hp), iter (fX9_meetBy_l36 x0 x3 a.1) FU (q5, qs) = some r22 → R G MX9_meetBy 36 [(0, .ref x0), (3, .int x3), (4, .int a.1), (5, .int q5)] [] qs o := fun hX q5 qs hj => loop_R (fX9_meetBy_l36 x0 x3 a.1) (fun p36 : Int32 × Hp => R G MX9_meetBy 36 [(0, .ref x0), (3, .int x3), (4, .int a.1), (5, .int p36.1)] [] p36.2 o) (Sum.elim (fun u36 : Hp => R G MX9_meetBy 126 [(0, .ref x0), (3, .int x3), (4, .int a.1)] [] u36 o) (fun u36 : Hp => R G MX9_meetBy 105 [(4, .int a.1)] [] u36 o)) (fun a w hw hc he => tX9_meetBy_l36 hw (fun q5 qs e => hc (q5, qs) e) (fun qs e => he (.inl qs) e) (fun qs e => he (.inr qs) e)) FU (q5, qs) r22 hj hX
    refine hE ?_ _ _ hi
    clear hE hi
    rcases r22 with r22a | r22b
    · replace h := el_l h
      refine R_iinc [(4, .int (a.1 + iI 1)), (0, .ref x0), (3, .int x3)] DX9_meetBy_126 2 rfl (v := a.1 + iI 1) (by rfl) (by decide) rfl ?_
      refine R_goto DX9_meetBy_129 ?_
      refine R.sub (L' := [(0, .ref x0), (3, .int x3), (4, .int (a.1 + iI 1))]) [1, 2, 0] rfl ?_
      cases h
      exact hc _ _ rfl
    replace h := el_r h
    cases h
    exact he1 _ _ rfl
set_option maxRecDepth 8000 in
theorem kX9_meetBy {G : Gm} {x0 : Nat} {x1 : Int32} {x2 : Int32} {x3 : Int32} {s : Hp} {w : Int32 × Hp} (h : fX9_meetBy x0 x1 x2 x3 s = some w) : (s.2.2 x0).1 = 9 ∧ Call G MX9_meetBy [.ref x0, .int x1, .int x2, .int x3] s (some (.int w.1), w.2) := by
  unfold fX9_meetBy at h
  obtain ⟨_, e0, h⟩ := bind_some h
  refine ⟨ck_some e0, Call.of_R pnRX9 (Nat.le_of_ble_eq_true rfl) ?_⟩
  clear e0
  show R G MX9_meetBy 0 [(0, .ref x0), (1, .int x1), (2, .int x2), (3, .int x3)] [] s (some (.int w.1), w.2)
  refine R_aload DX9_meetBy_0 0 rfl ?_
  refine R_iload DX9_meetBy_1 1 rfl ?_
  obtain ⟨s1, es1, h⟩ := bind_some h
  refine R_cV0 [.int x1] DX9_meetBy_2 kzvX9_laysCanBe ml_RX9_509 ⟨Nat.le_of_ble_eq_true rfl, Nat.le_of_ble_eq_true rfl⟩ rfl (Nat.le_of_ble_eq_true rfl) (kX9_laysCanBe es1) ?_
  refine R_aload DX9_meetBy_5 0 rfl ?_
  refine R_iload DX9_meetBy_6 2 rfl ?_
  refine R_constI DX9_meetBy_7 ci_9 ?_
  refine R_constI DX9_meetBy_9 ci_0 ?_
  obtain ⟨s2, es2, h⟩ := bind_some h
  refine R_cV0 [.int x2, .int (iI 9), .int (iI 0)] DX9_meetBy_10 kzvX9_starts ml_RX9_458 ⟨Nat.le_of_ble_eq_true rfl, Nat.le_of_ble_eq_true rfl⟩ rfl (Nat.le_of_ble_eq_true rfl) (kX9_starts es2) ?_
  refine R_constI DX9_meetBy_13 ci_0 ?_
  refine R_istore [(4, .int (iI 0)), (0, .ref x0), (1, .int x1), (2, .int x2), (3, .int x3)] DX9_meetBy_14 (by decide) rfl ?_
  refine R.sub (L' := [(0, .ref x0), (3, .int x3), (4, .int (iI 0))]) [1, 4, 0] rfl ?_
  obtain ⟨r23, hi, h⟩ := bind_some h
  have hE : (Sum.elim (fun u16 : Hp => R G MX9_meetBy 132 [] [] u16 (some (.int w.1), w.2)) (fun u16 : Int32 × Hp => R G MX9_meetBy 105 [(4, .int u16.1)] [] u16.2 (some (.int w.1), w.2))) r23 → ∀ (q4 : Int32) (qs : Hp), iter (fX9_meetBy_l16 x0 x3) FU (q4, qs) = some r23 → R G MX9_meetBy 16 [(0, .ref x0), (3, .int x3), (4, .int q4)] [] qs (some (.int w.1), w.2) := fun hX q4 qs hj => loop_R (fX9_meetBy_l16 x0 x3) (fun p16 : Int32 × Hp => R G MX9_meetBy 16 [(0, .ref x0), (3, .int x3), (4, .int p16.1)] [] p16.2 (some (.int w.1), w.2)) (Sum.elim (fun u16 : Hp => R G MX9_meetBy 132 [] [] u16 (some (.int w.1), w.2)) (fun u16 : Int32 × Hp => R G MX9_meetBy 105 [(4, .int u16.1)] [] u16.2 (some (.int w.1), w.2))) (fun a w hw hc he => tX9_meetBy_l16 hw (fun q4 qs e => hc (q4, qs) e) (fun qs e => he (.inl qs) e) (fun q4 qs e => he (.inr (q4, qs)) e)) FU (q4, qs) r23 hj hX
  refine hE ?_ _ _ hi
  clear hE hi
  rcases r23 with r23a | r23b
  · replace h := el_l h
    refine R_constI DX9_meetBy_132 ci_m1 ?_
    cases h
    exact R_ireturn rfl DX9_meetBy_133
  replace h := el_r h
  refine R_iload DX9_meetBy_105 0 rfl ?_
  cases h
  exact R_ireturn rfl DX9_meetBy_107
