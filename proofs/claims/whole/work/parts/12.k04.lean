set_option maxRecDepth 8000 in
theorem tX8_sold_b60 {G : Gm} {x0 : Nat} {x1 : Int32} {x2 : Int32} {x3 : Nat} {x4 : Int32} {x5 : Int32} {s : Hp} {o : Option Value × Hp} {w : (Int32 × Int32 × Hp) ⊕ ((Hp) ⊕ (Int32 × Hp))} (h : fX8_sold_b60 x0 x1 x2 x3 x4 x5 s = some w) (hc : ∀ (q4 : Int32) (q5 : Int32) (qs : Hp), w = .inl (q4, q5, qs) → R G MX8_sold 25 [(0, .ref x0), (1, .int x1), (2, .int x2), (3, .ref x3), (4, .int q4), (5, .int q5)] [] qs o) (he0 : ∀ (qs : Hp), w = .inr (.inl qs) → R G MX8_sold 66 [] [] qs o) (he1 : ∀ (q5 : Int32) (qs : Hp), w = .inr (.inr (q5, qs)) → R G MX8_sold 54 [(5, .int q5)] [] qs o) : R G MX8_sold 60 [(0, .ref x0), (1, .int x1), (2, .int x2), (3, .ref x3), (4, .int x4), (5, .int x5)] [] s o := by
  unfold fX8_sold_b60 at h
  refine R_iinc [(5, .int (x5 + iI 1)), (0, .ref x0), (1, .int x1), (2, .int x2), (3, .ref x3), (4, .int x4)] DX8_sold_60 5 rfl (v := x5 + iI 1) (by rfl) (by decide) rfl ?_
  refine R_goto DX8_sold_63 ?_
  refine R.sub (L' := [(0, .ref x0), (1, .int x1), (2, .int x2), (3, .ref x3), (4, .int x4), (5, .int (x5 + iI 1))]) [1, 2, 3, 4, 5, 0] rfl ?_
  cases h
  exact hc _ _ _ rfl
set_option maxRecDepth 8000 in
theorem tX8_sold_l25 {G : Gm} {x0 : Nat} {x1 : Int32} {x2 : Int32} {x3 : Nat} {o : Option Value × Hp} {a : Int32 × Int32 × Hp} {w : (Int32 × Int32 × Hp) ⊕ ((Hp) ⊕ (Int32 × Hp))} (h : fX8_sold_l25 x0 x1 x2 x3 a = some w) (hc : ∀ (q4 : Int32) (q5 : Int32) (qs : Hp), w = .inl (q4, q5, qs) → R G MX8_sold 25 [(0, .ref x0), (1, .int x1), (2, .int x2), (3, .ref x3), (4, .int q4), (5, .int q5)] [] qs o) (he0 : ∀ (qs : Hp), w = .inr (.inl qs) → R G MX8_sold 66 [] [] qs o) (he1 : ∀ (q5 : Int32) (qs : Hp), w = .inr (.inr (q5, qs)) → R G MX8_sold 54 [(5, .int q5)] [] qs o) : R G MX8_sold 25 [(0, .ref x0), (1, .int x1), (2, .int x2), (3, .ref x3), (4, .int a.1), (5, .int a.2.1)] [] a.2.2 o := by
  unfold fX8_sold_l25 at h
  refine R_iload DX8_sold_25 5 rfl ?_
  refine R_aload DX8_sold_27 0 rfl ?_
  obtain ⟨v5, ev5, h⟩ := bind_some h
  refine R_gR DX8_sold_28 fl_RX8_47 ev5 ?_
  obtain ⟨v6, ev6, h⟩ := bind_some h
  refine R_gI DX8_sold_31 fl_RX8_96 ev6 ?_
  by_cases c7 : v6 ≤ a.2.1
  · replace h := if_t h c7
    refine R_icmp_ge_t DX8_sold_34 c7 ?_
    refine R.sub (L' := []) [] rfl ?_
    cases h
    exact he0 _ rfl
  · replace h := if_f h c7
    refine R_icmp_ge_f DX8_sold_34 c7 ?_
    refine R_aload DX8_sold_37 3 rfl ?_
    refine R_iload DX8_sold_38 1 rfl ?_
    refine R_iload DX8_sold_39 5 rfl ?_
    obtain ⟨r8, er8, h⟩ := bind_some h
    refine R_cV1 [.int x1, .int a.2.1] DX8_sold_41 kzvX7_saleDoorAt ml_RX8_159 ⟨Nat.le_of_ble_eq_true rfl, Nat.le_of_ble_eq_true rfl⟩ rfl (Nat.le_of_ble_eq_true rfl) (kX7_saleDoorAt er8) ?_
    refine R_constI DX8_sold_44 ci_m1 ?_
    by_cases c9 : r8.1 = (iI (-1))
    · replace h := if_t h c9
      refine R_icmp_eq_t DX8_sold_45 c9 ?_
      exact tX8_sold_b60 h hc he0 he1
    · replace h := if_f h c9
      refine R_icmp_eq_f DX8_sold_45 c9 ?_
      refine R_iload DX8_sold_48 4 rfl ?_
      refine R_iload DX8_sold_50 2 rfl ?_
      by_cases c10 : a.1 = x2
      · replace h := if_t h c10
        refine R_icmp_ne_f DX8_sold_51 c10 ?_
        refine R.sub (L' := [(5, .int a.2.1)]) [5] rfl ?_
        cases h
        exact he1 _ _ rfl
      · replace h := if_f h c10
        refine R_icmp_ne_t DX8_sold_51 c10 ?_
        refine R_iinc [(4, .int (a.1 + iI 1)), (0, .ref x0), (1, .int x1), (2, .int x2), (3, .ref x3), (5, .int a.2.1)] DX8_sold_57 4 rfl (v := a.1 + iI 1) (by rfl) (by decide) rfl ?_
        refine R.sub (L' := [(0, .ref x0), (1, .int x1), (2, .int x2), (3, .ref x3), (4, .int (a.1 + iI 1)), (5, .int a.2.1)]) [1, 2, 3, 4, 0, 5] rfl ?_
        exact tX8_sold_b60 h hc he0 he1
set_option maxRecDepth 8000 in
theorem kX8_sold {G : Gm} {x0 : Nat} {x1 : Int32} {x2 : Int32} {s : Hp} {w : Int32 × Hp} (h : fX8_sold x0 x1 x2 s = some w) : (s.2.2 x0).1 = 8 ∧ Call G MX8_sold [.ref x0, .int x1, .int x2] s (some (.int w.1), w.2) := by
  unfold fX8_sold at h
  obtain ⟨_, e0, h⟩ := bind_some h
  refine ⟨ck_some e0, Call.of_R pnRX8 (Nat.le_of_ble_eq_true rfl) ?_⟩
  clear e0
  show R G MX8_sold 0 [(0, .ref x0), (1, .int x1), (2, .int x2)] [] s (some (.int w.1), w.2)
  refine R_aload DX8_sold_0 0 rfl ?_
  obtain ⟨v1, ev1, h⟩ := bind_some h
  refine R_gR DX8_sold_1 fl_RX8_47 ev1 ?_
  refine R_iload DX8_sold_4 1 rfl ?_
  obtain ⟨r2, er2, h⟩ := bind_some h
  refine R_cV1 [.int x1] DX8_sold_5 kzvX6_hasShop ml_RX8_99 ⟨Nat.le_of_ble_eq_true rfl, Nat.le_of_ble_eq_true rfl⟩ rfl (Nat.le_of_ble_eq_true rfl) (kX6_hasShop er2) ?_
  by_cases c3 : r2.1 = 0
  · replace h := if_t h c3
    refine R_if_ne_f DX8_sold_8 c3 ?_
    refine R_constI DX8_sold_11 ci_m2 ?_
    cases h
    exact R_ireturn rfl DX8_sold_13
  · replace h := if_f h c3
    refine R_if_ne_t DX8_sold_8 c3 ?_
    refine R_aload DX8_sold_14 0 rfl ?_
    obtain ⟨r4, er4, h⟩ := bind_some h
    refine R_cV1 [] DX8_sold_15 kzvX8_flown ml_RX8_108 ⟨Nat.le_of_ble_eq_true rfl, Nat.le_of_ble_eq_true rfl⟩ rfl (Nat.le_of_ble_eq_true rfl) (kX8_flown er4) ?_
    refine R_astore [(3, .ref r4.1), (0, .ref x0), (1, .int x1), (2, .int x2)] DX8_sold_18 (by decide) rfl ?_
    refine R_constI DX8_sold_19 ci_0 ?_
    refine R_istore [(4, .int (iI 0)), (3, .ref r4.1), (0, .ref x0), (1, .int x1), (2, .int x2)] DX8_sold_20 (by decide) rfl ?_
    refine R_constI DX8_sold_22 ci_0 ?_
    refine R_istore [(5, .int (iI 0)), (4, .int (iI 0)), (3, .ref r4.1), (0, .ref x0), (1, .int x1), (2, .int x2)] DX8_sold_23 (by decide) rfl ?_
    refine R.sub (L' := [(0, .ref x0), (1, .int x1), (2, .int x2), (3, .ref r4.1), (4, .int (iI 0)), (5, .int (iI 0))]) [3, 4, 5, 2, 1, 0] rfl ?_
    obtain ⟨r11, hi, h⟩ := bind_some h
    have hE : (Sum.elim (fun u25 : Hp => R G MX8_sold 66 [] [] u25 (some (.int w.1), w.2)) (fun u25 : Int32 × Hp => R G MX8_sold 54 [(5, .int u25.1)] [] u25.2 (some (.int w.1), w.2))) r11 → ∀ (q4 : Int32) (q5 : Int32) (qs : Hp), iter (fX8_sold_l25 x0 x1 x2 r4.1) FU (q4, q5, qs) = some r11 → R G MX8_sold 25 [(0, .ref x0), (1, .int x1), (2, .int x2), (3, .ref r4.1), (4, .int q4), (5, .int q5)] [] qs (some (.int w.1), w.2) := fun hX q4 q5 qs hj => loop_R (fX8_sold_l25 x0 x1 x2 r4.1) (fun p25 : Int32 × Int32 × Hp => R G MX8_sold 25 [(0, .ref x0), (1, .int x1), (2, .int x2), (3, .ref r4.1), (4, .int p25.1), (5, .int p25.2.1)] [] p25.2.2 (some (.int w.1), w.2)) (Sum.elim (fun u25 : Hp => R G MX8_sold 66 [] [] u25 (some (.int w.1), w.2)) (fun u25 : Int32 × Hp => R G MX8_sold 54 [(5, .int u25.1)] [] u25.2 (some (.int w.1), w.2))) (fun a w hw hc he => tX8_sold_l25 hw (fun q4 q5 qs e => hc (q4, q5, qs) e) (fun qs e => he (.inl qs) e) (fun q5 qs e => he (.inr (q5, qs)) e)) FU (q4, q5, qs) r11 hj hX
    refine hE ?_ _ _ _ hi
    clear hE hi
    rcases r11 with r11a | r11b
    · replace h := el_l h
      refine R_constI DX8_sold_66 ci_m1 ?_
      cases h
      exact R_ireturn rfl DX8_sold_67
    replace h := el_r h
    refine R_iload DX8_sold_54 0 rfl ?_
    cases h
    exact R_ireturn rfl DX8_sold_56
set_option maxRecDepth 8000 in
theorem kX8_money {G : Gm} {x0 : Nat} {s : Hp} {w : Int32 × Hp} (h : fX8_money x0 s = some w) : (s.2.2 x0).1 = 8 ∧ Call G MX8_money [.ref x0] s (some (.int w.1), w.2) := by
  unfold fX8_money at h
  obtain ⟨_, e0, h⟩ := bind_some h
  refine ⟨ck_some e0, Call.of_R pnRX8 (Nat.le_of_ble_eq_true rfl) ?_⟩
  clear e0
  show R G MX8_money 0 [(0, .ref x0)] [] s (some (.int w.1), w.2)
  refine R_aload DX8_money_0 0 rfl ?_
  obtain ⟨v1, ev1, h⟩ := bind_some h
  refine R_gR DX8_money_1 fl_RX8_47 ev1 ?_
  obtain ⟨r2, er2, h⟩ := bind_some h
  refine R_cV1 [] DX8_money_4 kzvX6_stands ml_RX8_140 ⟨Nat.le_of_ble_eq_true rfl, Nat.le_of_ble_eq_true rfl⟩ rfl (Nat.le_of_ble_eq_true rfl) (kX6_stands er2) ?_
  by_cases c3 : r2.1 = 0
  · replace h := if_t h c3
    refine R_if_eq_t DX8_money_7 c3 ?_
    refine R_constI DX8_money_20 ci_m2 ?_
    cases h
    exact R_ireturn rfl DX8_money_22
  · replace h := if_f h c3
    refine R_if_eq_f DX8_money_7 c3 ?_
    refine R_aload DX8_money_10 0 rfl ?_
    obtain ⟨r4, er4, h⟩ := bind_some h
    refine R_cV1 [] DX8_money_11 kzvX8_flown ml_RX8_108 ⟨Nat.le_of_ble_eq_true rfl, Nat.le_of_ble_eq_true rfl⟩ rfl (Nat.le_of_ble_eq_true rfl) (kX8_flown er4) ?_
    obtain ⟨r5, er5, h⟩ := bind_some h
    refine R_cV1 [] DX8_money_14 kzvX7_moneyOfAll ml_RX8_162 ⟨Nat.le_of_ble_eq_true rfl, Nat.le_of_ble_eq_true rfl⟩ rfl (Nat.le_of_ble_eq_true rfl) (kX7_moneyOfAll er5) ?_
    refine R_goto DX8_money_17 ?_
    cases h
    exact R_ireturn rfl DX8_money_22
set_option maxRecDepth 8000 in
theorem tX8_richest_b61 {G : Gm} {x0 : Nat} {x1 : Nat} {x2 : Int32} {x3 : Int32} {x4 : Int32} {s : Hp} {o : Option Value × Hp} {w : (Int32 × Int32 × Int32 × Hp) ⊕ ((Int32 × Hp))} (h : fX8_richest_b61 x0 x1 x2 x3 x4 s = some w) (hc : ∀ (q2 : Int32) (q3 : Int32) (q4 : Int32) (qs : Hp), w = .inl (q2, q3, q4, qs) → R G MX8_richest 25 [(0, .ref x0), (1, .ref x1), (2, .int q2), (3, .int q3), (4, .int q4)] [] qs o) (he0 : ∀ (q2 : Int32) (qs : Hp), w = .inr (q2, qs) → R G MX8_richest 67 [(2, .int q2)] [] qs o) : R G MX8_richest 61 [(0, .ref x0), (1, .ref x1), (2, .int x2), (3, .int x3), (4, .int x4)] [] s o := by
  unfold fX8_richest_b61 at h
  refine R_iinc [(4, .int (x4 + iI 1)), (0, .ref x0), (1, .ref x1), (2, .int x2), (3, .int x3)] DX8_richest_61 4 rfl (v := x4 + iI 1) (by rfl) (by decide) rfl ?_
  refine R_goto DX8_richest_64 ?_
  refine R.sub (L' := [(0, .ref x0), (1, .ref x1), (2, .int x2), (3, .int x3), (4, .int (x4 + iI 1))]) [1, 2, 3, 4, 0] rfl ?_
  cases h
  exact hc _ _ _ _ rfl
set_option maxRecDepth 8000 in
theorem tX8_richest_l25 {G : Gm} {x0 : Nat} {x1 : Nat} {o : Option Value × Hp} {a : Int32 × Int32 × Int32 × Hp} {w : (Int32 × Int32 × Int32 × Hp) ⊕ ((Int32 × Hp))} (h : fX8_richest_l25 x0 x1 a = some w) (hc : ∀ (q2 : Int32) (q3 : Int32) (q4 : Int32) (qs : Hp), w = .inl (q2, q3, q4, qs) → R G MX8_richest 25 [(0, .ref x0), (1, .ref x1), (2, .int q2), (3, .int q3), (4, .int q4)] [] qs o) (he0 : ∀ (q2 : Int32) (qs : Hp), w = .inr (q2, qs) → R G MX8_richest 67 [(2, .int q2)] [] qs o) : R G MX8_richest 25 [(0, .ref x0), (1, .ref x1), (2, .int a.1), (3, .int a.2.1), (4, .int a.2.2.1)] [] a.2.2.2 o := by
  unfold fX8_richest_l25 at h
  refine R_iload DX8_richest_25 4 rfl ?_
  refine R_aload DX8_richest_27 0 rfl ?_
  obtain ⟨v5, ev5, h⟩ := bind_some h
  refine R_gR DX8_richest_28 fl_RX8_47 ev5 ?_
  obtain ⟨v6, ev6, h⟩ := bind_some h
  refine R_gI DX8_richest_31 fl_RX8_166 ev6 ?_
  by_cases c7 : v6 ≤ a.2.2.1
  · replace h := if_t h c7
    refine R_icmp_ge_t DX8_richest_34 c7 ?_
    refine R.sub (L' := [(2, .int a.1)]) [2] rfl ?_
    cases h
    exact he0 _ _ rfl
  · replace h := if_f h c7
    refine R_icmp_ge_f DX8_richest_34 c7 ?_
    refine R_aload DX8_richest_37 1 rfl ?_
    refine R_iload DX8_richest_38 4 rfl ?_
    refine R_constI DX8_richest_40 ci_6 ?_
    obtain ⟨r8, er8, h⟩ := bind_some h
    refine R_cV1 [.int a.2.2.1, .int (iI 6)] DX8_richest_42 kzvX7_factAtEnd ml_RX8_169 ⟨Nat.le_of_ble_eq_true rfl, Nat.le_of_ble_eq_true rfl⟩ rfl (Nat.le_of_ble_eq_true rfl) (kX7_factAtEnd er8) ?_
    refine R_iload DX8_richest_45 3 rfl ?_
    by_cases c9 : r8.1 ≤ a.2.1
    · replace h := if_t h c9
      refine R_icmp_le_t DX8_richest_46 c9 ?_
      exact tX8_richest_b61 h hc he0
    · replace h := if_f h c9
      refine R_icmp_le_f DX8_richest_46 c9 ?_
      refine R_aload DX8_richest_49 1 rfl ?_
      refine R_iload DX8_richest_50 4 rfl ?_
      refine R_constI DX8_richest_52 ci_6 ?_
      obtain ⟨r10, er10, h⟩ := bind_some h
      refine R_cV1 [.int a.2.2.1, .int (iI 6)] DX8_richest_54 kzvX7_factAtEnd ml_RX8_169 ⟨Nat.le_of_ble_eq_true rfl, Nat.le_of_ble_eq_true rfl⟩ rfl (Nat.le_of_ble_eq_true rfl) (kX7_factAtEnd er10) ?_
      refine R_istore [(3, .int r10.1), (0, .ref x0), (1, .ref x1), (2, .int a.1), (4, .int a.2.2.1)] DX8_richest_57 (by decide) rfl ?_
      refine R_iload DX8_richest_58 4 rfl ?_
      refine R_istore [(2, .int a.2.2.1), (3, .int r10.1), (0, .ref x0), (1, .ref x1), (4, .int a.2.2.1)] DX8_richest_60 (by decide) rfl ?_
      refine R.sub (L' := [(0, .ref x0), (1, .ref x1), (2, .int a.2.2.1), (3, .int r10.1), (4, .int a.2.2.1)]) [2, 3, 0, 1, 4] rfl ?_
      exact tX8_richest_b61 h hc he0
set_option maxRecDepth 8000 in
theorem kX8_richest {G : Gm} {x0 : Nat} {s : Hp} {w : Int32 × Hp} (h : fX8_richest x0 s = some w) : (s.2.2 x0).1 = 8 ∧ Call G MX8_richest [.ref x0] s (some (.int w.1), w.2) := by
  unfold fX8_richest at h
  obtain ⟨_, e0, h⟩ := bind_some h
  refine ⟨ck_some e0, Call.of_R pnRX8 (Nat.le_of_ble_eq_true rfl) ?_⟩
  clear e0
  show R G MX8_richest 0 [(0, .ref x0)] [] s (some (.int w.1), w.2)
  refine R_aload DX8_richest_0 0 rfl ?_
  obtain ⟨v1, ev1, h⟩ := bind_some h
  refine R_gR DX8_richest_1 fl_RX8_47 ev1 ?_
  obtain ⟨r2, er2, h⟩ := bind_some h
  refine R_cV1 [] DX8_richest_4 kzvX6_stands ml_RX8_140 ⟨Nat.le_of_ble_eq_true rfl, Nat.le_of_ble_eq_true rfl⟩ rfl (Nat.le_of_ble_eq_true rfl) (kX6_stands er2) ?_
  by_cases c3 : r2.1 = 0
  · replace h := if_t h c3
    refine R_if_ne_f DX8_richest_7 c3 ?_
    refine R_constI DX8_richest_10 ci_m2 ?_
    cases h
    exact R_ireturn rfl DX8_richest_12
  · replace h := if_f h c3
    refine R_if_ne_t DX8_richest_7 c3 ?_
    refine R_aload DX8_richest_13 0 rfl ?_
    obtain ⟨r4, er4, h⟩ := bind_some h
    refine R_cV1 [] DX8_richest_14 kzvX8_flown ml_RX8_108 ⟨Nat.le_of_ble_eq_true rfl, Nat.le_of_ble_eq_true rfl⟩ rfl (Nat.le_of_ble_eq_true rfl) (kX8_flown er4) ?_
    refine R_astore [(1, .ref r4.1), (0, .ref x0)] DX8_richest_17 (by decide) rfl ?_
    refine R_constI DX8_richest_18 ci_m1 ?_
    refine R_istore [(2, .int (iI (-1))), (1, .ref r4.1), (0, .ref x0)] DX8_richest_19 (by decide) rfl ?_
    refine R_constI DX8_richest_20 ci_m1 ?_
    refine R_istore [(3, .int (iI (-1))), (2, .int (iI (-1))), (1, .ref r4.1), (0, .ref x0)] DX8_richest_21 (by decide) rfl ?_
    refine R_constI DX8_richest_22 ci_0 ?_
    refine R_istore [(4, .int (iI 0)), (3, .int (iI (-1))), (2, .int (iI (-1))), (1, .ref r4.1), (0, .ref x0)] DX8_richest_23 (by decide) rfl ?_
    refine R.sub (L' := [(0, .ref x0), (1, .ref r4.1), (2, .int (iI (-1))), (3, .int (iI (-1))), (4, .int (iI 0))]) [4, 3, 2, 1, 0] rfl ?_
    obtain ⟨r11, hi, h⟩ := bind_some h
    have hE : (fun u25 : Int32 × Hp => R G MX8_richest 67 [(2, .int u25.1)] [] u25.2 (some (.int w.1), w.2)) r11 → ∀ (q2 : Int32) (q3 : Int32) (q4 : Int32) (qs : Hp), iter (fX8_richest_l25 x0 r4.1) FU (q2, q3, q4, qs) = some r11 → R G MX8_richest 25 [(0, .ref x0), (1, .ref r4.1), (2, .int q2), (3, .int q3), (4, .int q4)] [] qs (some (.int w.1), w.2) := fun hX q2 q3 q4 qs hj => loop_R (fX8_richest_l25 x0 r4.1) (fun p25 : Int32 × Int32 × Int32 × Hp => R G MX8_richest 25 [(0, .ref x0), (1, .ref r4.1), (2, .int p25.1), (3, .int p25.2.1), (4, .int p25.2.2.1)] [] p25.2.2.2 (some (.int w.1), w.2)) (fun u25 : Int32 × Hp => R G MX8_richest 67 [(2, .int u25.1)] [] u25.2 (some (.int w.1), w.2)) (fun a w hw hc he => tX8_richest_l25 hw (fun q2 q3 q4 qs e => hc (q2, q3, q4, qs) e) (fun q2 qs e => he (q2, qs) e)) FU (q2, q3, q4, qs) r11 hj hX
    refine hE ?_ _ _ _ _ hi
    clear hE hi
    refine R_iload DX8_richest_67 0 rfl ?_
    cases h
    exact R_ireturn rfl DX8_richest_68
set_option maxRecDepth 8000 in
theorem tX8_meets_b95 {G : Gm} {x0 : Nat} {x1 : Int32} {x2 : Int32} {x3 : Nat} {x4 : Int32} {x5 : Int32} {s : Hp} {o : Option Value × Hp} {w : (Int32 × Int32 × Hp) ⊕ ((Int32 × Hp))} (h : fX8_meets_b95 x0 x1 x2 x3 x4 x5 s = some w) (hc : ∀ (q4 : Int32) (q5 : Int32) (qs : Hp), w = .inl (q4, q5, qs) → R G MX8_meets 26 [(0, .ref x0), (1, .int x1), (2, .int x2), (3, .ref x3), (4, .int q4), (5, .int q5)] [] qs o) (he0 : ∀ (q4 : Int32) (qs : Hp), w = .inr (q4, qs) → R G MX8_meets 101 [(4, .int q4)] [] qs o) : R G MX8_meets 95 [(0, .ref x0), (1, .int x1), (2, .int x2), (3, .ref x3), (4, .int x4), (5, .int x5)] [] s o := by
  unfold fX8_meets_b95 at h
  refine R_iinc [(5, .int (x5 + iI 1)), (0, .ref x0), (1, .int x1), (2, .int x2), (3, .ref x3), (4, .int x4)] DX8_meets_95 5 rfl (v := x5 + iI 1) (by rfl) (by decide) rfl ?_
  refine R_goto DX8_meets_98 ?_
  refine R.sub (L' := [(0, .ref x0), (1, .int x1), (2, .int x2), (3, .ref x3), (4, .int x4), (5, .int (x5 + iI 1))]) [1, 2, 3, 4, 5, 0] rfl ?_
  cases h
  exact hc _ _ _ rfl
set_option maxRecDepth 8000 in
theorem tX8_meets_b62 {G : Gm} {x0 : Nat} {x1 : Int32} {x2 : Int32} {x3 : Nat} {x4 : Int32} {x5 : Int32} {y0 : Int32} {s : Hp} {o : Option Value × Hp} {w : (Int32 × Int32 × Hp) ⊕ ((Int32 × Hp))} (h : fX8_meets_b62 x0 x1 x2 x3 x4 x5 y0 s = some w) (hc : ∀ (q4 : Int32) (q5 : Int32) (qs : Hp), w = .inl (q4, q5, qs) → R G MX8_meets 26 [(0, .ref x0), (1, .int x1), (2, .int x2), (3, .ref x3), (4, .int q4), (5, .int q5)] [] qs o) (he0 : ∀ (q4 : Int32) (qs : Hp), w = .inr (q4, qs) → R G MX8_meets 101 [(4, .int q4)] [] qs o) : R G MX8_meets 62 [(0, .ref x0), (1, .int x1), (2, .int x2), (3, .ref x3), (4, .int x4), (5, .int x5)] [.int y0] s o := by
  unfold fX8_meets_b62 at h
  refine R_istore [(6, .int y0), (0, .ref x0), (1, .int x1), (2, .int x2), (3, .ref x3), (4, .int x4), (5, .int x5)] DX8_meets_62 (by decide) rfl ?_
  refine R_iload DX8_meets_64 0 rfl ?_
  by_cases c11 : y0 = 0
  · replace h := if_t h c11
    refine R_if_eq_t DX8_meets_66 c11 ?_
    refine R.sub (L' := [(0, .ref x0), (1, .int x1), (2, .int x2), (3, .ref x3), (4, .int x4), (5, .int x5)]) [1, 2, 3, 4, 5, 6] rfl ?_
    exact tX8_meets_b95 h hc he0
  · replace h := if_f h c11
    refine R_if_eq_f DX8_meets_66 c11 ?_
    refine R_aload DX8_meets_69 4 rfl ?_
    refine R_iload DX8_meets_70 2 rfl ?_
    refine R_iload DX8_meets_71 6 rfl ?_
    obtain ⟨r12, er12, h⟩ := bind_some h
    refine R_cV1 [.int x1, .int x5] DX8_meets_73 kzvX7_columnBehind ml_RX8_175 ⟨Nat.le_of_ble_eq_true rfl, Nat.le_of_ble_eq_true rfl⟩ rfl (Nat.le_of_ble_eq_true rfl) (kX7_columnBehind er12) ?_
    refine R_aload DX8_meets_76 4 rfl ?_
    refine R_iload DX8_meets_77 3 rfl ?_
    refine R_iload DX8_meets_78 6 rfl ?_
    obtain ⟨r13, er13, h⟩ := bind_some h
    refine R_cV1 [.int x2, .int x5] DX8_meets_80 kzvX7_columnBehind ml_RX8_175 ⟨Nat.le_of_ble_eq_true rfl, Nat.le_of_ble_eq_true rfl⟩ rfl (Nat.le_of_ble_eq_true rfl) (kX7_columnBehind er13) ?_
    by_cases c14 : r12.1 = r13.1
    · replace h := if_t h c14
      refine R_icmp_ne_f DX8_meets_83 c14 ?_
      refine R_iload DX8_meets_86 5 rfl ?_
      refine R_constI DX8_meets_88 ci_1 ?_
      refine R_iload DX8_meets_89 6 rfl ?_
      refine R_ishl DX8_meets_91 ?_
      refine R_ior DX8_meets_92 ?_
      obtain ⟨z15, ez15, h⟩ := lt_some h
      refine R_istoreE ez15 [(4, .int z15), (6, .int y0), (0, .ref x0), (1, .int x1), (2, .int x2), (3, .ref x3), (5, .int x5)] DX8_meets_93 (by decide) rfl ?_
      refine R.sub (L' := [(0, .ref x0), (1, .int x1), (2, .int x2), (3, .ref x3), (4, .int z15), (5, .int x5)]) [2, 3, 4, 5, 0, 6] rfl ?_
      exact tX8_meets_b95 h hc he0
    · replace h := if_f h c14
      refine R_icmp_ne_t DX8_meets_83 c14 ?_
      refine R.sub (L' := [(0, .ref x0), (1, .int x1), (2, .int x2), (3, .ref x3), (4, .int x4), (5, .int x5)]) [1, 2, 3, 4, 5, 6] rfl ?_
      exact tX8_meets_b95 h hc he0
set_option maxRecDepth 8000 in
theorem tX8_meets_l26 {G : Gm} {x0 : Nat} {x1 : Int32} {x2 : Int32} {x3 : Nat} {o : Option Value × Hp} {a : Int32 × Int32 × Hp} {w : (Int32 × Int32 × Hp) ⊕ ((Int32 × Hp))} (h : fX8_meets_l26 x0 x1 x2 x3 a = some w) (hc : ∀ (q4 : Int32) (q5 : Int32) (qs : Hp), w = .inl (q4, q5, qs) → R G MX8_meets 26 [(0, .ref x0), (1, .int x1), (2, .int x2), (3, .ref x3), (4, .int q4), (5, .int q5)] [] qs o) (he0 : ∀ (q4 : Int32) (qs : Hp), w = .inr (q4, qs) → R G MX8_meets 101 [(4, .int q4)] [] qs o) : R G MX8_meets 26 [(0, .ref x0), (1, .int x1), (2, .int x2), (3, .ref x3), (4, .int a.1), (5, .int a.2.1)] [] a.2.2 o := by
  unfold fX8_meets_l26 at h
  refine R_iload DX8_meets_26 5 rfl ?_
  refine R_aload DX8_meets_28 0 rfl ?_
  obtain ⟨v5, ev5, h⟩ := bind_some h
  refine R_gR DX8_meets_29 fl_RX8_47 ev5 ?_
  obtain ⟨v6, ev6, h⟩ := bind_some h
  refine R_gI DX8_meets_32 fl_RX8_96 ev6 ?_
  by_cases c7 : v6 ≤ a.2.1
  · replace h := if_t h c7
    refine R_icmp_ge_t DX8_meets_35 c7 ?_
    refine R.sub (L' := [(4, .int a.1)]) [4] rfl ?_
    cases h
    exact he0 _ _ rfl
  · replace h := if_f h c7
    refine R_icmp_ge_f DX8_meets_35 c7 ?_
    refine R_aload DX8_meets_38 3 rfl ?_
    refine R_iload DX8_meets_39 1 rfl ?_
    refine R_iload DX8_meets_40 5 rfl ?_
    refine R_constI DX8_meets_42 ci_2 ?_
    obtain ⟨r8, er8, h⟩ := bind_some h
    refine R_cV1 [.int x1, .int a.2.1, .int (iI 2)] DX8_meets_43 kzvX7_factBehind ml_RX8_150 ⟨Nat.le_of_ble_eq_true rfl, Nat.le_of_ble_eq_true rfl⟩ rfl (Nat.le_of_ble_eq_true rfl) (kX7_factBehind er8) ?_
    refine R_aload DX8_meets_46 3 rfl ?_
    refine R_iload DX8_meets_47 2 rfl ?_
    refine R_iload DX8_meets_48 5 rfl ?_
    refine R_constI DX8_meets_50 ci_2 ?_
    obtain ⟨r9, er9, h⟩ := bind_some h
    refine R_cV1 [.int x2, .int a.2.1, .int (iI 2)] DX8_meets_51 kzvX7_factBehind ml_RX8_150 ⟨Nat.le_of_ble_eq_true rfl, Nat.le_of_ble_eq_true rfl⟩ rfl (Nat.le_of_ble_eq_true rfl) (kX7_factBehind er9) ?_
    by_cases c10 : r8.1 = r9.1
    · replace h := if_t h c10
      refine R_icmp_ne_f DX8_meets_54 c10 ?_
      refine R_constI DX8_meets_57 ci_1 ?_
      refine R_goto DX8_meets_58 ?_
      exact tX8_meets_b62 h hc he0
    · replace h := if_f h c10
      refine R_icmp_ne_t DX8_meets_54 c10 ?_
      refine R_constI DX8_meets_61 ci_0 ?_
      exact tX8_meets_b62 h hc he0
set_option maxRecDepth 8000 in
theorem kX8_meets {G : Gm} {x0 : Nat} {x1 : Int32} {x2 : Int32} {s : Hp} {w : Int32 × Hp} (h : fX8_meets x0 x1 x2 s = some w) : (s.2.2 x0).1 = 8 ∧ Call G MX8_meets [.ref x0, .int x1, .int x2] s (some (.int w.1), w.2) := by
  unfold fX8_meets at h
  obtain ⟨_, e0, h⟩ := bind_some h
  refine ⟨ck_some e0, Call.of_R pnRX8 (Nat.le_of_ble_eq_true rfl) ?_⟩
  clear e0
  show R G MX8_meets 0 [(0, .ref x0), (1, .int x1), (2, .int x2)] [] s (some (.int w.1), w.2)
  refine R_aload DX8_meets_0 0 rfl ?_
  obtain ⟨v1, ev1, h⟩ := bind_some h
  refine R_gR DX8_meets_1 fl_RX8_47 ev1 ?_
  refine R_iload DX8_meets_4 1 rfl ?_
  refine R_iload DX8_meets_5 2 rfl ?_
  obtain ⟨r2, er2, h⟩ := bind_some h
  refine R_cV1 [.int x1, .int x2] DX8_meets_6 kzvX6_hasTwoShops ml_RX8_172 ⟨Nat.le_of_ble_eq_true rfl, Nat.le_of_ble_eq_true rfl⟩ rfl (Nat.le_of_ble_eq_true rfl) (kX6_hasTwoShops er2) ?_
  by_cases c3 : r2.1 = 0
  · replace h := if_t h c3
    refine R_if_ne_f DX8_meets_9 c3 ?_
    refine R_constI DX8_meets_12 ci_m2 ?_
    cases h
    exact R_ireturn rfl DX8_meets_14
  · replace h := if_f h c3
    refine R_if_ne_t DX8_meets_9 c3 ?_
    refine R_aload DX8_meets_15 0 rfl ?_
    obtain ⟨r4, er4, h⟩ := bind_some h
    refine R_cV1 [] DX8_meets_16 kzvX8_flown ml_RX8_108 ⟨Nat.le_of_ble_eq_true rfl, Nat.le_of_ble_eq_true rfl⟩ rfl (Nat.le_of_ble_eq_true rfl) (kX8_flown er4) ?_
    refine R_astore [(3, .ref r4.1), (0, .ref x0), (1, .int x1), (2, .int x2)] DX8_meets_19 (by decide) rfl ?_
    refine R_constI DX8_meets_20 ci_0 ?_
    refine R_istore [(4, .int (iI 0)), (3, .ref r4.1), (0, .ref x0), (1, .int x1), (2, .int x2)] DX8_meets_21 (by decide) rfl ?_
    refine R_constI DX8_meets_23 ci_0 ?_
    refine R_istore [(5, .int (iI 0)), (4, .int (iI 0)), (3, .ref r4.1), (0, .ref x0), (1, .int x1), (2, .int x2)] DX8_meets_24 (by decide) rfl ?_
    refine R.sub (L' := [(0, .ref x0), (1, .int x1), (2, .int x2), (3, .ref r4.1), (4, .int (iI 0)), (5, .int (iI 0))]) [3, 4, 5, 2, 1, 0] rfl ?_
    obtain ⟨r16, hi, h⟩ := bind_some h
    have hE : (fun u26 : Int32 × Hp => R G MX8_meets 101 [(4, .int u26.1)] [] u26.2 (some (.int w.1), w.2)) r16 → ∀ (q4 : Int32) (q5 : Int32) (qs : Hp), iter (fX8_meets_l26 x0 x1 x2 r4.1) FU (q4, q5, qs) = some r16 → R G MX8_meets 26 [(0, .ref x0), (1, .int x1), (2, .int x2), (3, .ref r4.1), (4, .int q4), (5, .int q5)] [] qs (some (.int w.1), w.2) := fun hX q4 q5 qs hj => loop_R (fX8_meets_l26 x0 x1 x2 r4.1) (fun p26 : Int32 × Int32 × Hp => R G MX8_meets 26 [(0, .ref x0), (1, .int x1), (2, .int x2), (3, .ref r4.1), (4, .int p26.1), (5, .int p26.2.1)] [] p26.2.2 (some (.int w.1), w.2)) (fun u26 : Int32 × Hp => R G MX8_meets 101 [(4, .int u26.1)] [] u26.2 (some (.int w.1), w.2)) (fun a w hw hc he => tX8_meets_l26 hw (fun q4 q5 qs e => hc (q4, q5, qs) e) (fun q4 qs e => he (q4, qs) e)) FU (q4, q5, qs) r16 hj hX
    refine hE ?_ _ _ _ hi
    clear hE hi
    refine R_iload DX8_meets_101 0 rfl ?_
    cases h
    exact R_ireturn rfl DX8_meets_103
set_option maxRecDepth 8000 in
theorem tX8_over_b23 {G : Gm} {s : Hp} {w : Int32 × Hp} (h : fX8_over_b23 s = some w) : R G MX8_over 23 [] [] s (some (.int w.1), w.2) := by
  unfold fX8_over_b23 at h
  refine R_constI DX8_over_23 ci_m2 ?_
  cases h
  exact R_ireturn rfl DX8_over_25
set_option maxRecDepth 8000 in
theorem tX8_over_b75 {G : Gm} {x0 : Nat} {x1 : Int32} {x2 : Int32} {x3 : Int32} {x4 : Nat} {x5 : Int32} {x6 : Int32} {s : Hp} {o : Option Value × Hp} {w : (Int32 × Int32 × Hp) ⊕ ((Int32 × Hp))} (h : fX8_over_b75 x0 x1 x2 x3 x4 x5 x6 s = some w) (hc : ∀ (q5 : Int32) (q6 : Int32) (qs : Hp), w = .inl (q5, q6, qs) → R G MX8_over 38 [(0, .ref x0), (1, .int x1), (2, .int x2), (3, .int x3), (4, .ref x4), (5, .int q5), (6, .int q6)] [] qs o) (he0 : ∀ (q5 : Int32) (qs : Hp), w = .inr (q5, qs) → R G MX8_over 81 [(5, .int q5)] [] qs o) : R G MX8_over 75 [(0, .ref x0), (1, .int x1), (2, .int x2), (3, .int x3), (4, .ref x4), (5, .int x5), (6, .int x6)] [] s o := by
  unfold fX8_over_b75 at h
  refine R_iinc [(6, .int (x6 + iI 1)), (0, .ref x0), (1, .int x1), (2, .int x2), (3, .int x3), (4, .ref x4), (5, .int x5)] DX8_over_75 6 rfl (v := x6 + iI 1) (by rfl) (by decide) rfl ?_
  refine R_goto DX8_over_78 ?_
  refine R.sub (L' := [(0, .ref x0), (1, .int x1), (2, .int x2), (3, .int x3), (4, .ref x4), (5, .int x5), (6, .int (x6 + iI 1))]) [1, 2, 3, 4, 5, 6, 0] rfl ?_
  cases h
  exact hc _ _ _ rfl
set_option maxRecDepth 8000 in
theorem tX8_over_l38 {G : Gm} {x0 : Nat} {x1 : Int32} {x2 : Int32} {x3 : Int32} {x4 : Nat} {o : Option Value × Hp} {a : Int32 × Int32 × Hp} {w : (Int32 × Int32 × Hp) ⊕ ((Int32 × Hp))} (h : fX8_over_l38 x0 x1 x2 x3 x4 a = some w) (hc : ∀ (q5 : Int32) (q6 : Int32) (qs : Hp), w = .inl (q5, q6, qs) → R G MX8_over 38 [(0, .ref x0), (1, .int x1), (2, .int x2), (3, .int x3), (4, .ref x4), (5, .int q5), (6, .int q6)] [] qs o) (he0 : ∀ (q5 : Int32) (qs : Hp), w = .inr (q5, qs) → R G MX8_over 81 [(5, .int q5)] [] qs o) : R G MX8_over 38 [(0, .ref x0), (1, .int x1), (2, .int x2), (3, .int x3), (4, .ref x4), (5, .int a.1), (6, .int a.2.1)] [] a.2.2 o := by
  unfold fX8_over_l38 at h
  refine R_iload DX8_over_38 6 rfl ?_
  refine R_aload DX8_over_40 0 rfl ?_
  obtain ⟨v8, ev8, h⟩ := bind_some h
  refine R_gR DX8_over_41 fl_RX8_47 ev8 ?_
  obtain ⟨v9, ev9, h⟩ := bind_some h
  refine R_gI DX8_over_44 fl_RX8_96 ev9 ?_
  by_cases c10 : v9 ≤ a.2.1
  · replace h := if_t h c10
    refine R_icmp_ge_t DX8_over_47 c10 ?_
    refine R.sub (L' := [(5, .int a.1)]) [5] rfl ?_
    cases h
    exact he0 _ _ rfl
  · replace h := if_f h c10
    refine R_icmp_ge_f DX8_over_47 c10 ?_
    refine R_aload DX8_over_50 4 rfl ?_
    refine R_iload DX8_over_52 1 rfl ?_
    refine R_iload DX8_over_53 6 rfl ?_
    obtain ⟨r11, er11, h⟩ := bind_some h
    refine R_cV1 [.int x1, .int a.2.1] DX8_over_55 kzvX7_columnBehind ml_RX8_175 ⟨Nat.le_of_ble_eq_true rfl, Nat.le_of_ble_eq_true rfl⟩ rfl (Nat.le_of_ble_eq_true rfl) (kX7_columnBehind er11) ?_
    refine R_iload DX8_over_58 2 rfl ?_
    refine R_iload DX8_over_59 3 rfl ?_
    obtain ⟨r12, er12, h⟩ := bind_some h
    refine R_cS1 [.int x2, .int x3] DX8_over_60 kzsX8_columnOf ml_RX8_181 ⟨Nat.le_of_ble_eq_true rfl, Nat.le_of_ble_eq_true rfl⟩ rfl (Nat.le_of_ble_eq_true rfl) (kX8_columnOf er12) ?_
    by_cases c13 : r11.1 = r12.1
    · replace h := if_t h c13
      refine R_icmp_ne_f DX8_over_63 c13 ?_
      refine R_iload DX8_over_66 5 rfl ?_
      refine R_constI DX8_over_68 ci_1 ?_
      refine R_iload DX8_over_69 6 rfl ?_
      refine R_ishl DX8_over_71 ?_
      refine R_ior DX8_over_72 ?_
      obtain ⟨z14, ez14, h⟩ := lt_some h
      refine R_istoreE ez14 [(5, .int z14), (0, .ref x0), (1, .int x1), (2, .int x2), (3, .int x3), (4, .ref x4), (6, .int a.2.1)] DX8_over_73 (by decide) rfl ?_
      refine R.sub (L' := [(0, .ref x0), (1, .int x1), (2, .int x2), (3, .int x3), (4, .ref x4), (5, .int z14), (6, .int a.2.1)]) [1, 2, 3, 4, 5, 0, 6] rfl ?_
      exact tX8_over_b75 h hc he0
    · replace h := if_f h c13
      refine R_icmp_ne_t DX8_over_63 c13 ?_
      exact tX8_over_b75 h hc he0
set_option maxRecDepth 8000 in
theorem kX8_over {G : Gm} {x0 : Nat} {x1 : Int32} {x2 : Int32} {x3 : Int32} {s : Hp} {w : Int32 × Hp} (h : fX8_over x0 x1 x2 x3 s = some w) : (s.2.2 x0).1 = 8 ∧ Call G MX8_over [.ref x0, .int x1, .int x2, .int x3] s (some (.int w.1), w.2) := by
  unfold fX8_over at h
  obtain ⟨_, e0, h⟩ := bind_some h
  refine ⟨ck_some e0, Call.of_R pnRX8 (Nat.le_of_ble_eq_true rfl) ?_⟩
  clear e0
  show R G MX8_over 0 [(0, .ref x0), (1, .int x1), (2, .int x2), (3, .int x3)] [] s (some (.int w.1), w.2)
  refine R_aload DX8_over_0 0 rfl ?_
  obtain ⟨v1, ev1, h⟩ := bind_some h
  refine R_gR DX8_over_1 fl_RX8_47 ev1 ?_
  refine R_iload DX8_over_4 1 rfl ?_
  obtain ⟨r2, er2, h⟩ := bind_some h
  refine R_cV1 [.int x1] DX8_over_5 kzvX6_hasShop ml_RX8_99 ⟨Nat.le_of_ble_eq_true rfl, Nat.le_of_ble_eq_true rfl⟩ rfl (Nat.le_of_ble_eq_true rfl) (kX6_hasShop er2) ?_
  by_cases c3 : r2.1 = 0
  · replace h := if_t h c3
    refine R_if_eq_t DX8_over_8 c3 ?_
    refine R.sub (L' := []) [] rfl ?_
    exact tX8_over_b23 h
  · replace h := if_f h c3
    refine R_if_eq_f DX8_over_8 c3 ?_
    refine R_aload DX8_over_11 0 rfl ?_
    obtain ⟨v4, ev4, h⟩ := bind_some h
    refine R_gR DX8_over_12 fl_RX8_47 ev4 ?_
    refine R_iload DX8_over_15 2 rfl ?_
    refine R_iload DX8_over_16 3 rfl ?_
    obtain ⟨r5, er5, h⟩ := bind_some h
    refine R_cV1 [.int x2, .int x3] DX8_over_17 kzvX6_hasColumn ml_RX8_178 ⟨Nat.le_of_ble_eq_true rfl, Nat.le_of_ble_eq_true rfl⟩ rfl (Nat.le_of_ble_eq_true rfl) (kX6_hasColumn er5) ?_
    by_cases c6 : r5.1 = 0
    · replace h := if_t h c6
      refine R_if_ne_f DX8_over_20 c6 ?_
      refine R.sub (L' := []) [] rfl ?_
      exact tX8_over_b23 h
    · replace h := if_f h c6
      refine R_if_ne_t DX8_over_20 c6 ?_
      refine R_aload DX8_over_26 0 rfl ?_
      obtain ⟨r7, er7, h⟩ := bind_some h
      refine R_cV1 [] DX8_over_27 kzvX8_flown ml_RX8_108 ⟨Nat.le_of_ble_eq_true rfl, Nat.le_of_ble_eq_true rfl⟩ rfl (Nat.le_of_ble_eq_true rfl) (kX8_flown er7) ?_
      refine R_astore [(4, .ref r7.1), (0, .ref x0), (1, .int x1), (2, .int x2), (3, .int x3)] DX8_over_30 (by decide) rfl ?_
      refine R_constI DX8_over_32 ci_0 ?_
      refine R_istore [(5, .int (iI 0)), (4, .ref r7.1), (0, .ref x0), (1, .int x1), (2, .int x2), (3, .int x3)] DX8_over_33 (by decide) rfl ?_
      refine R_constI DX8_over_35 ci_0 ?_
      refine R_istore [(6, .int (iI 0)), (5, .int (iI 0)), (4, .ref r7.1), (0, .ref x0), (1, .int x1), (2, .int x2), (3, .int x3)] DX8_over_36 (by decide) rfl ?_
      refine R.sub (L' := [(0, .ref x0), (1, .int x1), (2, .int x2), (3, .int x3), (4, .ref r7.1), (5, .int (iI 0)), (6, .int (iI 0))]) [3, 4, 5, 6, 2, 1, 0] rfl ?_
      obtain ⟨r15, hi, h⟩ := bind_some h
      have hE : (fun u38 : Int32 × Hp => R G MX8_over 81 [(5, .int u38.1)] [] u38.2 (some (.int w.1), w.2)) r15 → ∀ (q5 : Int32) (q6 : Int32) (qs : Hp), iter (fX8_over_l38 x0 x1 x2 x3 r7.1) FU (q5, q6, qs) = some r15 → R G MX8_over 38 [(0, .ref x0), (1, .int x1), (2, .int x2), (3, .int x3), (4, .ref r7.1), (5, .int q5), (6, .int q6)] [] qs (some (.int w.1), w.2) := fun hX q5 q6 qs hj => loop_R (fX8_over_l38 x0 x1 x2 x3 r7.1) (fun p38 : Int32 × Int32 × Hp => R G MX8_over 38 [(0, .ref x0), (1, .int x1), (2, .int x2), (3, .int x3), (4, .ref r7.1), (5, .int p38.1), (6, .int p38.2.1)] [] p38.2.2 (some (.int w.1), w.2)) (fun u38 : Int32 × Hp => R G MX8_over 81 [(5, .int u38.1)] [] u38.2 (some (.int w.1), w.2)) (fun a w hw hc he => tX8_over_l38 hw (fun q5 q6 qs e => hc (q5, q6, qs) e) (fun q5 qs e => he (q5, qs) e)) FU (q5, q6, qs) r15 hj hX
      refine hE ?_ _ _ _ hi
      clear hE hi
      refine R_iload DX8_over_81 0 rfl ?_
      cases h
      exact R_ireturn rfl DX8_over_83
set_option maxRecDepth 8000 in
theorem tX8_grounded_b54 {G : Gm} {x0 : Nat} {x1 : Int32} {x2 : Nat} {x3 : Int32} {x4 : Int32} {s : Hp} {o : Option Value × Hp} {w : (Int32 × Int32 × Hp) ⊕ ((Int32 × Hp))} (h : fX8_grounded_b54 x0 x1 x2 x3 x4 s = some w) (hc : ∀ (q3 : Int32) (q4 : Int32) (qs : Hp), w = .inl (q3, q4, qs) → R G MX8_grounded 24 [(0, .ref x0), (1, .int x1), (2, .ref x2), (3, .int q3), (4, .int q4)] [] qs o) (he0 : ∀ (q3 : Int32) (qs : Hp), w = .inr (q3, qs) → R G MX8_grounded 60 [(3, .int q3)] [] qs o) : R G MX8_grounded 54 [(0, .ref x0), (1, .int x1), (2, .ref x2), (3, .int x3), (4, .int x4)] [] s o := by
  unfold fX8_grounded_b54 at h
  refine R_iinc [(4, .int (x4 + iI 1)), (0, .ref x0), (1, .int x1), (2, .ref x2), (3, .int x3)] DX8_grounded_54 4 rfl (v := x4 + iI 1) (by rfl) (by decide) rfl ?_
  refine R_goto DX8_grounded_57 ?_
  refine R.sub (L' := [(0, .ref x0), (1, .int x1), (2, .ref x2), (3, .int x3), (4, .int (x4 + iI 1))]) [1, 2, 3, 4, 0] rfl ?_
  cases h
  exact hc _ _ _ rfl
set_option maxRecDepth 8000 in
theorem tX8_grounded_l24 {G : Gm} {x0 : Nat} {x1 : Int32} {x2 : Nat} {o : Option Value × Hp} {a : Int32 × Int32 × Hp} {w : (Int32 × Int32 × Hp) ⊕ ((Int32 × Hp))} (h : fX8_grounded_l24 x0 x1 x2 a = some w) (hc : ∀ (q3 : Int32) (q4 : Int32) (qs : Hp), w = .inl (q3, q4, qs) → R G MX8_grounded 24 [(0, .ref x0), (1, .int x1), (2, .ref x2), (3, .int q3), (4, .int q4)] [] qs o) (he0 : ∀ (q3 : Int32) (qs : Hp), w = .inr (q3, qs) → R G MX8_grounded 60 [(3, .int q3)] [] qs o) : R G MX8_grounded 24 [(0, .ref x0), (1, .int x1), (2, .ref x2), (3, .int a.1), (4, .int a.2.1)] [] a.2.2 o := by
  unfold fX8_grounded_l24 at h
  refine R_iload DX8_grounded_24 4 rfl ?_
  refine R_aload DX8_grounded_26 0 rfl ?_
  obtain ⟨v5, ev5, h⟩ := bind_some h
  refine R_gR DX8_grounded_27 fl_RX8_47 ev5 ?_
  obtain ⟨v6, ev6, h⟩ := bind_some h
  refine R_gI DX8_grounded_30 fl_RX8_96 ev6 ?_
  by_cases c7 : v6 ≤ a.2.1
  · replace h := if_t h c7
    refine R_icmp_ge_t DX8_grounded_33 c7 ?_
    refine R.sub (L' := [(3, .int a.1)]) [3] rfl ?_
    cases h
    exact he0 _ _ rfl
  · replace h := if_f h c7
    refine R_icmp_ge_f DX8_grounded_33 c7 ?_
    refine R_aload DX8_grounded_36 2 rfl ?_
    refine R_iload DX8_grounded_37 1 rfl ?_
    refine R_iload DX8_grounded_38 4 rfl ?_
    refine R_constI DX8_grounded_40 ci_2 ?_
    obtain ⟨r8, er8, h⟩ := bind_some h
    refine R_cV1 [.int x1, .int a.2.1, .int (iI 2)] DX8_grounded_41 kzvX7_factBehind ml_RX8_150 ⟨Nat.le_of_ble_eq_true rfl, Nat.le_of_ble_eq_true rfl⟩ rfl (Nat.le_of_ble_eq_true rfl) (kX7_factBehind er8) ?_
    by_cases c9 : r8.1 = 0
    · replace h := if_t h c9
      refine R_if_ne_f DX8_grounded_44 c9 ?_
      refine R_iload DX8_grounded_47 3 rfl ?_
      refine R_constI DX8_grounded_48 ci_1 ?_
      refine R_iload DX8_grounded_49 4 rfl ?_
      refine R_ishl DX8_grounded_51 ?_
      refine R_ior DX8_grounded_52 ?_
      obtain ⟨z10, ez10, h⟩ := lt_some h
      refine R_istoreE ez10 [(3, .int z10), (0, .ref x0), (1, .int x1), (2, .ref x2), (4, .int a.2.1)] DX8_grounded_53 (by decide) rfl ?_
      refine R.sub (L' := [(0, .ref x0), (1, .int x1), (2, .ref x2), (3, .int z10), (4, .int a.2.1)]) [1, 2, 3, 0, 4] rfl ?_
      exact tX8_grounded_b54 h hc he0
    · replace h := if_f h c9
      refine R_if_ne_t DX8_grounded_44 c9 ?_
      exact tX8_grounded_b54 h hc he0
set_option maxRecDepth 8000 in
theorem kX8_grounded {G : Gm} {x0 : Nat} {x1 : Int32} {s : Hp} {w : Int32 × Hp} (h : fX8_grounded x0 x1 s = some w) : (s.2.2 x0).1 = 8 ∧ Call G MX8_grounded [.ref x0, .int x1] s (some (.int w.1), w.2) := by
  unfold fX8_grounded at h
  obtain ⟨_, e0, h⟩ := bind_some h
  refine ⟨ck_some e0, Call.of_R pnRX8 (Nat.le_of_ble_eq_true rfl) ?_⟩
  clear e0
  show R G MX8_grounded 0 [(0, .ref x0), (1, .int x1)] [] s (some (.int w.1), w.2)
  refine R_aload DX8_grounded_0 0 rfl ?_
  obtain ⟨v1, ev1, h⟩ := bind_some h
  refine R_gR DX8_grounded_1 fl_RX8_47 ev1 ?_
  refine R_iload DX8_grounded_4 1 rfl ?_
  obtain ⟨r2, er2, h⟩ := bind_some h
  refine R_cV1 [.int x1] DX8_grounded_5 kzvX6_hasShop ml_RX8_99 ⟨Nat.le_of_ble_eq_true rfl, Nat.le_of_ble_eq_true rfl⟩ rfl (Nat.le_of_ble_eq_true rfl) (kX6_hasShop er2) ?_
  by_cases c3 : r2.1 = 0
  · replace h := if_t h c3
    refine R_if_ne_f DX8_grounded_8 c3 ?_
    refine R_constI DX8_grounded_11 ci_m2 ?_
    cases h
    exact R_ireturn rfl DX8_grounded_13
  · replace h := if_f h c3
    refine R_if_ne_t DX8_grounded_8 c3 ?_
    refine R_aload DX8_grounded_14 0 rfl ?_
    obtain ⟨r4, er4, h⟩ := bind_some h
    refine R_cV1 [] DX8_grounded_15 kzvX8_flown ml_RX8_108 ⟨Nat.le_of_ble_eq_true rfl, Nat.le_of_ble_eq_true rfl⟩ rfl (Nat.le_of_ble_eq_true rfl) (kX8_flown er4) ?_
    refine R_astore [(2, .ref r4.1), (0, .ref x0), (1, .int x1)] DX8_grounded_18 (by decide) rfl ?_
    refine R_constI DX8_grounded_19 ci_0 ?_
    refine R_istore [(3, .int (iI 0)), (2, .ref r4.1), (0, .ref x0), (1, .int x1)] DX8_grounded_20 (by decide) rfl ?_
    refine R_constI DX8_grounded_21 ci_0 ?_
    refine R_istore [(4, .int (iI 0)), (3, .int (iI 0)), (2, .ref r4.1), (0, .ref x0), (1, .int x1)] DX8_grounded_22 (by decide) rfl ?_
    refine R.sub (L' := [(0, .ref x0), (1, .int x1), (2, .ref r4.1), (3, .int (iI 0)), (4, .int (iI 0))]) [3, 4, 2, 1, 0] rfl ?_
    obtain ⟨r11, hi, h⟩ := bind_some h
    have hE : (fun u24 : Int32 × Hp => R G MX8_grounded 60 [(3, .int u24.1)] [] u24.2 (some (.int w.1), w.2)) r11 → ∀ (q3 : Int32) (q4 : Int32) (qs : Hp), iter (fX8_grounded_l24 x0 x1 r4.1) FU (q3, q4, qs) = some r11 → R G MX8_grounded 24 [(0, .ref x0), (1, .int x1), (2, .ref r4.1), (3, .int q3), (4, .int q4)] [] qs (some (.int w.1), w.2) := fun hX q3 q4 qs hj => loop_R (fX8_grounded_l24 x0 x1 r4.1) (fun p24 : Int32 × Int32 × Hp => R G MX8_grounded 24 [(0, .ref x0), (1, .int x1), (2, .ref r4.1), (3, .int p24.1), (4, .int p24.2.1)] [] p24.2.2 (some (.int w.1), w.2)) (fun u24 : Int32 × Hp => R G MX8_grounded 60 [(3, .int u24.1)] [] u24.2 (some (.int w.1), w.2)) (fun a w hw hc he => tX8_grounded_l24 hw (fun q3 q4 qs e => hc (q3, q4, qs) e) (fun q3 qs e => he (q3, qs) e)) FU (q3, q4, qs) r11 hj hX
    refine hE ?_ _ _ _ hi
    clear hE hi
    refine R_iload DX8_grounded_60 0 rfl ?_
    cases h
    exact R_ireturn rfl DX8_grounded_61
set_option maxRecDepth 8000 in
theorem tX8_hasShopCell_b39 {G : Gm} {s : Hp} {w : Int32 × Hp} (h : fX8_hasShopCell_b39 s = some w) : R G MX8_hasShopCell 39 [] [] s (some (.int w.1), w.2) := by
  unfold fX8_hasShopCell_b39 at h
  refine R_constI DX8_hasShopCell_39 ci_0 ?_
  cases h
  exact R_zreturn rfl DX8_hasShopCell_40 (by decide)
set_option maxRecDepth 8000 in
theorem kX8_hasShopCell {G : Gm} {x0 : Nat} {x1 : Int32} {x2 : Int32} {x3 : Int32} {x4 : Int32} {s : Hp} {w : Int32 × Hp} (h : fX8_hasShopCell x0 x1 x2 x3 x4 s = some w) : (s.2.2 x0).1 = 8 ∧ Call G MX8_hasShopCell [.ref x0, .int x1, .int x2, .int x3, .int x4] s (some (.int w.1), w.2) := by
  unfold fX8_hasShopCell at h
  obtain ⟨_, e0, h⟩ := bind_some h
  refine ⟨ck_some e0, Call.of_R pnRX8 (Nat.le_of_ble_eq_true rfl) ?_⟩
  clear e0
  show R G MX8_hasShopCell 0 [(0, .ref x0), (1, .int x1), (2, .int x2), (3, .int x3), (4, .int x4)] [] s (some (.int w.1), w.2)
  refine R_aload DX8_hasShopCell_0 0 rfl ?_
  obtain ⟨v1, ev1, h⟩ := bind_some h
  refine R_gR DX8_hasShopCell_1 fl_RX8_47 ev1 ?_
  refine R_iload DX8_hasShopCell_4 1 rfl ?_
  obtain ⟨r2, er2, h⟩ := bind_some h
  refine R_cV1 [.int x1] DX8_hasShopCell_5 kzvX6_hasShop ml_RX8_99 ⟨Nat.le_of_ble_eq_true rfl, Nat.le_of_ble_eq_true rfl⟩ rfl (Nat.le_of_ble_eq_true rfl) (kX6_hasShop er2) ?_
  by_cases c3 : r2.1 = 0
  · replace h := if_t h c3
    refine R_if_eq_t DX8_hasShopCell_8 c3 ?_
    refine R.sub (L' := []) [] rfl ?_
    exact tX8_hasShopCell_b39 h
  · replace h := if_f h c3
    refine R_if_eq_f DX8_hasShopCell_8 c3 ?_
    refine R_aload DX8_hasShopCell_11 0 rfl ?_
    obtain ⟨v4, ev4, h⟩ := bind_some h
    refine R_gR DX8_hasShopCell_12 fl_RX8_47 ev4 ?_
    refine R_iload DX8_hasShopCell_15 2 rfl ?_
    refine R_iload DX8_hasShopCell_16 3 rfl ?_
    obtain ⟨r5, er5, h⟩ := bind_some h
    refine R_cV1 [.int x2, .int x3] DX8_hasShopCell_17 kzvX6_hasColumn ml_RX8_178 ⟨Nat.le_of_ble_eq_true rfl, Nat.le_of_ble_eq_true rfl⟩ rfl (Nat.le_of_ble_eq_true rfl) (kX6_hasColumn er5) ?_
    by_cases c6 : r5.1 = 0
    · replace h := if_t h c6
      refine R_if_eq_t DX8_hasShopCell_20 c6 ?_
      refine R.sub (L' := []) [] rfl ?_
      exact tX8_hasShopCell_b39 h
    · replace h := if_f h c6
      refine R_if_eq_f DX8_hasShopCell_20 c6 ?_
      refine R_aload DX8_hasShopCell_23 0 rfl ?_
      obtain ⟨v7, ev7, h⟩ := bind_some h
      refine R_gR DX8_hasShopCell_24 fl_RX8_47 ev7 ?_
      refine R_iload DX8_hasShopCell_27 4 rfl ?_
      obtain ⟨r8, er8, h⟩ := bind_some h
      refine R_cV1 [.int x4] DX8_hasShopCell_29 kzvX6_hasLayer ml_RX8_82 ⟨Nat.le_of_ble_eq_true rfl, Nat.le_of_ble_eq_true rfl⟩ rfl (Nat.le_of_ble_eq_true rfl) (kX6_hasLayer er8) ?_
      by_cases c9 : r8.1 = 0
      · replace h := if_t h c9
        refine R_if_eq_t DX8_hasShopCell_32 c9 ?_
        refine R.sub (L' := []) [] rfl ?_
        exact tX8_hasShopCell_b39 h
      · replace h := if_f h c9
        refine R_if_eq_f DX8_hasShopCell_32 c9 ?_
        refine R_constI DX8_hasShopCell_35 ci_1 ?_
        refine R_goto DX8_hasShopCell_36 ?_
        cases h
        exact R_zreturn rfl DX8_hasShopCell_40 (by decide)
set_option maxRecDepth 8000 in
theorem tX8_roaming_b18 {G : Gm} {x0 : Nat} {s : Hp} {w : Nat × Hp} (h : fX8_roaming_b18 x0 s = some w) : R G MX8_roaming 18 [(0, .ref x0)] [] s (some (.ref w.1), w.2) := by
  unfold fX8_roaming_b18 at h
  refine R_aload DX8_roaming_18 0 rfl ?_
  obtain ⟨v5, ev5, h⟩ := bind_some h
  refine R_gR DX8_roaming_19 fl_RX8_400 ev5 ?_
  cases h
  exact R_areturn rfl DX8_roaming_22
set_option maxRecDepth 8000 in
theorem kX8_roaming {G : Gm} {x0 : Nat} {s : Hp} {w : Nat × Hp} (h : fX8_roaming x0 s = some w) : (s.2.2 x0).1 = 8 ∧ Call G MX8_roaming [.ref x0] s (some (.ref w.1), w.2) := by
  unfold fX8_roaming at h
  obtain ⟨_, e0, h⟩ := bind_some h
  refine ⟨ck_some e0, Call.of_R pnRX8 (Nat.le_of_ble_eq_true rfl) ?_⟩
  clear e0
  show R G MX8_roaming 0 [(0, .ref x0)] [] s (some (.ref w.1), w.2)
  refine R_aload DX8_roaming_0 0 rfl ?_
  obtain ⟨v1, ev1, h⟩ := bind_some h
  refine R_gO DX8_roaming_1 fl_RX8_400 ev1 ?_
  cases v1 with
  | none =>
    refine R_ifnn_f DX8_roaming_4 ?_
    refine R_aload DX8_roaming_7 0 rfl ?_
    refine R_new DX8_roaming_8 nc_RX8_213 ?_
    obtain ⟨s2, es2, h⟩ := lt_some h
    rw [← es2]
    refine R_dup DX8_roaming_11 rfl ?_
    obtain ⟨s3, es3, h⟩ := bind_some h
    refine R_cI [] DX8_roaming_12 kziX4_init ml_RX8_404 ⟨Nat.le_of_ble_eq_true rfl, Nat.le_of_ble_eq_true rfl⟩ rfl (Nat.le_of_ble_eq_true rfl) (kX4_init es3) ?_
    obtain ⟨s4, es4, h⟩ := bind_some h
    refine R_pR DX8_roaming_15 fl_RX8_400 es4 ?_
    exact tX8_roaming_b18 h
  | some q6 =>
    refine R_ifnn_t DX8_roaming_4 ?_
    exact tX8_roaming_b18 h
set_option maxRecDepth 8000 in
theorem kX8_reachOf {G : Gm} {x0 : Nat} {x1 : Int32} {s : Hp} {w : Nat × Hp} (h : fX8_reachOf x0 x1 s = some w) : (s.2.2 x0).1 = 8 ∧ Call G MX8_reachOf [.ref x0, .int x1] s (some (.ref w.1), w.2) := by
  unfold fX8_reachOf at h
  obtain ⟨_, e0, h⟩ := bind_some h
  refine ⟨ck_some e0, Call.of_R pnRX8 (Nat.le_of_ble_eq_true rfl) ?_⟩
  clear e0
  show R G MX8_reachOf 0 [(0, .ref x0), (1, .int x1)] [] s (some (.ref w.1), w.2)
  refine R_aload DX8_reachOf_0 0 rfl ?_
  obtain ⟨r1, er1, h⟩ := bind_some h
  refine R_cV1 [] DX8_reachOf_1 kzvX8_roaming ml_RX8_208 ⟨Nat.le_of_ble_eq_true rfl, Nat.le_of_ble_eq_true rfl⟩ rfl (Nat.le_of_ble_eq_true rfl) (kX8_roaming er1) ?_
  refine R_aload DX8_reachOf_4 0 rfl ?_
  obtain ⟨v2, ev2, h⟩ := bind_some h
  refine R_gR DX8_reachOf_5 fl_RX8_47 ev2 ?_
  refine R_iload DX8_reachOf_8 1 rfl ?_
  refine R_aload DX8_reachOf_9 0 rfl ?_
  obtain ⟨v3, ev3, h⟩ := bind_some h
  refine R_gI DX8_reachOf_10 fl_RX8_54 ev3 ?_
  obtain ⟨r4, er4, h⟩ := bind_some h
  refine R_cV1 [.ref v2, .int x1, .int v3] DX8_reachOf_13 kzvX4_cellsOf ml_RX8_405 ⟨Nat.le_of_ble_eq_true rfl, Nat.le_of_ble_eq_true rfl⟩ rfl (Nat.le_of_ble_eq_true rfl) (kX4_cellsOf er4) ?_
  cases h
  exact R_areturn rfl DX8_reachOf_16
set_option maxRecDepth 8000 in
theorem tX8_least_b51 {G : Gm} {x0 : Nat} {x1 : Int32} {x4 : Int32} {x5 : Int32} {s : Hp} {w : Int32 × Hp} (h : fX8_least_b51 x0 x1 x4 x5 s = some w) : R G MX8_least 51 [(0, .ref x0), (1, .int x1), (4, .int x4), (5, .int x5)] [] s (some (.int w.1), w.2) := by
  unfold fX8_least_b51 at h
  refine R_aload DX8_least_51 0 rfl ?_
  refine R_iload DX8_least_52 1 rfl ?_
  obtain ⟨r7, er7, h⟩ := bind_some h
  refine R_cV1 [.int x1] DX8_least_53 kzvX8_reachOf ml_RX8_191 ⟨Nat.le_of_ble_eq_true rfl, Nat.le_of_ble_eq_true rfl⟩ rfl (Nat.le_of_ble_eq_true rfl) (kX8_reachOf er7) ?_
  refine R_aload DX8_least_56 0 rfl ?_
  obtain ⟨v8, ev8, h⟩ := bind_some h
  refine R_gR DX8_least_57 fl_RX8_47 ev8 ?_
  obtain ⟨v9, ev9, h⟩ := bind_some h
  refine R_gI DX8_least_60 fl_RX8_96 ev9 ?_
  refine R_iload DX8_least_63 2 rfl ?_
  refine R_iload DX8_least_65 3 rfl ?_
  obtain ⟨r10, er10, h⟩ := bind_some h
  refine R_cS1 [.int x5] DX8_least_67 kzsX8_bitOf ml_RX8_195 ⟨Nat.le_of_ble_eq_true rfl, Nat.le_of_ble_eq_true rfl⟩ rfl (Nat.le_of_ble_eq_true rfl) (kX8_bitOf er10) ?_
  obtain ⟨r11, er11, h⟩ := bind_some h
  refine R_cV1 [.int v9, .int x4, .long r10.1] DX8_least_70 kzvX2_leastOfAll ml_RX8_199 ⟨Nat.le_of_ble_eq_true rfl, Nat.le_of_ble_eq_true rfl⟩ rfl (Nat.le_of_ble_eq_true rfl) (kX2_leastOfAll er11) ?_
  cases h
  exact R_ireturn rfl DX8_least_73
set_option maxRecDepth 8000 in
theorem kX8_least {G : Gm} {x0 : Nat} {x1 : Int32} {x2 : Int32} {x3 : Int32} {x4 : Int32} {s : Hp} {w : Int32 × Hp} (h : fX8_least x0 x1 x2 x3 x4 s = some w) : (s.2.2 x0).1 = 8 ∧ Call G MX8_least [.ref x0, .int x1, .int x2, .int x3, .int x4] s (some (.int w.1), w.2) := by
  unfold fX8_least at h
  obtain ⟨_, e0, h⟩ := bind_some h
  refine ⟨ck_some e0, Call.of_R pnRX8 (Nat.le_of_ble_eq_true rfl) ?_⟩
  clear e0
  show R G MX8_least 0 [(0, .ref x0), (1, .int x1), (2, .int x2), (3, .int x3), (4, .int x4)] [] s (some (.int w.1), w.2)
  refine R_aload DX8_least_0 0 rfl ?_
  refine R_iload DX8_least_1 1 rfl ?_
  refine R_iload DX8_least_2 2 rfl ?_
  refine R_iload DX8_least_3 3 rfl ?_
  refine R_iload DX8_least_4 4 rfl ?_
  obtain ⟨r1, er1, h⟩ := bind_some h
  refine R_cV1 [.int x1, .int x2, .int x3, .int x4] DX8_least_6 kzvX8_hasShopCell ml_RX8_184 ⟨Nat.le_of_ble_eq_true rfl, Nat.le_of_ble_eq_true rfl⟩ rfl (Nat.le_of_ble_eq_true rfl) (kX8_hasShopCell er1) ?_
  by_cases c2 : r1.1 = 0
  · replace h := if_t h c2
    refine R_if_ne_f DX8_least_9 c2 ?_
    refine R_constI DX8_least_12 ci_m2 ?_
    cases h
    exact R_ireturn rfl DX8_least_14
  · replace h := if_f h c2
    refine R_if_ne_t DX8_least_9 c2 ?_
    refine R_iload DX8_least_15 2 rfl ?_
    refine R_iload DX8_least_16 3 rfl ?_
    obtain ⟨r3, er3, h⟩ := bind_some h
    refine R_cS1 [.int x2, .int x3] DX8_least_17 kzsX8_columnOf ml_RX8_181 ⟨Nat.le_of_ble_eq_true rfl, Nat.le_of_ble_eq_true rfl⟩ rfl (Nat.le_of_ble_eq_true rfl) (kX8_columnOf er3) ?_
    refine R_istore [(5, .int r3.1), (0, .ref x0), (1, .int x1), (2, .int x2), (3, .int x3), (4, .int x4)] DX8_least_20 (by decide) rfl ?_
    refine R_aload DX8_least_22 1 rfl ?_
    obtain ⟨v4, ev4, h⟩ := bind_some h
    refine R_gR DX8_least_23 fl_RX8_47 ev4 ?_
    refine R_iload DX8_least_26 2 rfl ?_
    obtain ⟨r5, er5, h⟩ := bind_some h
    refine R_cV1 [.int x1] DX8_least_27 kzvX6_shopColumn ml_RX8_188 ⟨Nat.le_of_ble_eq_true rfl, Nat.le_of_ble_eq_true rfl⟩ rfl (Nat.le_of_ble_eq_true rfl) (kX6_shopColumn er5) ?_
    refine R_iload DX8_least_30 0 rfl ?_
    by_cases c6 : r5.1 = r3.1
    · replace h := if_t h c6
      refine R_icmp_ne_f DX8_least_32 c6 ?_
      refine R_aload DX8_least_35 1 rfl ?_
      obtain ⟨v12, ev12, h⟩ := bind_some h
      refine R_gR DX8_least_36 fl_RX8_47 ev12 ?_
      refine R_iload DX8_least_39 2 rfl ?_
      refine R_constI DX8_least_40 ci_2 ?_
      obtain ⟨r13, er13, h⟩ := bind_some h
      refine R_cV1 [.int x1, .int (iI 2)] DX8_least_41 kzvX6_shopFact ml_RX8_102 ⟨Nat.le_of_ble_eq_true rfl, Nat.le_of_ble_eq_true rfl⟩ rfl (Nat.le_of_ble_eq_true rfl) (kX6_shopFact er13) ?_
      refine R_iload DX8_least_44 5 rfl ?_
      by_cases c14 : r13.1 = x4
      · replace h := if_t h c14
        refine R_icmp_ne_f DX8_least_46 c14 ?_
        refine R_constI DX8_least_49 ci_0 ?_
        cases h
        exact R_ireturn rfl DX8_least_50
      · replace h := if_f h c14
        refine R_icmp_ne_t DX8_least_46 c14 ?_
        refine R.sub (L' := [(0, .ref x0), (1, .int x1), (4, .int x4), (5, .int r3.1)]) [1, 2, 5, 0] rfl ?_
        exact tX8_least_b51 h
    · replace h := if_f h c6
      refine R_icmp_ne_t DX8_least_32 c6 ?_
      refine R.sub (L' := [(0, .ref x0), (1, .int x1), (4, .int x4), (5, .int r3.1)]) [1, 2, 5, 0] rfl ?_
      exact tX8_least_b51 h
set_option maxRecDepth 8000 in
theorem kX8_soonest {G : Gm} {x0 : Nat} {x1 : Int32} {x2 : Int32} {x3 : Int32} {x4 : Int32} {s : Hp} {w : Int32 × Hp} (h : fX8_soonest x0 x1 x2 x3 x4 s = some w) : (s.2.2 x0).1 = 8 ∧ Call G MX8_soonest [.ref x0, .int x1, .int x2, .int x3, .int x4] s (some (.int w.1), w.2) := by
  unfold fX8_soonest at h
  obtain ⟨_, e0, h⟩ := bind_some h
  refine ⟨ck_some e0, Call.of_R pnRX8 (Nat.le_of_ble_eq_true rfl) ?_⟩
  clear e0
  show R G MX8_soonest 0 [(0, .ref x0), (1, .int x1), (2, .int x2), (3, .int x3), (4, .int x4)] [] s (some (.int w.1), w.2)
  refine R_aload DX8_soonest_0 0 rfl ?_
  refine R_iload DX8_soonest_1 1 rfl ?_
  refine R_iload DX8_soonest_2 2 rfl ?_
  refine R_iload DX8_soonest_3 3 rfl ?_
  refine R_iload DX8_soonest_4 4 rfl ?_
  obtain ⟨r1, er1, h⟩ := bind_some h
  refine R_cV1 [.int x1, .int x2, .int x3, .int x4] DX8_soonest_6 kzvX8_hasShopCell ml_RX8_184 ⟨Nat.le_of_ble_eq_true rfl, Nat.le_of_ble_eq_true rfl⟩ rfl (Nat.le_of_ble_eq_true rfl) (kX8_hasShopCell er1) ?_
  by_cases c2 : r1.1 = 0
  · replace h := if_t h c2
    refine R_if_ne_f DX8_soonest_9 c2 ?_
    refine R_constI DX8_soonest_12 ci_m2 ?_
    cases h
    exact R_ireturn rfl DX8_soonest_14
  · replace h := if_f h c2
    refine R_if_ne_t DX8_soonest_9 c2 ?_
    refine R_aload DX8_soonest_15 0 rfl ?_
    refine R_iload DX8_soonest_16 1 rfl ?_
    obtain ⟨r3, er3, h⟩ := bind_some h
    refine R_cV1 [.int x1] DX8_soonest_17 kzvX8_reachOf ml_RX8_191 ⟨Nat.le_of_ble_eq_true rfl, Nat.le_of_ble_eq_true rfl⟩ rfl (Nat.le_of_ble_eq_true rfl) (kX8_reachOf er3) ?_
    refine R_aload DX8_soonest_20 0 rfl ?_
    obtain ⟨v4, ev4, h⟩ := bind_some h
    refine R_gR DX8_soonest_21 fl_RX8_47 ev4 ?_
    obtain ⟨v5, ev5, h⟩ := bind_some h
    refine R_gI DX8_soonest_24 fl_RX8_96 ev5 ?_
    refine R_iload DX8_soonest_27 4 rfl ?_
    refine R_iload DX8_soonest_29 2 rfl ?_
    refine R_iload DX8_soonest_30 3 rfl ?_
    obtain ⟨r6, er6, h⟩ := bind_some h
    refine R_cS1 [.int x2, .int x3] DX8_soonest_31 kzsX8_columnOf ml_RX8_181 ⟨Nat.le_of_ble_eq_true rfl, Nat.le_of_ble_eq_true rfl⟩ rfl (Nat.le_of_ble_eq_true rfl) (kX8_columnOf er6) ?_
    obtain ⟨r7, er7, h⟩ := bind_some h
    refine R_cS1 [.int r6.1] DX8_soonest_34 kzsX8_bitOf ml_RX8_195 ⟨Nat.le_of_ble_eq_true rfl, Nat.le_of_ble_eq_true rfl⟩ rfl (Nat.le_of_ble_eq_true rfl) (kX8_bitOf er7) ?_
    obtain ⟨r8, er8, h⟩ := bind_some h
    refine R_cV1 [.int v5, .int x4, .long r7.1] DX8_soonest_37 kzvX2_soonestOf ml_RX8_205 ⟨Nat.le_of_ble_eq_true rfl, Nat.le_of_ble_eq_true rfl⟩ rfl (Nat.le_of_ble_eq_true rfl) (kX2_soonestOf er8) ?_
    cases h
    exact R_ireturn rfl DX8_soonest_40
set_option maxRecDepth 8000 in
theorem tX8_way_b24 {G : Gm} {s : Hp} {w : Int32 × Hp} (h : fX8_way_b24 s = some w) : R G MX8_way 24 [] [] s (some (.int w.1), w.2) := by
  unfold fX8_way_b24 at h
  refine R_constI DX8_way_24 ci_m2 ?_
  cases h
  exact R_ireturn rfl DX8_way_26
set_option maxRecDepth 8000 in
theorem kX8_way {G : Gm} {x0 : Nat} {x1 : Int32} {x2 : Int32} {x3 : Int32} {x4 : Int32} {x5 : Int32} {s : Hp} {w : Int32 × Hp} (h : fX8_way x0 x1 x2 x3 x4 x5 s = some w) : (s.2.2 x0).1 = 8 ∧ Call G MX8_way [.ref x0, .int x1, .int x2, .int x3, .int x4, .int x5] s (some (.int w.1), w.2) := by
  unfold fX8_way at h
  obtain ⟨_, e0, h⟩ := bind_some h
  refine ⟨ck_some e0, Call.of_R pnRX8 (Nat.le_of_ble_eq_true rfl) ?_⟩
  clear e0
  show R G MX8_way 0 [(0, .ref x0), (1, .int x1), (2, .int x2), (3, .int x3), (4, .int x4), (5, .int x5)] [] s (some (.int w.1), w.2)
  refine R_aload DX8_way_0 0 rfl ?_
  refine R_iload DX8_way_1 1 rfl ?_
  refine R_iload DX8_way_2 2 rfl ?_
  refine R_iload DX8_way_3 3 rfl ?_
  refine R_iload DX8_way_4 4 rfl ?_
  obtain ⟨r1, er1, h⟩ := bind_some h
  refine R_cV1 [.int x1, .int x2, .int x3, .int x4] DX8_way_6 kzvX8_hasShopCell ml_RX8_184 ⟨Nat.le_of_ble_eq_true rfl, Nat.le_of_ble_eq_true rfl⟩ rfl (Nat.le_of_ble_eq_true rfl) (kX8_hasShopCell er1) ?_
  by_cases c2 : r1.1 = 0
  · replace h := if_t h c2
    refine R_if_eq_t DX8_way_9 c2 ?_
    refine R.sub (L' := []) [] rfl ?_
    exact tX8_way_b24 h
  · replace h := if_f h c2
    refine R_if_eq_f DX8_way_9 c2 ?_
    refine R_aload DX8_way_12 0 rfl ?_
    obtain ⟨v3, ev3, h⟩ := bind_some h
    refine R_gR DX8_way_13 fl_RX8_47 ev3 ?_
    refine R_iload DX8_way_16 5 rfl ?_
    obtain ⟨r4, er4, h⟩ := bind_some h
    refine R_cV1 [.int x5] DX8_way_18 kzvX6_hasHour ml_RX8_86 ⟨Nat.le_of_ble_eq_true rfl, Nat.le_of_ble_eq_true rfl⟩ rfl (Nat.le_of_ble_eq_true rfl) (kX6_hasHour er4) ?_
    by_cases c5 : r4.1 = 0
    · replace h := if_t h c5
      refine R_if_ne_f DX8_way_21 c5 ?_
      refine R.sub (L' := []) [] rfl ?_
      exact tX8_way_b24 h
    · replace h := if_f h c5
      refine R_if_ne_t DX8_way_21 c5 ?_
      refine R_aload DX8_way_27 0 rfl ?_
      obtain ⟨r6, er6, h⟩ := bind_some h
      refine R_cV1 [] DX8_way_28 kzvX8_roaming ml_RX8_208 ⟨Nat.le_of_ble_eq_true rfl, Nat.le_of_ble_eq_true rfl⟩ rfl (Nat.le_of_ble_eq_true rfl) (kX8_roaming er6) ?_
      refine R_aload DX8_way_31 0 rfl ?_
      obtain ⟨v7, ev7, h⟩ := bind_some h
      refine R_gR DX8_way_32 fl_RX8_47 ev7 ?_
      refine R_iload DX8_way_35 1 rfl ?_
      refine R_aload DX8_way_36 0 rfl ?_
      obtain ⟨v8, ev8, h⟩ := bind_some h
      refine R_gI DX8_way_37 fl_RX8_54 ev8 ?_
      refine R_iload DX8_way_40 5 rfl ?_
      refine R_iload DX8_way_42 2 rfl ?_
      refine R_iload DX8_way_43 3 rfl ?_
      obtain ⟨r9, er9, h⟩ := bind_some h
      refine R_cS1 [.int x2, .int x3] DX8_way_44 kzsX8_columnOf ml_RX8_181 ⟨Nat.le_of_ble_eq_true rfl, Nat.le_of_ble_eq_true rfl⟩ rfl (Nat.le_of_ble_eq_true rfl) (kX8_columnOf er9) ?_
      refine R_iload DX8_way_47 4 rfl ?_
      obtain ⟨r10, er10, h⟩ := bind_some h
      refine R_cV1 [.ref v7, .int x1, .int v8, .int x5, .int r9.1, .int x4] DX8_way_49 kzvX4_actOnWay ml_RX8_212 ⟨Nat.le_of_ble_eq_true rfl, Nat.le_of_ble_eq_true rfl⟩ rfl (Nat.le_of_ble_eq_true rfl) (kX4_actOnWay er10) ?_
      cases h
      exact R_ireturn rfl DX8_way_52
set_option maxRecDepth 8000 in
theorem kJ13_bitCount_95d88 {G : Gm} {x0 : Int64} {s : Hp} {w : Int32 × Hp} (h : fJ13_bitCount_95d88 x0 s = some w) : Call G MJ13_bitCount_95d88 [.long x0] s (some (.int w.1), w.2) := by
  unfold fJ13_bitCount_95d88 at h
  refine Call.of_R pnRJ13 (Nat.le_of_ble_eq_true rfl) ?_
  show R G MJ13_bitCount_95d88 0 [(0, .long x0)] [] s (some (.int w.1), w.2)
  refine R_lload DJ13_bitCount_95d88_0 0 rfl ?_
  refine R_lload DJ13_bitCount_95d88_1 0 rfl ?_
  refine R_constI DJ13_bitCount_95d88_2 ci_1 ?_
  refine R_lushr DJ13_bitCount_95d88_3 ?_
  refine R_ldc2 DJ13_bitCount_95d88_4 cw_RJ13_314 ?_
  refine R_land DJ13_bitCount_95d88_7 ?_
  refine R_lsub DJ13_bitCount_95d88_8 ?_
  obtain ⟨z1, ez1, h⟩ := lt_some h
  refine R_lstoreE ez1 [(0, .long z1)] DJ13_bitCount_95d88_9 (by decide) rfl ?_
  refine R_lload DJ13_bitCount_95d88_10 0 rfl ?_
  refine R_ldc2 DJ13_bitCount_95d88_11 cw_RJ13_316 ?_
  refine R_land DJ13_bitCount_95d88_14 ?_
  refine R_lload DJ13_bitCount_95d88_15 0 rfl ?_
  refine R_constI DJ13_bitCount_95d88_16 ci_2 ?_
  refine R_lushr DJ13_bitCount_95d88_17 ?_
  refine R_ldc2 DJ13_bitCount_95d88_18 cw_RJ13_316 ?_
  refine R_land DJ13_bitCount_95d88_21 ?_
  refine R_ladd DJ13_bitCount_95d88_22 ?_
  obtain ⟨z2, ez2, h⟩ := lt_some h
  refine R_lstoreE ez2 [(0, .long z2)] DJ13_bitCount_95d88_23 (by decide) rfl ?_
  refine R_lload DJ13_bitCount_95d88_24 0 rfl ?_
  refine R_lload DJ13_bitCount_95d88_25 0 rfl ?_
  refine R_constI DJ13_bitCount_95d88_26 ci_4 ?_
  refine R_lushr DJ13_bitCount_95d88_27 ?_
  refine R_ladd DJ13_bitCount_95d88_28 ?_
  refine R_ldc2 DJ13_bitCount_95d88_29 cw_RJ13_318 ?_
  refine R_land DJ13_bitCount_95d88_32 ?_
  obtain ⟨z3, ez3, h⟩ := lt_some h
  refine R_lstoreE ez3 [(0, .long z3)] DJ13_bitCount_95d88_33 (by decide) rfl ?_
  refine R_lload DJ13_bitCount_95d88_34 0 rfl ?_
  refine R_lload DJ13_bitCount_95d88_35 0 rfl ?_
  refine R_constI DJ13_bitCount_95d88_36 ci_8 ?_
  refine R_lushr DJ13_bitCount_95d88_38 ?_
  refine R_ladd DJ13_bitCount_95d88_39 ?_
  obtain ⟨z4, ez4, h⟩ := lt_some h
  refine R_lstoreE ez4 [(0, .long z4)] DJ13_bitCount_95d88_40 (by decide) rfl ?_
  refine R_lload DJ13_bitCount_95d88_41 0 rfl ?_
  refine R_lload DJ13_bitCount_95d88_42 0 rfl ?_
  refine R_constI DJ13_bitCount_95d88_43 ci_16 ?_
  refine R_lushr DJ13_bitCount_95d88_45 ?_
  refine R_ladd DJ13_bitCount_95d88_46 ?_
  obtain ⟨z5, ez5, h⟩ := lt_some h
  refine R_lstoreE ez5 [(0, .long z5)] DJ13_bitCount_95d88_47 (by decide) rfl ?_
  refine R_lload DJ13_bitCount_95d88_48 0 rfl ?_
  refine R_lload DJ13_bitCount_95d88_49 0 rfl ?_
  refine R_constI DJ13_bitCount_95d88_50 ci_32 ?_
  refine R_lushr DJ13_bitCount_95d88_52 ?_
  refine R_ladd DJ13_bitCount_95d88_53 ?_
  obtain ⟨z6, ez6, h⟩ := lt_some h
  refine R_lstoreE ez6 [(0, .long z6)] DJ13_bitCount_95d88_54 (by decide) rfl ?_
  refine R_lload DJ13_bitCount_95d88_55 0 rfl ?_
  refine R_l2i DJ13_bitCount_95d88_56 ?_
  refine R_constI DJ13_bitCount_95d88_57 ci_127 ?_
  refine R_iand DJ13_bitCount_95d88_59 ?_
  cases h
  exact R_ireturn rfl DJ13_bitCount_95d88_60
set_option maxRecDepth 8000 in
theorem tX8_spots_l24 {G : Gm} {x0 : Nat} {x2 : Int32} {x3 : Nat} {o : Option Value × Hp} {a : Int32 × Int32 × Hp} {w : (Int32 × Int32 × Hp) ⊕ ((Int32 × Hp))} (h : fX8_spots_l24 x0 x2 x3 a = some w) (hc : ∀ (q4 : Int32) (q5 : Int32) (qs : Hp), w = .inl (q4, q5, qs) → R G MX8_spots 24 [(0, .ref x0), (2, .int x2), (3, .ref x3), (4, .int q4), (5, .int q5)] [] qs o) (he0 : ∀ (q4 : Int32) (qs : Hp), w = .inr (q4, qs) → R G MX8_spots 57 [(4, .int q4)] [] qs o) : R G MX8_spots 24 [(0, .ref x0), (2, .int x2), (3, .ref x3), (4, .int a.1), (5, .int a.2.1)] [] a.2.2 o := by
  unfold fX8_spots_l24 at h
  refine R_iload DX8_spots_24 4 rfl ?_
  refine R_aload DX8_spots_26 0 rfl ?_
  obtain ⟨v4, ev4, h⟩ := bind_some h
  refine R_gR DX8_spots_27 fl_RX8_47 ev4 ?_
  obtain ⟨v5, ev5, h⟩ := bind_some h
  refine R_gI DX8_spots_30 fl_RX8_218 ev5 ?_
  by_cases c6 : v5 ≤ a.2.1
  · replace h := if_t h c6
    refine R_icmp_ge_t DX8_spots_33 c6 ?_
    refine R.sub (L' := [(4, .int a.1)]) [3] rfl ?_
    cases h
    exact he0 _ _ rfl
  · replace h := if_f h c6
    refine R_icmp_ge_f DX8_spots_33 c6 ?_
    refine R_iload DX8_spots_36 3 rfl ?_
    refine R_aload DX8_spots_38 2 rfl ?_
    refine R_iload DX8_spots_39 1 rfl ?_
    refine R_iload DX8_spots_40 4 rfl ?_
    obtain ⟨r7, er7, h⟩ := bind_some h
    refine R_cV1 [.int x2, .int a.2.1] DX8_spots_42 kzvX2_columnsAt ml_RX8_221 ⟨Nat.le_of_ble_eq_true rfl, Nat.le_of_ble_eq_true rfl⟩ rfl (Nat.le_of_ble_eq_true rfl) (kX2_columnsAt er7) ?_
    obtain ⟨r8, er8, h⟩ := bind_some h
    refine R_cS1 [.long r7.1] DX8_spots_45 kzsJ13_bitCount_95d88 ml_RX8_225 ⟨Nat.le_of_ble_eq_true rfl, Nat.le_of_ble_eq_true rfl⟩ rfl (Nat.le_of_ble_eq_true rfl) (kJ13_bitCount_95d88 er8) ?_
    refine R_iadd DX8_spots_48 ?_
    obtain ⟨z9, ez9, h⟩ := lt_some h
    refine R_istoreE ez9 [(4, .int z9), (0, .ref x0), (2, .int x2), (3, .ref x3), (5, .int a.2.1)] DX8_spots_49 (by decide) rfl ?_
    refine R_iinc [(5, .int (a.2.1 + iI 1)), (4, .int z9), (0, .ref x0), (2, .int x2), (3, .ref x3)] DX8_spots_51 4 rfl (v := a.2.1 + iI 1) (by rfl) (by decide) rfl ?_
    refine R_goto DX8_spots_54 ?_
    refine R.sub (L' := [(0, .ref x0), (2, .int x2), (3, .ref x3), (4, .int z9), (5, .int (a.2.1 + iI 1))]) [2, 3, 4, 1, 0] rfl ?_
    cases h
    exact hc _ _ _ rfl
set_option maxRecDepth 8000 in
theorem kX8_spots {G : Gm} {x0 : Nat} {x1 : Int32} {x2 : Int32} {s : Hp} {w : Int32 × Hp} (h : fX8_spots x0 x1 x2 s = some w) : (s.2.2 x0).1 = 8 ∧ Call G MX8_spots [.ref x0, .int x1, .int x2] s (some (.int w.1), w.2) := by
  unfold fX8_spots at h
  obtain ⟨_, e0, h⟩ := bind_some h
  refine ⟨ck_some e0, Call.of_R pnRX8 (Nat.le_of_ble_eq_true rfl) ?_⟩
  clear e0
  show R G MX8_spots 0 [(0, .ref x0), (1, .int x1), (2, .int x2)] [] s (some (.int w.1), w.2)
  refine R_aload DX8_spots_0 0 rfl ?_
  refine R_iload DX8_spots_1 1 rfl ?_
  refine R_iload DX8_spots_2 2 rfl ?_
  obtain ⟨r1, er1, h⟩ := bind_some h
  refine R_cV1 [.int x1, .int x2] DX8_spots_3 kzvX8_hasShopHour ml_RX8_119 ⟨Nat.le_of_ble_eq_true rfl, Nat.le_of_ble_eq_true rfl⟩ rfl (Nat.le_of_ble_eq_true rfl) (kX8_hasShopHour er1) ?_
  by_cases c2 : r1.1 = 0
  · replace h := if_t h c2
    refine R_if_ne_f DX8_spots_6 c2 ?_
    refine R_constI DX8_spots_9 ci_m2 ?_
    cases h
    exact R_ireturn rfl DX8_spots_11
  · replace h := if_f h c2
    refine R_if_ne_t DX8_spots_6 c2 ?_
    refine R_aload DX8_spots_12 0 rfl ?_
    refine R_iload DX8_spots_13 1 rfl ?_
    obtain ⟨r3, er3, h⟩ := bind_some h
    refine R_cV1 [.int x1] DX8_spots_14 kzvX8_reachOf ml_RX8_191 ⟨Nat.le_of_ble_eq_true rfl, Nat.le_of_ble_eq_true rfl⟩ rfl (Nat.le_of_ble_eq_true rfl) (kX8_reachOf er3) ?_
    refine R_astore [(3, .ref r3.1), (0, .ref x0), (1, .int x1), (2, .int x2)] DX8_spots_17 (by decide) rfl ?_
    refine R_constI DX8_spots_18 ci_0 ?_
    refine R_istore [(4, .int (iI 0)), (3, .ref r3.1), (0, .ref x0), (1, .int x1), (2, .int x2)] DX8_spots_19 (by decide) rfl ?_
    refine R_constI DX8_spots_21 ci_0 ?_
    refine R_istore [(5, .int (iI 0)), (4, .int (iI 0)), (3, .ref r3.1), (0, .ref x0), (1, .int x1), (2, .int x2)] DX8_spots_22 (by decide) rfl ?_
    refine R.sub (L' := [(0, .ref x0), (2, .int x2), (3, .ref r3.1), (4, .int (iI 0)), (5, .int (iI 0))]) [3, 5, 2, 1, 0] rfl ?_
    obtain ⟨r10, hi, h⟩ := bind_some h
    have hE : (fun u24 : Int32 × Hp => R G MX8_spots 57 [(4, .int u24.1)] [] u24.2 (some (.int w.1), w.2)) r10 → ∀ (q4 : Int32) (q5 : Int32) (qs : Hp), iter (fX8_spots_l24 x0 x2 r3.1) FU (q4, q5, qs) = some r10 → R G MX8_spots 24 [(0, .ref x0), (2, .int x2), (3, .ref r3.1), (4, .int q4), (5, .int q5)] [] qs (some (.int w.1), w.2) := fun hX q4 q5 qs hj => loop_R (fX8_spots_l24 x0 x2 r3.1) (fun p24 : Int32 × Int32 × Hp => R G MX8_spots 24 [(0, .ref x0), (2, .int x2), (3, .ref r3.1), (4, .int p24.1), (5, .int p24.2.1)] [] p24.2.2 (some (.int w.1), w.2)) (fun u24 : Int32 × Hp => R G MX8_spots 57 [(4, .int u24.1)] [] u24.2 (some (.int w.1), w.2)) (fun a w hw hc he => tX8_spots_l24 hw (fun q4 q5 qs e => hc (q4, q5, qs) e) (fun q4 qs e => he (q4, qs) e)) FU (q4, q5, qs) r10 hj hX
    refine hE ?_ _ _ _ hi
    clear hE hi
    refine R_iload DX8_spots_57 0 rfl ?_
    cases h
    exact R_ireturn rfl DX8_spots_59
set_option maxRecDepth 8000 in
theorem tX8_columns_l24 {G : Gm} {x0 : Nat} {x2 : Int32} {x3 : Nat} {o : Option Value × Hp} {a : Int64 × Int32 × Hp} {w : (Int64 × Int32 × Hp) ⊕ ((Int64 × Hp))} (h : fX8_columns_l24 x0 x2 x3 a = some w) (hc : ∀ (q4 : Int64) (q6 : Int32) (qs : Hp), w = .inl (q4, q6, qs) → R G MX8_columns 24 [(0, .ref x0), (2, .int x2), (3, .ref x3), (4, .long q4), (6, .int q6)] [] qs o) (he0 : ∀ (q4 : Int64) (qs : Hp), w = .inr (q4, qs) → R G MX8_columns 54 [(4, .long q4)] [] qs o) : R G MX8_columns 24 [(0, .ref x0), (2, .int x2), (3, .ref x3), (4, .long a.1), (6, .int a.2.1)] [] a.2.2 o := by
  unfold fX8_columns_l24 at h
  refine R_iload DX8_columns_24 4 rfl ?_
  refine R_aload DX8_columns_26 0 rfl ?_
  obtain ⟨v4, ev4, h⟩ := bind_some h
  refine R_gR DX8_columns_27 fl_RX8_47 ev4 ?_
  obtain ⟨v5, ev5, h⟩ := bind_some h
  refine R_gI DX8_columns_30 fl_RX8_218 ev5 ?_
  by_cases c6 : v5 ≤ a.2.1
  · replace h := if_t h c6
    refine R_icmp_ge_t DX8_columns_33 c6 ?_
    refine R.sub (L' := [(4, .long a.1)]) [3] rfl ?_
    cases h
    exact he0 _ _ rfl
  · replace h := if_f h c6
    refine R_icmp_ge_f DX8_columns_33 c6 ?_
    refine R_lload DX8_columns_36 3 rfl ?_
    refine R_aload DX8_columns_38 2 rfl ?_
    refine R_iload DX8_columns_39 1 rfl ?_
    refine R_iload DX8_columns_40 4 rfl ?_
    obtain ⟨r7, er7, h⟩ := bind_some h
    refine R_cV1 [.int x2, .int a.2.1] DX8_columns_42 kzvX2_columnsAt ml_RX8_221 ⟨Nat.le_of_ble_eq_true rfl, Nat.le_of_ble_eq_true rfl⟩ rfl (Nat.le_of_ble_eq_true rfl) (kX2_columnsAt er7) ?_
    refine R_lor DX8_columns_45 ?_
    obtain ⟨z8, ez8, h⟩ := lt_some h
    refine R_lstoreE ez8 [(4, .long z8), (0, .ref x0), (2, .int x2), (3, .ref x3), (6, .int a.2.1)] DX8_columns_46 (by decide) rfl ?_
    refine R_iinc [(6, .int (a.2.1 + iI 1)), (4, .long z8), (0, .ref x0), (2, .int x2), (3, .ref x3)] DX8_columns_48 4 rfl (v := a.2.1 + iI 1) (by rfl) (by decide) rfl ?_
    refine R_goto DX8_columns_51 ?_
    refine R.sub (L' := [(0, .ref x0), (2, .int x2), (3, .ref x3), (4, .long z8), (6, .int (a.2.1 + iI 1))]) [2, 3, 4, 1, 0] rfl ?_
    cases h
    exact hc _ _ _ rfl
set_option maxRecDepth 8000 in
theorem kX8_columns {G : Gm} {x0 : Nat} {x1 : Int32} {x2 : Int32} {s : Hp} {w : Int32 × Hp} (h : fX8_columns x0 x1 x2 s = some w) : (s.2.2 x0).1 = 8 ∧ Call G MX8_columns [.ref x0, .int x1, .int x2] s (some (.int w.1), w.2) := by
  unfold fX8_columns at h
  obtain ⟨_, e0, h⟩ := bind_some h
  refine ⟨ck_some e0, Call.of_R pnRX8 (Nat.le_of_ble_eq_true rfl) ?_⟩
  clear e0
  show R G MX8_columns 0 [(0, .ref x0), (1, .int x1), (2, .int x2)] [] s (some (.int w.1), w.2)
  refine R_aload DX8_columns_0 0 rfl ?_
  refine R_iload DX8_columns_1 1 rfl ?_
  refine R_iload DX8_columns_2 2 rfl ?_
  obtain ⟨r1, er1, h⟩ := bind_some h
  refine R_cV1 [.int x1, .int x2] DX8_columns_3 kzvX8_hasShopHour ml_RX8_119 ⟨Nat.le_of_ble_eq_true rfl, Nat.le_of_ble_eq_true rfl⟩ rfl (Nat.le_of_ble_eq_true rfl) (kX8_hasShopHour er1) ?_
  by_cases c2 : r1.1 = 0
  · replace h := if_t h c2
    refine R_if_ne_f DX8_columns_6 c2 ?_
    refine R_constI DX8_columns_9 ci_m2 ?_
    cases h
    exact R_ireturn rfl DX8_columns_11
  · replace h := if_f h c2
    refine R_if_ne_t DX8_columns_6 c2 ?_
    refine R_aload DX8_columns_12 0 rfl ?_
    refine R_iload DX8_columns_13 1 rfl ?_
    obtain ⟨r3, er3, h⟩ := bind_some h
    refine R_cV1 [.int x1] DX8_columns_14 kzvX8_reachOf ml_RX8_191 ⟨Nat.le_of_ble_eq_true rfl, Nat.le_of_ble_eq_true rfl⟩ rfl (Nat.le_of_ble_eq_true rfl) (kX8_reachOf er3) ?_
    refine R_astore [(3, .ref r3.1), (0, .ref x0), (1, .int x1), (2, .int x2)] DX8_columns_17 (by decide) rfl ?_
    refine R_lconst DX8_columns_18 ?_
    refine R_lstore [(4, .long 0), (3, .ref r3.1), (0, .ref x0), (1, .int x1), (2, .int x2)] DX8_columns_19 (by decide) rfl ?_
    refine R_constI DX8_columns_21 ci_0 ?_
    refine R_istore [(6, .int (iI 0)), (4, .long 0), (3, .ref r3.1), (0, .ref x0), (1, .int x1), (2, .int x2)] DX8_columns_22 (by decide) rfl ?_
    refine R.sub (L' := [(0, .ref x0), (2, .int x2), (3, .ref r3.1), (4, .long 0), (6, .int (iI 0))]) [3, 5, 2, 1, 0] rfl ?_
    obtain ⟨r9, hi, h⟩ := bind_some h
    have hE : (fun u24 : Int64 × Hp => R G MX8_columns 54 [(4, .long u24.1)] [] u24.2 (some (.int w.1), w.2)) r9 → ∀ (q4 : Int64) (q6 : Int32) (qs : Hp), iter (fX8_columns_l24 x0 x2 r3.1) FU (q4, q6, qs) = some r9 → R G MX8_columns 24 [(0, .ref x0), (2, .int x2), (3, .ref r3.1), (4, .long q4), (6, .int q6)] [] qs (some (.int w.1), w.2) := fun hX q4 q6 qs hj => loop_R (fX8_columns_l24 x0 x2 r3.1) (fun p24 : Int64 × Int32 × Hp => R G MX8_columns 24 [(0, .ref x0), (2, .int x2), (3, .ref r3.1), (4, .long p24.1), (6, .int p24.2.1)] [] p24.2.2 (some (.int w.1), w.2)) (fun u24 : Int64 × Hp => R G MX8_columns 54 [(4, .long u24.1)] [] u24.2 (some (.int w.1), w.2)) (fun a w hw hc he => tX8_columns_l24 hw (fun q4 q6 qs e => hc (q4, q6, qs) e) (fun q4 qs e => he (q4, qs) e)) FU (q4, q6, qs) r9 hj hX
    refine hE ?_ _ _ _ hi
    clear hE hi
    refine R_lload DX8_columns_54 0 rfl ?_
    obtain ⟨r10, er10, h⟩ := bind_some h
    refine R_cS1 [.long r9.1] DX8_columns_56 kzsJ13_bitCount_95d88 ml_RX8_225 ⟨Nat.le_of_ble_eq_true rfl, Nat.le_of_ble_eq_true rfl⟩ rfl (Nat.le_of_ble_eq_true rfl) (kJ13_bitCount_95d88 er10) ?_
    cases h
    exact R_ireturn rfl DX8_columns_59
set_option maxRecDepth 8000 in
theorem kX8_ways {G : Gm} {x0 : Nat} {x1 : Int32} {x2 : Int32} {s : Hp} {w : Int64 × Hp} (h : fX8_ways x0 x1 x2 s = some w) : (s.2.2 x0).1 = 8 ∧ Call G MX8_ways [.ref x0, .int x1, .int x2] s (some (.long w.1), w.2) := by
  unfold fX8_ways at h
  obtain ⟨_, e0, h⟩ := bind_some h
  refine ⟨ck_some e0, Call.of_R pnRX8 (Nat.le_of_ble_eq_true rfl) ?_⟩
  clear e0
  show R G MX8_ways 0 [(0, .ref x0), (1, .int x1), (2, .int x2)] [] s (some (.long w.1), w.2)
  refine R_aload DX8_ways_0 0 rfl ?_
  refine R_iload DX8_ways_1 1 rfl ?_
  refine R_iload DX8_ways_2 2 rfl ?_
  obtain ⟨r1, er1, h⟩ := bind_some h
  refine R_cV1 [.int x1, .int x2] DX8_ways_3 kzvX8_hasShopHour ml_RX8_119 ⟨Nat.le_of_ble_eq_true rfl, Nat.le_of_ble_eq_true rfl⟩ rfl (Nat.le_of_ble_eq_true rfl) (kX8_hasShopHour er1) ?_
  by_cases c2 : r1.1 = 0
  · replace h := if_t h c2
    refine R_if_eq_t DX8_ways_6 c2 ?_
    refine R_ldc2 DX8_ways_27 cw_RX8_235 ?_
    cases h
    exact R_lreturn rfl DX8_ways_30
  · replace h := if_f h c2
    refine R_if_eq_f DX8_ways_6 c2 ?_
    refine R_aload DX8_ways_9 0 rfl ?_
    obtain ⟨r3, er3, h⟩ := bind_some h
    refine R_cV1 [] DX8_ways_10 kzvX8_roaming ml_RX8_208 ⟨Nat.le_of_ble_eq_true rfl, Nat.le_of_ble_eq_true rfl⟩ rfl (Nat.le_of_ble_eq_true rfl) (kX8_roaming er3) ?_
    refine R_aload DX8_ways_13 0 rfl ?_
    obtain ⟨v4, ev4, h⟩ := bind_some h
    refine R_gR DX8_ways_14 fl_RX8_47 ev4 ?_
    refine R_iload DX8_ways_17 1 rfl ?_
    refine R_iload DX8_ways_18 2 rfl ?_
    refine R_constI DX8_ways_19 ci_1 ?_
    refine R_iadd DX8_ways_20 ?_
    obtain ⟨r5, er5, h⟩ := bind_some h
    refine R_cV1 [.ref v4, .int x1, .int (x2 + (iI 1))] DX8_ways_21 kzvX4_rowsOfActs ml_RX8_231 ⟨Nat.le_of_ble_eq_true rfl, Nat.le_of_ble_eq_true rfl⟩ rfl (Nat.le_of_ble_eq_true rfl) (kX4_rowsOfActs er5) ?_
    refine R_goto DX8_ways_24 ?_
    cases h
    exact R_lreturn rfl DX8_ways_30
set_option maxRecDepth 8000 in
theorem tX8_hasShopDoors_b26 {G : Gm} {s : Hp} {w : Int32 × Hp} (h : fX8_hasShopDoors_b26 s = some w) : R G MX8_hasShopDoors 26 [] [] s (some (.int w.1), w.2) := by
  unfold fX8_hasShopDoors_b26 at h
  refine R_constI DX8_hasShopDoors_26 ci_0 ?_
  cases h
  exact R_zreturn rfl DX8_hasShopDoors_27 (by decide)
set_option maxRecDepth 8000 in
theorem kX8_hasShopDoors {G : Gm} {x0 : Nat} {x1 : Int32} {x2 : Int32} {s : Hp} {w : Int32 × Hp} (h : fX8_hasShopDoors x0 x1 x2 s = some w) : (s.2.2 x0).1 = 8 ∧ Call G MX8_hasShopDoors [.ref x0, .int x1, .int x2] s (some (.int w.1), w.2) := by
  unfold fX8_hasShopDoors at h
  obtain ⟨_, e0, h⟩ := bind_some h
  refine ⟨ck_some e0, Call.of_R pnRX8 (Nat.le_of_ble_eq_true rfl) ?_⟩
  clear e0
  show R G MX8_hasShopDoors 0 [(0, .ref x0), (1, .int x1), (2, .int x2)] [] s (some (.int w.1), w.2)
  refine R_aload DX8_hasShopDoors_0 0 rfl ?_
  obtain ⟨v1, ev1, h⟩ := bind_some h
  refine R_gR DX8_hasShopDoors_1 fl_RX8_47 ev1 ?_
  refine R_iload DX8_hasShopDoors_4 1 rfl ?_
  obtain ⟨r2, er2, h⟩ := bind_some h
  refine R_cV1 [.int x1] DX8_hasShopDoors_5 kzvX6_hasShop ml_RX8_99 ⟨Nat.le_of_ble_eq_true rfl, Nat.le_of_ble_eq_true rfl⟩ rfl (Nat.le_of_ble_eq_true rfl) (kX6_hasShop er2) ?_
  by_cases c3 : r2.1 = 0
  · replace h := if_t h c3
    refine R_if_eq_t DX8_hasShopDoors_8 c3 ?_
    refine R.sub (L' := []) [] rfl ?_
    exact tX8_hasShopDoors_b26 h
  · replace h := if_f h c3
    refine R_if_eq_f DX8_hasShopDoors_8 c3 ?_
    refine R_aload DX8_hasShopDoors_11 0 rfl ?_
    obtain ⟨v4, ev4, h⟩ := bind_some h
    refine R_gR DX8_hasShopDoors_12 fl_RX8_47 ev4 ?_
    refine R_iload DX8_hasShopDoors_15 2 rfl ?_
    obtain ⟨r5, er5, h⟩ := bind_some h
    refine R_cV1 [.int x2] DX8_hasShopDoors_16 kzvX6_hasDoors ml_RX8_411 ⟨Nat.le_of_ble_eq_true rfl, Nat.le_of_ble_eq_true rfl⟩ rfl (Nat.le_of_ble_eq_true rfl) (kX6_hasDoors er5) ?_
    by_cases c6 : r5.1 = 0
    · replace h := if_t h c6
      refine R_if_eq_t DX8_hasShopDoors_19 c6 ?_
      refine R.sub (L' := []) [] rfl ?_
      exact tX8_hasShopDoors_b26 h
    · replace h := if_f h c6
      refine R_if_eq_f DX8_hasShopDoors_19 c6 ?_
      refine R_constI DX8_hasShopDoors_22 ci_1 ?_
      refine R_goto DX8_hasShopDoors_23 ?_
      cases h
      exact R_zreturn rfl DX8_hasShopDoors_27 (by decide)
set_option maxRecDepth 8000 in
theorem kX8_toursOf {G : Gm} {x0 : Nat} {x1 : Int32} {s : Hp} {w : Nat × Hp} (h : fX8_toursOf x0 x1 s = some w) : (s.2.2 x0).1 = 8 ∧ Call G MX8_toursOf [.ref x0, .int x1] s (some (.ref w.1), w.2) := by
  unfold fX8_toursOf at h
  obtain ⟨_, e0, h⟩ := bind_some h
  refine ⟨ck_some e0, Call.of_R pnRX8 (Nat.le_of_ble_eq_true rfl) ?_⟩
  clear e0
  show R G MX8_toursOf 0 [(0, .ref x0), (1, .int x1)] [] s (some (.ref w.1), w.2)
  refine R_aload DX8_toursOf_0 0 rfl ?_
  obtain ⟨r1, er1, h⟩ := bind_some h
  refine R_cV1 [] DX8_toursOf_1 kzvX8_roaming ml_RX8_208 ⟨Nat.le_of_ble_eq_true rfl, Nat.le_of_ble_eq_true rfl⟩ rfl (Nat.le_of_ble_eq_true rfl) (kX8_roaming er1) ?_
  refine R_aload DX8_toursOf_4 0 rfl ?_
  obtain ⟨v2, ev2, h⟩ := bind_some h
  refine R_gR DX8_toursOf_5 fl_RX8_47 ev2 ?_
  refine R_iload DX8_toursOf_8 1 rfl ?_
  refine R_aload DX8_toursOf_9 0 rfl ?_
  obtain ⟨v3, ev3, h⟩ := bind_some h
  refine R_gI DX8_toursOf_10 fl_RX8_54 ev3 ?_
  obtain ⟨r4, er4, h⟩ := bind_some h
  refine R_cV1 [.ref v2, .int x1, .int v3] DX8_toursOf_13 kzvX4_toursOf ml_RX8_409 ⟨Nat.le_of_ble_eq_true rfl, Nat.le_of_ble_eq_true rfl⟩ rfl (Nat.le_of_ble_eq_true rfl) (kX4_toursOf er4) ?_
  cases h
  exact R_areturn rfl DX8_toursOf_16
set_option maxRecDepth 8000 in
theorem kX8_tour {G : Gm} {x0 : Nat} {x1 : Int32} {x2 : Int32} {s : Hp} {w : Int32 × Hp} (h : fX8_tour x0 x1 x2 s = some w) : (s.2.2 x0).1 = 8 ∧ Call G MX8_tour [.ref x0, .int x1, .int x2] s (some (.int w.1), w.2) := by
  unfold fX8_tour at h
  obtain ⟨_, e0, h⟩ := bind_some h
  refine ⟨ck_some e0, Call.of_R pnRX8 (Nat.le_of_ble_eq_true rfl) ?_⟩
  clear e0
  show R G MX8_tour 0 [(0, .ref x0), (1, .int x1), (2, .int x2)] [] s (some (.int w.1), w.2)
  refine R_aload DX8_tour_0 0 rfl ?_
  refine R_iload DX8_tour_1 1 rfl ?_
  refine R_iload DX8_tour_2 2 rfl ?_
  obtain ⟨r1, er1, h⟩ := bind_some h
  refine R_cV1 [.int x1, .int x2] DX8_tour_3 kzvX8_hasShopDoors ml_RX8_237 ⟨Nat.le_of_ble_eq_true rfl, Nat.le_of_ble_eq_true rfl⟩ rfl (Nat.le_of_ble_eq_true rfl) (kX8_hasShopDoors er1) ?_
  by_cases c2 : r1.1 = 0
  · replace h := if_t h c2
    refine R_if_eq_t DX8_tour_6 c2 ?_
    refine R_constI DX8_tour_21 ci_m2 ?_
    cases h
    exact R_ireturn rfl DX8_tour_23
  · replace h := if_f h c2
    refine R_if_eq_f DX8_tour_6 c2 ?_
    refine R_aload DX8_tour_9 0 rfl ?_
    refine R_iload DX8_tour_10 1 rfl ?_
    obtain ⟨r3, er3, h⟩ := bind_some h
    refine R_cV1 [.int x1] DX8_tour_11 kzvX8_toursOf ml_RX8_240 ⟨Nat.le_of_ble_eq_true rfl, Nat.le_of_ble_eq_true rfl⟩ rfl (Nat.le_of_ble_eq_true rfl) (kX8_toursOf er3) ?_
    refine R_iload DX8_tour_14 2 rfl ?_
    obtain ⟨r4, er4, h⟩ := bind_some h
    refine R_cV1 [.int x2] DX8_tour_15 kzvX2_sandOfTour ml_RX8_243 ⟨Nat.le_of_ble_eq_true rfl, Nat.le_of_ble_eq_true rfl⟩ rfl (Nat.le_of_ble_eq_true rfl) (kX2_sandOfTour er4) ?_
    refine R_goto DX8_tour_18 ?_
    cases h
    exact R_ireturn rfl DX8_tour_23
set_option maxRecDepth 8000 in
theorem kX8_done {G : Gm} {x0 : Nat} {x1 : Int32} {x2 : Int32} {s : Hp} {w : Int32 × Hp} (h : fX8_done x0 x1 x2 s = some w) : (s.2.2 x0).1 = 8 ∧ Call G MX8_done [.ref x0, .int x1, .int x2] s (some (.int w.1), w.2) := by
  unfold fX8_done at h
  obtain ⟨_, e0, h⟩ := bind_some h
  refine ⟨ck_some e0, Call.of_R pnRX8 (Nat.le_of_ble_eq_true rfl) ?_⟩
  clear e0
  show R G MX8_done 0 [(0, .ref x0), (1, .int x1), (2, .int x2)] [] s (some (.int w.1), w.2)
  refine R_aload DX8_done_0 0 rfl ?_
  refine R_iload DX8_done_1 1 rfl ?_
  refine R_iload DX8_done_2 2 rfl ?_
  obtain ⟨r1, er1, h⟩ := bind_some h
  refine R_cV1 [.int x1, .int x2] DX8_done_3 kzvX8_hasShopDoors ml_RX8_237 ⟨Nat.le_of_ble_eq_true rfl, Nat.le_of_ble_eq_true rfl⟩ rfl (Nat.le_of_ble_eq_true rfl) (kX8_hasShopDoors er1) ?_
  by_cases c2 : r1.1 = 0
  · replace h := if_t h c2
    refine R_if_eq_t DX8_done_6 c2 ?_
    refine R_constI DX8_done_21 ci_m2 ?_
    cases h
    exact R_ireturn rfl DX8_done_23
  · replace h := if_f h c2
    refine R_if_eq_f DX8_done_6 c2 ?_
    refine R_aload DX8_done_9 0 rfl ?_
    refine R_iload DX8_done_10 1 rfl ?_
    obtain ⟨r3, er3, h⟩ := bind_some h
    refine R_cV1 [.int x1] DX8_done_11 kzvX8_toursOf ml_RX8_240 ⟨Nat.le_of_ble_eq_true rfl, Nat.le_of_ble_eq_true rfl⟩ rfl (Nat.le_of_ble_eq_true rfl) (kX8_toursOf er3) ?_
    refine R_iload DX8_done_14 2 rfl ?_
    obtain ⟨r4, er4, h⟩ := bind_some h
    refine R_cV1 [.int x2] DX8_done_15 kzvX2_hourOfTour ml_RX8_246 ⟨Nat.le_of_ble_eq_true rfl, Nat.le_of_ble_eq_true rfl⟩ rfl (Nat.le_of_ble_eq_true rfl) (kX2_hourOfTour er4) ?_
    refine R_goto DX8_done_18 ?_
    cases h
    exact R_ireturn rfl DX8_done_23
set_option maxRecDepth 8000 in
theorem tX8_isStock_b14 {G : Gm} {s : Hp} {w : Int32 × Hp} (h : fX8_isStock_b14 s = some w) : R G MX8_isStock 14 [] [] s (some (.int w.1), w.2) := by
  unfold fX8_isStock_b14 at h
  refine R_constI DX8_isStock_14 ci_0 ?_
  cases h
  exact R_zreturn rfl DX8_isStock_15 (by decide)
set_option maxRecDepth 8000 in
theorem kX8_isStock {G : Gm} {x0 : Int32} {s : Hp} {w : Int32 × Hp} (h : fX8_isStock x0 s = some w) : Call G MX8_isStock [.int x0] s (some (.int w.1), w.2) := by
  unfold fX8_isStock at h
  refine Call.of_R pnRX8 (Nat.le_of_ble_eq_true rfl) ?_
  show R G MX8_isStock 0 [(0, .int x0)] [] s (some (.int w.1), w.2)
  refine R_iload DX8_isStock_0 0 rfl ?_
  by_cases c1 : x0 < 0
  · replace h := if_t h c1
    refine R_if_lt_t DX8_isStock_1 c1 ?_
    refine R.sub (L' := []) [] rfl ?_
    exact tX8_isStock_b14 h
  · replace h := if_f h c1
    refine R_if_lt_f DX8_isStock_1 c1 ?_
    refine R_iload DX8_isStock_4 0 rfl ?_
    refine R_constI DX8_isStock_5 ci_9 ?_
    by_cases c2 : (iI 9) < x0
    · replace h := if_t h c2
      refine R_icmp_gt_t DX8_isStock_7 c2 ?_
      refine R.sub (L' := []) [] rfl ?_
      exact tX8_isStock_b14 h
    · replace h := if_f h c2
      refine R_icmp_gt_f DX8_isStock_7 c2 ?_
      refine R_constI DX8_isStock_10 ci_1 ?_
      refine R_goto DX8_isStock_11 ?_
      cases h
      exact R_zreturn rfl DX8_isStock_15 (by decide)
set_option maxRecDepth 8000 in
theorem kJ6_bitCount_0f7a4 {G : Gm} {x0 : Int32} {s : Hp} {w : Int32 × Hp} (h : fJ6_bitCount_0f7a4 x0 s = some w) : Call G MJ6_bitCount_0f7a4 [.int x0] s (some (.int w.1), w.2) := by
  unfold fJ6_bitCount_0f7a4 at h
  refine Call.of_R pnRJ6 (Nat.le_of_ble_eq_true rfl) ?_
  show R G MJ6_bitCount_0f7a4 0 [(0, .int x0)] [] s (some (.int w.1), w.2)
  refine R_iload DJ6_bitCount_0f7a4_0 0 rfl ?_
  refine R_iload DJ6_bitCount_0f7a4_1 0 rfl ?_
  refine R_constI DJ6_bitCount_0f7a4_2 ci_1 ?_
  refine R_iushr DJ6_bitCount_0f7a4_3 ?_
  refine R_ldcwI DJ6_bitCount_0f7a4_4 cw_RJ6_265 ci_1431655765 ?_
  refine R_iand DJ6_bitCount_0f7a4_7 ?_
  refine R_isub DJ6_bitCount_0f7a4_8 ?_
  obtain ⟨z1, ez1, h⟩ := lt_some h
  refine R_istoreE ez1 [(0, .int z1)] DJ6_bitCount_0f7a4_9 (by decide) rfl ?_
  refine R_iload DJ6_bitCount_0f7a4_10 0 rfl ?_
  refine R_ldcwI DJ6_bitCount_0f7a4_11 cw_RJ6_266 ci_858993459 ?_
  refine R_iand DJ6_bitCount_0f7a4_14 ?_
  refine R_iload DJ6_bitCount_0f7a4_15 0 rfl ?_
  refine R_constI DJ6_bitCount_0f7a4_16 ci_2 ?_
  refine R_iushr DJ6_bitCount_0f7a4_17 ?_
  refine R_ldcwI DJ6_bitCount_0f7a4_18 cw_RJ6_266 ci_858993459 ?_
  refine R_iand DJ6_bitCount_0f7a4_21 ?_
  refine R_iadd DJ6_bitCount_0f7a4_22 ?_
  obtain ⟨z2, ez2, h⟩ := lt_some h
  refine R_istoreE ez2 [(0, .int z2)] DJ6_bitCount_0f7a4_23 (by decide) rfl ?_
  refine R_iload DJ6_bitCount_0f7a4_24 0 rfl ?_
  refine R_iload DJ6_bitCount_0f7a4_25 0 rfl ?_
  refine R_constI DJ6_bitCount_0f7a4_26 ci_4 ?_
  refine R_iushr DJ6_bitCount_0f7a4_27 ?_
  refine R_iadd DJ6_bitCount_0f7a4_28 ?_
  refine R_ldcwI DJ6_bitCount_0f7a4_29 cw_RJ6_267 ci_252645135 ?_
  refine R_iand DJ6_bitCount_0f7a4_32 ?_
  obtain ⟨z3, ez3, h⟩ := lt_some h
  refine R_istoreE ez3 [(0, .int z3)] DJ6_bitCount_0f7a4_33 (by decide) rfl ?_
  refine R_iload DJ6_bitCount_0f7a4_34 0 rfl ?_
  refine R_iload DJ6_bitCount_0f7a4_35 0 rfl ?_
  refine R_constI DJ6_bitCount_0f7a4_36 ci_8 ?_
  refine R_iushr DJ6_bitCount_0f7a4_38 ?_
  refine R_iadd DJ6_bitCount_0f7a4_39 ?_
  obtain ⟨z4, ez4, h⟩ := lt_some h
  refine R_istoreE ez4 [(0, .int z4)] DJ6_bitCount_0f7a4_40 (by decide) rfl ?_
  refine R_iload DJ6_bitCount_0f7a4_41 0 rfl ?_
  refine R_iload DJ6_bitCount_0f7a4_42 0 rfl ?_
  refine R_constI DJ6_bitCount_0f7a4_43 ci_16 ?_
  refine R_iushr DJ6_bitCount_0f7a4_45 ?_
  refine R_iadd DJ6_bitCount_0f7a4_46 ?_
  obtain ⟨z5, ez5, h⟩ := lt_some h
  refine R_istoreE ez5 [(0, .int z5)] DJ6_bitCount_0f7a4_47 (by decide) rfl ?_
  refine R_iload DJ6_bitCount_0f7a4_48 0 rfl ?_
  refine R_constI DJ6_bitCount_0f7a4_49 ci_63 ?_
  refine R_iand DJ6_bitCount_0f7a4_51 ?_
  cases h
  exact R_ireturn rfl DJ6_bitCount_0f7a4_52
set_option maxRecDepth 8000 in
theorem tX8_doors_b27 {G : Gm} {s : Hp} {w : Int32 × Hp} (h : fX8_doors_b27 s = some w) : R G MX8_doors 27 [] [] s (some (.int w.1), w.2) := by
  unfold fX8_doors_b27 at h
  refine R_constI DX8_doors_27 ci_m2 ?_
  cases h
  exact R_ireturn rfl DX8_doors_29
set_option maxRecDepth 8000 in
theorem tX8_doors_b85 {G : Gm} {x0 : Nat} {x2 : Int32} {x3 : Int32} {x4 : Nat} {x5 : Int32} {x6 : Int32} {s : Hp} {o : Option Value × Hp} {w : (Int32 × Int32 × Hp) ⊕ ((Int32 × Hp))} (h : fX8_doors_b85 x0 x2 x3 x4 x5 x6 s = some w) (hc : ∀ (q5 : Int32) (q6 : Int32) (qs : Hp), w = .inl (q5, q6, qs) → R G MX8_doors 43 [(0, .ref x0), (2, .int x2), (3, .int x3), (4, .ref x4), (5, .int q5), (6, .int q6)] [] qs o) (he0 : ∀ (q5 : Int32) (qs : Hp), w = .inr (q5, qs) → R G MX8_doors 91 [(3, .int x3), (5, .int q5)] [] qs o) : R G MX8_doors 85 [(0, .ref x0), (2, .int x2), (3, .int x3), (4, .ref x4), (5, .int x5), (6, .int x6)] [] s o := by
  unfold fX8_doors_b85 at h
  refine R_iinc [(6, .int (x6 + iI 1)), (0, .ref x0), (2, .int x2), (3, .int x3), (4, .ref x4), (5, .int x5)] DX8_doors_85 5 rfl (v := x6 + iI 1) (by rfl) (by decide) rfl ?_
  refine R_goto DX8_doors_88 ?_
  refine R.sub (L' := [(0, .ref x0), (2, .int x2), (3, .int x3), (4, .ref x4), (5, .int x5), (6, .int (x6 + iI 1))]) [1, 2, 3, 4, 5, 0] rfl ?_
  cases h
  exact hc _ _ _ rfl
set_option maxRecDepth 8000 in
theorem tX8_doors_l43 {G : Gm} {x0 : Nat} {x2 : Int32} {x3 : Int32} {x4 : Nat} {o : Option Value × Hp} {a : Int32 × Int32 × Hp} {w : (Int32 × Int32 × Hp) ⊕ ((Int32 × Hp))} (h : fX8_doors_l43 x0 x2 x3 x4 a = some w) (hc : ∀ (q5 : Int32) (q6 : Int32) (qs : Hp), w = .inl (q5, q6, qs) → R G MX8_doors 43 [(0, .ref x0), (2, .int x2), (3, .int x3), (4, .ref x4), (5, .int q5), (6, .int q6)] [] qs o) (he0 : ∀ (q5 : Int32) (qs : Hp), w = .inr (q5, qs) → R G MX8_doors 91 [(3, .int x3), (5, .int q5)] [] qs o) : R G MX8_doors 43 [(0, .ref x0), (2, .int x2), (3, .int x3), (4, .ref x4), (5, .int a.1), (6, .int a.2.1)] [] a.2.2 o := by
  unfold fX8_doors_l43 at h
  refine R_iload DX8_doors_43 5 rfl ?_
  refine R_constI DX8_doors_45 ci_1 ?_
  refine R_aload DX8_doors_46 0 rfl ?_
  obtain ⟨v9, ev9, h⟩ := bind_some h
  refine R_gR DX8_doors_47 fl_RX8_47 ev9 ?_
  obtain ⟨v10, ev10, h⟩ := bind_some h
  refine R_gI DX8_doors_50 fl_RX8_252 ev10 ?_
  refine R_ishl DX8_doors_53 ?_
  by_cases c11 : (ish (iI 1) v10) ≤ a.2.1
  · replace h := if_t h c11
    refine R_icmp_ge_t DX8_doors_54 c11 ?_
    refine R.sub (L' := [(3, .int x3), (5, .int a.1)]) [2, 4] rfl ?_
    cases h
    exact he0 _ _ rfl
  · replace h := if_f h c11
    refine R_icmp_ge_f DX8_doors_54 c11 ?_
    refine R_aload DX8_doors_57 3 rfl ?_
    refine R_iload DX8_doors_59 5 rfl ?_
    refine R_iload DX8_doors_61 1 rfl ?_
    obtain ⟨r12, er12, h⟩ := bind_some h
    refine R_cV1 [.int a.2.1, .int x2] DX8_doors_62 kzvX2_canTour ml_RX8_255 ⟨Nat.le_of_ble_eq_true rfl, Nat.le_of_ble_eq_true rfl⟩ rfl (Nat.le_of_ble_eq_true rfl) (kX2_canTour er12) ?_
    by_cases c13 : r12.1 = 0
    · replace h := if_t h c13
      refine R_if_eq_t DX8_doors_65 c13 ?_
      exact tX8_doors_b85 h hc he0
    · replace h := if_f h c13
      refine R_if_eq_f DX8_doors_65 c13 ?_
      refine R_iload DX8_doors_68 5 rfl ?_
      obtain ⟨r14, er14, h⟩ := bind_some h
      refine R_cS1 [.int a.2.1] DX8_doors_70 kzsJ6_bitCount_0f7a4 ml_RX8_258 ⟨Nat.le_of_ble_eq_true rfl, Nat.le_of_ble_eq_true rfl⟩ rfl (Nat.le_of_ble_eq_true rfl) (kJ6_bitCount_0f7a4 er14) ?_
      refine R_iload DX8_doors_73 4 rfl ?_
      obtain ⟨r15, er15, h⟩ := bind_some h
      refine R_cS1 [.int a.1] DX8_doors_75 kzsJ6_bitCount_0f7a4 ml_RX8_258 ⟨Nat.le_of_ble_eq_true rfl, Nat.le_of_ble_eq_true rfl⟩ rfl (Nat.le_of_ble_eq_true rfl) (kJ6_bitCount_0f7a4 er15) ?_
      by_cases c16 : r14.1 ≤ r15.1
      · replace h := if_t h c16
        refine R_icmp_le_t DX8_doors_78 c16 ?_
        exact tX8_doors_b85 h hc he0
      · replace h := if_f h c16
        refine R_icmp_le_f DX8_doors_78 c16 ?_
        refine R_iload DX8_doors_81 5 rfl ?_
        refine R_istore [(5, .int a.2.1), (0, .ref x0), (2, .int x2), (3, .int x3), (4, .ref x4), (6, .int a.2.1)] DX8_doors_83 (by decide) rfl ?_
        refine R.sub (L' := [(0, .ref x0), (2, .int x2), (3, .int x3), (4, .ref x4), (5, .int a.2.1), (6, .int a.2.1)]) [1, 2, 3, 4, 0, 5] rfl ?_
        exact tX8_doors_b85 h hc he0
set_option maxRecDepth 8000 in
theorem kX8_doors {G : Gm} {x0 : Nat} {x1 : Int32} {x2 : Int32} {x3 : Int32} {s : Hp} {w : Int32 × Hp} (h : fX8_doors x0 x1 x2 x3 s = some w) : (s.2.2 x0).1 = 8 ∧ Call G MX8_doors [.ref x0, .int x1, .int x2, .int x3] s (some (.int w.1), w.2) := by
  unfold fX8_doors at h
  obtain ⟨_, e0, h⟩ := bind_some h
  refine ⟨ck_some e0, Call.of_R pnRX8 (Nat.le_of_ble_eq_true rfl) ?_⟩
  clear e0
  show R G MX8_doors 0 [(0, .ref x0), (1, .int x1), (2, .int x2), (3, .int x3)] [] s (some (.int w.1), w.2)
  refine R_aload DX8_doors_0 0 rfl ?_
  obtain ⟨v1, ev1, h⟩ := bind_some h
  refine R_gR DX8_doors_1 fl_RX8_47 ev1 ?_
  refine R_iload DX8_doors_4 1 rfl ?_
  obtain ⟨r2, er2, h⟩ := bind_some h
  refine R_cV1 [.int x1] DX8_doors_5 kzvX6_hasShop ml_RX8_99 ⟨Nat.le_of_ble_eq_true rfl, Nat.le_of_ble_eq_true rfl⟩ rfl (Nat.le_of_ble_eq_true rfl) (kX6_hasShop er2) ?_
  by_cases c3 : r2.1 = 0
  · replace h := if_t h c3
    refine R_if_eq_t DX8_doors_8 c3 ?_
    refine R.sub (L' := []) [] rfl ?_
    exact tX8_doors_b27 h
  · replace h := if_f h c3
    refine R_if_eq_f DX8_doors_8 c3 ?_
    refine R_iload DX8_doors_11 2 rfl ?_
    obtain ⟨r4, er4, h⟩ := bind_some h
    refine R_cS1 [.int x2] DX8_doors_12 kzsX8_isStock ml_RX8_249 ⟨Nat.le_of_ble_eq_true rfl, Nat.le_of_ble_eq_true rfl⟩ rfl (Nat.le_of_ble_eq_true rfl) (kX8_isStock er4) ?_
    by_cases c5 : r4.1 = 0
    · replace h := if_t h c5
      refine R_if_eq_t DX8_doors_15 c5 ?_
      refine R.sub (L' := []) [] rfl ?_
      exact tX8_doors_b27 h
    · replace h := if_f h c5
      refine R_if_eq_f DX8_doors_15 c5 ?_
      refine R_iload DX8_doors_18 3 rfl ?_
      by_cases c6 : x3 < 0
      · replace h := if_t h c6
        refine R_if_lt_t DX8_doors_19 c6 ?_
        refine R.sub (L' := []) [] rfl ?_
        exact tX8_doors_b27 h
      · replace h := if_f h c6
        refine R_if_lt_f DX8_doors_19 c6 ?_
        refine R_iload DX8_doors_22 3 rfl ?_
        refine R_constI DX8_doors_23 ci_1 ?_
        by_cases c7 : x3 ≤ (iI 1)
        · replace h := if_t h c7
          refine R_icmp_le_t DX8_doors_24 c7 ?_
          refine R_aload DX8_doors_30 0 rfl ?_
          refine R_iload DX8_doors_31 1 rfl ?_
          obtain ⟨r8, er8, h⟩ := bind_some h
          refine R_cV1 [.int x1] DX8_doors_32 kzvX8_toursOf ml_RX8_240 ⟨Nat.le_of_ble_eq_true rfl, Nat.le_of_ble_eq_true rfl⟩ rfl (Nat.le_of_ble_eq_true rfl) (kX8_toursOf er8) ?_
          refine R_astore [(4, .ref r8.1), (0, .ref x0), (1, .int x1), (2, .int x2), (3, .int x3)] DX8_doors_35 (by decide) rfl ?_
          refine R_constI DX8_doors_37 ci_0 ?_
          refine R_istore [(5, .int (iI 0)), (4, .ref r8.1), (0, .ref x0), (1, .int x1), (2, .int x2), (3, .int x3)] DX8_doors_38 (by decide) rfl ?_
          refine R_constI DX8_doors_40 ci_0 ?_
          refine R_istore [(6, .int (iI 0)), (5, .int (iI 0)), (4, .ref r8.1), (0, .ref x0), (1, .int x1), (2, .int x2), (3, .int x3)] DX8_doors_41 (by decide) rfl ?_
          refine R.sub (L' := [(0, .ref x0), (2, .int x2), (3, .int x3), (4, .ref r8.1), (5, .int (iI 0)), (6, .int (iI 0))]) [3, 5, 6, 2, 1, 0] rfl ?_
          obtain ⟨r17, hi, h⟩ := bind_some h
          have hE : (fun u43 : Int32 × Hp => R G MX8_doors 91 [(3, .int x3), (5, .int u43.1)] [] u43.2 (some (.int w.1), w.2)) r17 → ∀ (q5 : Int32) (q6 : Int32) (qs : Hp), iter (fX8_doors_l43 x0 x2 x3 r8.1) FU (q5, q6, qs) = some r17 → R G MX8_doors 43 [(0, .ref x0), (2, .int x2), (3, .int x3), (4, .ref r8.1), (5, .int q5), (6, .int q6)] [] qs (some (.int w.1), w.2) := fun hX q5 q6 qs hj => loop_R (fX8_doors_l43 x0 x2 x3 r8.1) (fun p43 : Int32 × Int32 × Hp => R G MX8_doors 43 [(0, .ref x0), (2, .int x2), (3, .int x3), (4, .ref r8.1), (5, .int p43.1), (6, .int p43.2.1)] [] p43.2.2 (some (.int w.1), w.2)) (fun u43 : Int32 × Hp => R G MX8_doors 91 [(3, .int x3), (5, .int u43.1)] [] u43.2 (some (.int w.1), w.2)) (fun a w hw hc he => tX8_doors_l43 hw (fun q5 q6 qs e => hc (q5, q6, qs) e) (fun q5 qs e => he (q5, qs) e)) FU (q5, q6, qs) r17 hj hX
          refine hE ?_ _ _ _ hi
          clear hE hi
          refine R_iload DX8_doors_91 0 rfl ?_
          by_cases c18 : x3 = 0
          · replace h := if_t h c18
            refine R_if_ne_f DX8_doors_92 c18 ?_
            refine R_iload DX8_doors_95 1 rfl ?_
            obtain ⟨r19, er19, h⟩ := bind_some h
            refine R_cS1 [.int r17.1] DX8_doors_97 kzsJ6_bitCount_0f7a4 ml_RX8_258 ⟨Nat.le_of_ble_eq_true rfl, Nat.le_of_ble_eq_true rfl⟩ rfl (Nat.le_of_ble_eq_true rfl) (kJ6_bitCount_0f7a4 er19) ?_
            refine R_goto DX8_doors_100 ?_
            cases h
            exact R_ireturn rfl DX8_doors_105
          · replace h := if_f h c18
            refine R_if_ne_t DX8_doors_92 c18 ?_
            refine R_iload DX8_doors_103 1 rfl ?_
            cases h
            exact R_ireturn rfl DX8_doors_105
        · replace h := if_f h c7
          refine R_icmp_le_f DX8_doors_24 c7 ?_
          refine R.sub (L' := []) [] rfl ?_
          exact tX8_doors_b27 h
set_option maxRecDepth 8000 in
theorem kX8_fair {G : Gm} {x0 : Nat} {x1 : Int32} {s : Hp} {w : Int32 × Hp} (h : fX8_fair x0 x1 s = some w) : (s.2.2 x0).1 = 8 ∧ Call G MX8_fair [.ref x0, .int x1] s (some (.int w.1), w.2) := by
  unfold fX8_fair at h
  obtain ⟨_, e0, h⟩ := bind_some h
  refine ⟨ck_some e0, Call.of_R pnRX8 (Nat.le_of_ble_eq_true rfl) ?_⟩
  clear e0
  show R G MX8_fair 0 [(0, .ref x0), (1, .int x1)] [] s (some (.int w.1), w.2)
  refine R_aload DX8_fair_0 0 rfl ?_
  obtain ⟨v1, ev1, h⟩ := bind_some h
  refine R_gR DX8_fair_1 fl_RX8_47 ev1 ?_
  refine R_iload DX8_fair_4 1 rfl ?_
  obtain ⟨r2, er2, h⟩ := bind_some h
  refine R_cV1 [.int x1] DX8_fair_5 kzvX6_hasShop ml_RX8_99 ⟨Nat.le_of_ble_eq_true rfl, Nat.le_of_ble_eq_true rfl⟩ rfl (Nat.le_of_ble_eq_true rfl) (kX6_hasShop er2) ?_
  by_cases c3 : r2.1 = 0
  · replace h := if_t h c3
    refine R_if_ne_f DX8_fair_8 c3 ?_
    refine R_constI DX8_fair_11 ci_m2 ?_
    cases h
    exact R_ireturn rfl DX8_fair_13
  · replace h := if_f h c3
    refine R_if_ne_t DX8_fair_8 c3 ?_
    refine R_aload DX8_fair_14 0 rfl ?_
    obtain ⟨v4, ev4, h⟩ := bind_some h
    refine R_gR DX8_fair_15 fl_RX8_47 ev4 ?_
    obtain ⟨v5, ev5, h⟩ := bind_some h
    refine R_gI DX8_fair_18 fl_RX8_262 ev5 ?_
    refine R_constI DX8_fair_21 ci_m1 ?_
    by_cases c6 : v5 = (iI (-1))
    · replace h := if_t h c6
      refine R_icmp_ne_f DX8_fair_22 c6 ?_
      refine R_constI DX8_fair_25 ci_m1 ?_
      refine R_goto DX8_fair_26 ?_
      cases h
      exact R_ireturn rfl DX8_fair_41
    · replace h := if_f h c6
      refine R_icmp_ne_t DX8_fair_22 c6 ?_
      refine R_aload DX8_fair_29 0 rfl ?_
      obtain ⟨r7, er7, h⟩ := bind_some h
      refine R_cV1 [] DX8_fair_30 kzvX8_roaming ml_RX8_208 ⟨Nat.le_of_ble_eq_true rfl, Nat.le_of_ble_eq_true rfl⟩ rfl (Nat.le_of_ble_eq_true rfl) (kX8_roaming er7) ?_
      refine R_aload DX8_fair_33 0 rfl ?_
      obtain ⟨v8, ev8, h⟩ := bind_some h
      refine R_gR DX8_fair_34 fl_RX8_47 ev8 ?_
      refine R_iload DX8_fair_37 1 rfl ?_
      obtain ⟨r9, er9, h⟩ := bind_some h
      refine R_cV1 [.ref v8, .int x1] DX8_fair_38 kzvX4_hoursAtFair ml_RX8_265 ⟨Nat.le_of_ble_eq_true rfl, Nat.le_of_ble_eq_true rfl⟩ rfl (Nat.le_of_ble_eq_true rfl) (kX4_hoursAtFair er9) ?_
      cases h
      exact R_ireturn rfl DX8_fair_41
set_option maxRecDepth 8000 in
theorem kX8_aloft {G : Gm} {x0 : Nat} {x1 : Int32} {s : Hp} {w : Int32 × Hp} (h : fX8_aloft x0 x1 s = some w) : (s.2.2 x0).1 = 8 ∧ Call G MX8_aloft [.ref x0, .int x1] s (some (.int w.1), w.2) := by
  unfold fX8_aloft at h
  obtain ⟨_, e0, h⟩ := bind_some h
  refine ⟨ck_some e0, Call.of_R pnRX8 (Nat.le_of_ble_eq_true rfl) ?_⟩
  clear e0
  show R G MX8_aloft 0 [(0, .ref x0), (1, .int x1)] [] s (some (.int w.1), w.2)
  refine R_aload DX8_aloft_0 0 rfl ?_
  obtain ⟨v1, ev1, h⟩ := bind_some h
  refine R_gR DX8_aloft_1 fl_RX8_47 ev1 ?_
  refine R_iload DX8_aloft_4 1 rfl ?_
  obtain ⟨r2, er2, h⟩ := bind_some h
  refine R_cV1 [.int x1] DX8_aloft_5 kzvX6_hasShop ml_RX8_99 ⟨Nat.le_of_ble_eq_true rfl, Nat.le_of_ble_eq_true rfl⟩ rfl (Nat.le_of_ble_eq_true rfl) (kX6_hasShop er2) ?_
  by_cases c3 : r2.1 = 0
  · replace h := if_t h c3
    refine R_if_eq_t DX8_aloft_8 c3 ?_
    refine R_constI DX8_aloft_26 ci_m2 ?_
    cases h
    exact R_ireturn rfl DX8_aloft_28
  · replace h := if_f h c3
    refine R_if_eq_f DX8_aloft_8 c3 ?_
    refine R_aload DX8_aloft_11 0 rfl ?_
    obtain ⟨r4, er4, h⟩ := bind_some h
    refine R_cV1 [] DX8_aloft_12 kzvX8_roaming ml_RX8_208 ⟨Nat.le_of_ble_eq_true rfl, Nat.le_of_ble_eq_true rfl⟩ rfl (Nat.le_of_ble_eq_true rfl) (kX8_roaming er4) ?_
    refine R_aload DX8_aloft_15 0 rfl ?_
    obtain ⟨v5, ev5, h⟩ := bind_some h
    refine R_gR DX8_aloft_16 fl_RX8_47 ev5 ?_
    refine R_iload DX8_aloft_19 1 rfl ?_
    obtain ⟨r6, er6, h⟩ := bind_some h
    refine R_cV1 [.ref v5, .int x1] DX8_aloft_20 kzvX4_hoursAloft ml_RX8_269 ⟨Nat.le_of_ble_eq_true rfl, Nat.le_of_ble_eq_true rfl⟩ rfl (Nat.le_of_ble_eq_true rfl) (kX4_hoursAloft er6) ?_
    refine R_goto DX8_aloft_23 ?_
    cases h
    exact R_ireturn rfl DX8_aloft_28
set_option maxRecDepth 8000 in
theorem tX8_lasts_b68 {G : Gm} {x0 : Nat} {x2 : Nat} {x3 : Int32} {x4 : Int32} {x5 : Int32} {s : Hp} {o : Option Value × Hp} {w : (Int32 × Int32 × Hp) ⊕ ((Int32 × Hp))} (h : fX8_lasts_b68 x0 x2 x3 x4 x5 s = some w) (hc : ∀ (q3 : Int32) (q5 : Int32) (qs : Hp), w = .inl (q3, q5, qs) → R G MX8_lasts 40 [(0, .ref x0), (2, .ref x2), (3, .int q3), (4, .int x4), (5, .int q5)] [] qs o) (he0 : ∀ (q3 : Int32) (qs : Hp), w = .inr (q3, qs) → R G MX8_lasts 74 [(0, .ref x0), (2, .ref x2), (3, .int q3), (4, .int x4)] [] qs o) : R G MX8_lasts 68 [(0, .ref x0), (2, .ref x2), (3, .int x3), (4, .int x4), (5, .int x5)] [] s o := by
  unfold fX8_lasts_b68 at h
  refine R_iinc [(5, .int (x5 + iI 1)), (0, .ref x0), (2, .ref x2), (3, .int x3), (4, .int x4)] DX8_lasts_68 4 rfl (v := x5 + iI 1) (by rfl) (by decide) rfl ?_
  refine R_goto DX8_lasts_71 ?_
  refine R.sub (L' := [(0, .ref x0), (2, .ref x2), (3, .int x3), (4, .int x4), (5, .int (x5 + iI 1))]) [1, 2, 3, 4, 0] rfl ?_
  cases h
  exact hc _ _ _ rfl
set_option maxRecDepth 8000 in
theorem tX8_lasts_l40 {G : Gm} {x0 : Nat} {x2 : Nat} {x4 : Int32} {o : Option Value × Hp} {a : Int32 × Int32 × Hp} {w : (Int32 × Int32 × Hp) ⊕ ((Int32 × Hp))} (h : fX8_lasts_l40 x0 x2 x4 a = some w) (hc : ∀ (q3 : Int32) (q5 : Int32) (qs : Hp), w = .inl (q3, q5, qs) → R G MX8_lasts 40 [(0, .ref x0), (2, .ref x2), (3, .int q3), (4, .int x4), (5, .int q5)] [] qs o) (he0 : ∀ (q3 : Int32) (qs : Hp), w = .inr (q3, qs) → R G MX8_lasts 74 [(0, .ref x0), (2, .ref x2), (3, .int q3), (4, .int x4)] [] qs o) : R G MX8_lasts 40 [(0, .ref x0), (2, .ref x2), (3, .int a.1), (4, .int x4), (5, .int a.2.1)] [] a.2.2 o := by
  unfold fX8_lasts_l40 at h
  refine R_iload DX8_lasts_40 4 rfl ?_
  refine R_aload DX8_lasts_42 0 rfl ?_
  obtain ⟨v8, ev8, h⟩ := bind_some h
  refine R_gR DX8_lasts_43 fl_RX8_47 ev8 ?_
  obtain ⟨v9, ev9, h⟩ := bind_some h
  refine R_gI DX8_lasts_46 fl_RX8_218 ev9 ?_
  by_cases c10 : v9 ≤ a.2.1
  · replace h := if_t h c10
    refine R_icmp_ge_t DX8_lasts_49 c10 ?_
    refine R.sub (L' := [(0, .ref x0), (2, .ref x2), (3, .int a.1), (4, .int x4)]) [0, 1, 2, 3] rfl ?_
    cases h
    exact he0 _ _ rfl
  · replace h := if_f h c10
    refine R_icmp_ge_f DX8_lasts_49 c10 ?_
    refine R_aload DX8_lasts_52 1 rfl ?_
    refine R_iload DX8_lasts_53 3 rfl ?_
    refine R_iload DX8_lasts_55 4 rfl ?_
    obtain ⟨r11, er11, h⟩ := bind_some h
    refine R_cV1 [.int x4, .int a.2.1] DX8_lasts_57 kzvX2_columnsAt ml_RX8_221 ⟨Nat.le_of_ble_eq_true rfl, Nat.le_of_ble_eq_true rfl⟩ rfl (Nat.le_of_ble_eq_true rfl) (kX2_columnsAt er11) ?_
    refine R_lconst DX8_lasts_60 ?_
    refine R_lcmp DX8_lasts_61 ?_
    by_cases c12 : (lg_cmp r11.1 0) = 0
    · replace h := if_t h c12
      refine R_if_eq_t DX8_lasts_62 c12 ?_
      exact tX8_lasts_b68 h hc he0
    · replace h := if_f h c12
      refine R_if_eq_f DX8_lasts_62 c12 ?_
      refine R_iload DX8_lasts_65 3 rfl ?_
      refine R_istore [(3, .int x4), (0, .ref x0), (2, .ref x2), (4, .int x4), (5, .int a.2.1)] DX8_lasts_67 (by decide) rfl ?_
      refine R.sub (L' := [(0, .ref x0), (2, .ref x2), (3, .int x4), (4, .int x4), (5, .int a.2.1)]) [1, 2, 0, 3, 4] rfl ?_
      exact tX8_lasts_b68 h hc he0
set_option maxRecDepth 8000 in
theorem tX8_lasts_l25 {G : Gm} {x0 : Nat} {x2 : Nat} {o : Option Value × Hp} {a : Int32 × Int32 × Hp} {w : (Int32 × Int32 × Hp) ⊕ ((Int32 × Hp))} (h : fX8_lasts_l25 x0 x2 a = some w) (hc : ∀ (q3 : Int32) (q4 : Int32) (qs : Hp), w = .inl (q3, q4, qs) → R G MX8_lasts 25 [(0, .ref x0), (2, .ref x2), (3, .int q3), (4, .int q4)] [] qs o) (he0 : ∀ (q3 : Int32) (qs : Hp), w = .inr (q3, qs) → R G MX8_lasts 80 [(3, .int q3)] [] qs o) : R G MX8_lasts 25 [(0, .ref x0), (2, .ref x2), (3, .int a.1), (4, .int a.2.1)] [] a.2.2 o := by
  unfold fX8_lasts_l25 at h
  refine R_iload DX8_lasts_25 3 rfl ?_
  refine R_aload DX8_lasts_27 0 rfl ?_
  obtain ⟨v5, ev5, h⟩ := bind_some h
  refine R_gR DX8_lasts_28 fl_RX8_47 ev5 ?_
  obtain ⟨v6, ev6, h⟩ := bind_some h
  refine R_gI DX8_lasts_31 fl_RX8_96 ev6 ?_
  by_cases c7 : v6 ≤ a.2.1
  · replace h := if_t h c7
    refine R_icmp_ge_t DX8_lasts_34 c7 ?_
    refine R.sub (L' := [(3, .int a.1)]) [2] rfl ?_
    cases h
    exact he0 _ _ rfl
  · replace h := if_f h c7
    refine R_icmp_ge_f DX8_lasts_34 c7 ?_
    refine R_constI DX8_lasts_37 ci_1 ?_
    refine R_istore [(5, .int (iI 1)), (0, .ref x0), (2, .ref x2), (3, .int a.1), (4, .int a.2.1)] DX8_lasts_38 (by decide) rfl ?_
    refine R.sub (L' := [(0, .ref x0), (2, .ref x2), (3, .int a.1), (4, .int a.2.1), (5, .int (iI 1))]) [1, 2, 3, 4, 0] rfl ?_
    obtain ⟨r13, hi, h⟩ := bind_some h
    have hE : (fun u40 : Int32 × Hp => R G MX8_lasts 74 [(0, .ref x0), (2, .ref x2), (3, .int u40.1), (4, .int a.2.1)] [] u40.2 o) r13 → ∀ (q3 : Int32) (q5 : Int32) (qs : Hp), iter (fX8_lasts_l40 x0 x2 a.2.1) FU (q3, q5, qs) = some r13 → R G MX8_lasts 40 [(0, .ref x0), (2, .ref x2), (3, .int q3), (4, .int a.2.1), (5, .int q5)] [] qs o := fun hX q3 q5 qs hj => loop_R (fX8_lasts_l40 x0 x2 a.2.1) (fun p40 : Int32 × Int32 × Hp => R G MX8_lasts 40 [(0, .ref x0), (2, .ref x2), (3, .int p40.1), (4, .int a.2.1), (5, .int p40.2.1)] [] p40.2.2 o) (fun u40 : Int32 × Hp => R G MX8_lasts 74 [(0, .ref x0), (2, .ref x2), (3, .int u40.1), (4, .int a.2.1)] [] u40.2 o) (fun a w hw hc he => tX8_lasts_l40 hw (fun q3 q5 qs e => hc (q3, q5, qs) e) (fun q3 qs e => he (q3, qs) e)) FU (q3, q5, qs) r13 hj hX
    refine hE ?_ _ _ _ hi
    clear hE hi
    refine R_iinc [(4, .int (a.2.1 + iI 1)), (0, .ref x0), (2, .ref x2), (3, .int r13.1)] DX8_lasts_74 3 rfl (v := a.2.1 + iI 1) (by rfl) (by decide) rfl ?_
    refine R_goto DX8_lasts_77 ?_
    refine R.sub (L' := [(0, .ref x0), (2, .ref x2), (3, .int r13.1), (4, .int (a.2.1 + iI 1))]) [1, 2, 3, 0] rfl ?_
    cases h
    exact hc _ _ _ rfl
set_option maxRecDepth 8000 in
theorem kX8_lasts {G : Gm} {x0 : Nat} {x1 : Int32} {s : Hp} {w : Int32 × Hp} (h : fX8_lasts x0 x1 s = some w) : (s.2.2 x0).1 = 8 ∧ Call G MX8_lasts [.ref x0, .int x1] s (some (.int w.1), w.2) := by
  unfold fX8_lasts at h
  obtain ⟨_, e0, h⟩ := bind_some h
  refine ⟨ck_some e0, Call.of_R pnRX8 (Nat.le_of_ble_eq_true rfl) ?_⟩
  clear e0
  show R G MX8_lasts 0 [(0, .ref x0), (1, .int x1)] [] s (some (.int w.1), w.2)
  refine R_aload DX8_lasts_0 0 rfl ?_
  obtain ⟨v1, ev1, h⟩ := bind_some h
  refine R_gR DX8_lasts_1 fl_RX8_47 ev1 ?_
  refine R_iload DX8_lasts_4 1 rfl ?_
  obtain ⟨r2, er2, h⟩ := bind_some h
  refine R_cV1 [.int x1] DX8_lasts_5 kzvX6_hasShop ml_RX8_99 ⟨Nat.le_of_ble_eq_true rfl, Nat.le_of_ble_eq_true rfl⟩ rfl (Nat.le_of_ble_eq_true rfl) (kX6_hasShop er2) ?_
  by_cases c3 : r2.1 = 0
  · replace h := if_t h c3
    refine R_if_ne_f DX8_lasts_8 c3 ?_
    refine R_constI DX8_lasts_11 ci_m2 ?_
    cases h
    exact R_ireturn rfl DX8_lasts_13
  · replace h := if_f h c3
    refine R_if_ne_t DX8_lasts_8 c3 ?_
    refine R_aload DX8_lasts_14 0 rfl ?_
    refine R_iload DX8_lasts_15 1 rfl ?_
    obtain ⟨r4, er4, h⟩ := bind_some h
    refine R_cV1 [.int x1] DX8_lasts_16 kzvX8_reachOf ml_RX8_191 ⟨Nat.le_of_ble_eq_true rfl, Nat.le_of_ble_eq_true rfl⟩ rfl (Nat.le_of_ble_eq_true rfl) (kX8_reachOf er4) ?_
    refine R_astore [(2, .ref r4.1), (0, .ref x0), (1, .int x1)] DX8_lasts_19 (by decide) rfl ?_
    refine R_constI DX8_lasts_20 ci_m1 ?_
    refine R_istore [(3, .int (iI (-1))), (2, .ref r4.1), (0, .ref x0), (1, .int x1)] DX8_lasts_21 (by decide) rfl ?_
    refine R_constI DX8_lasts_22 ci_0 ?_
    refine R_istore [(4, .int (iI 0)), (3, .int (iI (-1))), (2, .ref r4.1), (0, .ref x0), (1, .int x1)] DX8_lasts_23 (by decide) rfl ?_
    refine R.sub (L' := [(0, .ref x0), (2, .ref r4.1), (3, .int (iI (-1))), (4, .int (iI 0))]) [3, 2, 1, 0] rfl ?_
    obtain ⟨r14, hi, h⟩ := bind_some h
    have hE : (fun u25 : Int32 × Hp => R G MX8_lasts 80 [(3, .int u25.1)] [] u25.2 (some (.int w.1), w.2)) r14 → ∀ (q3 : Int32) (q4 : Int32) (qs : Hp), iter (fX8_lasts_l25 x0 r4.1) FU (q3, q4, qs) = some r14 → R G MX8_lasts 25 [(0, .ref x0), (2, .ref r4.1), (3, .int q3), (4, .int q4)] [] qs (some (.int w.1), w.2) := fun hX q3 q4 qs hj => loop_R (fX8_lasts_l25 x0 r4.1) (fun p25 : Int32 × Int32 × Hp => R G MX8_lasts 25 [(0, .ref x0), (2, .ref r4.1), (3, .int p25.1), (4, .int p25.2.1)] [] p25.2.2 (some (.int w.1), w.2)) (fun u25 : Int32 × Hp => R G MX8_lasts 80 [(3, .int u25.1)] [] u25.2 (some (.int w.1), w.2)) (fun a w hw hc he => tX8_lasts_l25 hw (fun q3 q4 qs e => hc (q3, q4, qs) e) (fun q3 qs e => he (q3, qs) e)) FU (q3, q4, qs) r14 hj hX
    refine hE ?_ _ _ _ hi
    clear hE hi
    refine R_iload DX8_lasts_80 0 rfl ?_
    cases h
    exact R_ireturn rfl DX8_lasts_81
set_option maxRecDepth 8000 in
theorem tX8_columnsNear_l13 {G : Gm} {x0 : Nat} {x1 : Nat} {x2 : Int32} {x3 : Int32} {x4 : Int32} {o : Option Value × Hp} {a : Int64 × Int32 × Hp} {w : (Int64 × Int32 × Hp) ⊕ ((Int64 × Hp))} (h : fX8_columnsNear_l13 x0 x1 x2 x3 x4 a = some w) (hc : ∀ (q5 : Int64) (q7 : Int32) (qs : Hp), w = .inl (q5, q7, qs) → R G MX8_columnsNear 13 [(0, .ref x0), (1, .ref x1), (2, .int x2), (3, .int x3), (4, .int x4), (5, .long q5), (7, .int q7)] [] qs o) (he0 : ∀ (q5 : Int64) (qs : Hp), w = .inr (q5, qs) → R G MX8_columnsNear 52 [(4, .int x4), (5, .long q5)] [] qs o) : R G MX8_columnsNear 13 [(0, .ref x0), (1, .ref x1), (2, .int x2), (3, .int x3), (4, .int x4), (5, .long a.1), (7, .int a.2.1)] [] a.2.2 o := by
  unfold fX8_columnsNear_l13 at h
  refine R_iload DX8_columnsNear_13 6 rfl ?_
  refine R_iload DX8_columnsNear_15 3 rfl ?_
  refine R_iload DX8_columnsNear_16 4 rfl ?_
  refine R_iadd DX8_columnsNear_18 ?_
  refine R_aload DX8_columnsNear_19 0 rfl ?_
  obtain ⟨v2, ev2, h⟩ := bind_some h
  refine R_gR DX8_columnsNear_20 fl_RX8_47 ev2 ?_
  obtain ⟨v3, ev3, h⟩ := bind_some h
  refine R_gI DX8_columnsNear_23 fl_RX8_218 ev3 ?_
  refine R_constI DX8_columnsNear_26 ci_1 ?_
  refine R_isub DX8_columnsNear_27 ?_
  refine R_mmin DX8_columnsNear_28 mw_RX8_343 ⟨Nat.le_of_ble_eq_true rfl, Nat.le_of_ble_eq_true rfl⟩ ?_
  by_cases c4 : (imin (x3 + x4) (v3 - (iI 1))) < a.2.1
  · replace h := if_t h c4
    refine R_icmp_gt_t DX8_columnsNear_31 c4 ?_
    refine R.sub (L' := [(4, .int x4), (5, .long a.1)]) [4, 5] rfl ?_
    cases h
    exact he0 _ _ rfl
  · replace h := if_f h c4
    refine R_icmp_gt_f DX8_columnsNear_31 c4 ?_
    refine R_lload DX8_columnsNear_34 5 rfl ?_
    refine R_aload DX8_columnsNear_36 1 rfl ?_
    refine R_iload DX8_columnsNear_37 2 rfl ?_
    refine R_iload DX8_columnsNear_38 6 rfl ?_
    obtain ⟨r5, er5, h⟩ := bind_some h
    refine R_cV1 [.int x2, .int a.2.1] DX8_columnsNear_40 kzvX2_columnsAt ml_RX8_221 ⟨Nat.le_of_ble_eq_true rfl, Nat.le_of_ble_eq_true rfl⟩ rfl (Nat.le_of_ble_eq_true rfl) (kX2_columnsAt er5) ?_
    refine R_lor DX8_columnsNear_43 ?_
    obtain ⟨z6, ez6, h⟩ := lt_some h
    refine R_lstoreE ez6 [(5, .long z6), (0, .ref x0), (1, .ref x1), (2, .int x2), (3, .int x3), (4, .int x4), (7, .int a.2.1)] DX8_columnsNear_44 (by decide) rfl ?_
    refine R_iinc [(7, .int (a.2.1 + iI 1)), (5, .long z6), (0, .ref x0), (1, .ref x1), (2, .int x2), (3, .int x3), (4, .int x4)] DX8_columnsNear_46 6 rfl (v := a.2.1 + iI 1) (by rfl) (by decide) rfl ?_
    refine R_goto DX8_columnsNear_49 ?_
    refine R.sub (L' := [(0, .ref x0), (1, .ref x1), (2, .int x2), (3, .int x3), (4, .int x4), (5, .long z6), (7, .int (a.2.1 + iI 1))]) [2, 3, 4, 5, 6, 1, 0] rfl ?_
    cases h
    exact hc _ _ _ rfl
set_option maxRecDepth 8000 in
theorem kX8_columnsNear {G : Gm} {x0 : Nat} {x1 : Nat} {x2 : Int32} {x3 : Int32} {x4 : Int32} {s : Hp} {w : Int64 × Hp} (h : fX8_columnsNear x0 x1 x2 x3 x4 s = some w) : (s.2.2 x0).1 = 8 ∧ Call G MX8_columnsNear [.ref x0, .ref x1, .int x2, .int x3, .int x4] s (some (.long w.1), w.2) := by
  unfold fX8_columnsNear at h
  obtain ⟨_, e0, h⟩ := bind_some h
  refine ⟨ck_some e0, Call.of_R pnRX8 (Nat.le_of_ble_eq_true rfl) ?_⟩
  clear e0
  show R G MX8_columnsNear 0 [(0, .ref x0), (1, .ref x1), (2, .int x2), (3, .int x3), (4, .int x4)] [] s (some (.long w.1), w.2)
  refine R_lconst DX8_columnsNear_0 ?_
  refine R_lstore [(5, .long 0), (0, .ref x0), (1, .ref x1), (2, .int x2), (3, .int x3), (4, .int x4)] DX8_columnsNear_1 (by decide) rfl ?_
  refine R_constI DX8_columnsNear_3 ci_0 ?_
  refine R_iload DX8_columnsNear_4 4 rfl ?_
  refine R_iload DX8_columnsNear_5 5 rfl ?_
  refine R_isub DX8_columnsNear_7 ?_
  refine R_mmax DX8_columnsNear_8 mw_RX8_317 ⟨Nat.le_of_ble_eq_true rfl, Nat.le_of_ble_eq_true rfl⟩ ?_
  obtain ⟨z1, ez1, h⟩ := lt_some h
  refine R_istoreE ez1 [(7, .int z1), (5, .long 0), (0, .ref x0), (1, .ref x1), (2, .int x2), (3, .int x3), (4, .int x4)] DX8_columnsNear_11 (by decide) rfl ?_
  refine R.sub (L' := [(0, .ref x0), (1, .ref x1), (2, .int x2), (3, .int x3), (4, .int x4), (5, .long 0), (7, .int z1)]) [2, 3, 4, 5, 6, 1, 0] rfl ?_
  obtain ⟨r7, hi, h⟩ := bind_some h
  have hE : (fun u13 : Int64 × Hp => R G MX8_columnsNear 52 [(4, .int x4), (5, .long u13.1)] [] u13.2 (some (.long w.1), w.2)) r7 → ∀ (q5 : Int64) (q7 : Int32) (qs : Hp), iter (fX8_columnsNear_l13 x0 x1 x2 x3 x4) FU (q5, q7, qs) = some r7 → R G MX8_columnsNear 13 [(0, .ref x0), (1, .ref x1), (2, .int x2), (3, .int x3), (4, .int x4), (5, .long q5), (7, .int q7)] [] qs (some (.long w.1), w.2) := fun hX q5 q7 qs hj => loop_R (fX8_columnsNear_l13 x0 x1 x2 x3 x4) (fun p13 : Int64 × Int32 × Hp => R G MX8_columnsNear 13 [(0, .ref x0), (1, .ref x1), (2, .int x2), (3, .int x3), (4, .int x4), (5, .long p13.1), (7, .int p13.2.1)] [] p13.2.2 (some (.long w.1), w.2)) (fun u13 : Int64 × Hp => R G MX8_columnsNear 52 [(4, .int x4), (5, .long u13.1)] [] u13.2 (some (.long w.1), w.2)) (fun a w hw hc he => tX8_columnsNear_l13 hw (fun q5 q7 qs e => hc (q5, q7, qs) e) (fun q5 qs e => he (q5, qs) e)) FU (q5, q7, qs) r7 hj hX
  refine hE ?_ _ _ _ hi
  clear hE hi
  refine R_iload DX8_columnsNear_52 0 rfl ?_
  by_cases c8 : x4 = 0
  · replace h := if_t h c8
    refine R_if_ne_f DX8_columnsNear_54 c8 ?_
    refine R_lload DX8_columnsNear_57 1 rfl ?_
    refine R_goto DX8_columnsNear_59 ?_
    cases h
    exact R_lreturn rfl DX8_columnsNear_67
  · replace h := if_f h c8
    refine R_if_ne_t DX8_columnsNear_54 c8 ?_
    refine R_lload DX8_columnsNear_62 1 rfl ?_
    obtain ⟨r9, er9, h⟩ := bind_some h
    refine R_cS1 [.long r7.1] DX8_columnsNear_64 kzsX0_widened ml_RX8_418 ⟨Nat.le_of_ble_eq_true rfl, Nat.le_of_ble_eq_true rfl⟩ rfl (Nat.le_of_ble_eq_true rfl) (kX0_widened er9) ?_
    cases h
    exact R_lreturn rfl DX8_columnsNear_67
set_option maxRecDepth 8000 in
theorem tX8_firstTogether_l18 {G : Gm} {x0 : Nat} {x1 : Nat} {x2 : Nat} {x3 : Int32} {x4 : Int32} {o : Option Value × Hp} {a : Int32 × Hp} {w : (Int32 × Hp) ⊕ ((Hp) ⊕ (Hp))} (h : fX8_firstTogether_l18 x0 x1 x2 x3 x4 a = some w) (hc : ∀ (q5 : Int32) (qs : Hp), w = .inl (q5, qs) → R G MX8_firstTogether 18 [(0, .ref x0), (1, .ref x1), (2, .ref x2), (3, .int x3), (4, .int x4), (5, .int q5)] [] qs o) (he0 : ∀ (qs : Hp), w = .inr (.inl qs) → R G MX8_firstTogether 63 [(0, .ref x0), (1, .ref x1), (2, .ref x2), (3, .int x3), (4, .int x4)] [] qs o) (he1 : ∀ (qs : Hp), w = .inr (.inr qs) → R G MX8_firstTogether 54 [(4, .int x4)] [] qs o) : R G MX8_firstTogether 18 [(0, .ref x0), (1, .ref x1), (2, .ref x2), (3, .int x3), (4, .int x4), (5, .int a.1)] [] a.2 o := by
  unfold fX8_firstTogether_l18 at h
  refine R_iload DX8_firstTogether_18 5 rfl ?_
  refine R_aload DX8_firstTogether_20 0 rfl ?_
  obtain ⟨v4, ev4, h⟩ := bind_some h
  refine R_gR DX8_firstTogether_21 fl_RX8_47 ev4 ?_
  obtain ⟨v5, ev5, h⟩ := bind_some h
  refine R_gI DX8_firstTogether_24 fl_RX8_218 ev5 ?_
  by_cases c6 : v5 ≤ a.1
  · replace h := if_t h c6
    refine R_icmp_ge_t DX8_firstTogether_27 c6 ?_
    refine R.sub (L' := [(0, .ref x0), (1, .ref x1), (2, .ref x2), (3, .int x3), (4, .int x4)]) [0, 1, 2, 3, 4] rfl ?_
    cases h
    exact he0 _ rfl
  · replace h := if_f h c6
    refine R_icmp_ge_f DX8_firstTogether_27 c6 ?_
    refine R_aload DX8_firstTogether_30 1 rfl ?_
    refine R_iload DX8_firstTogether_31 4 rfl ?_
    refine R_iload DX8_firstTogether_33 5 rfl ?_
    obtain ⟨r7, er7, h⟩ := bind_some h
    refine R_cV1 [.int x4, .int a.1] DX8_firstTogether_35 kzvX2_columnsAt ml_RX8_221 ⟨Nat.le_of_ble_eq_true rfl, Nat.le_of_ble_eq_true rfl⟩ rfl (Nat.le_of_ble_eq_true rfl) (kX2_columnsAt er7) ?_
    refine R_aload DX8_firstTogether_38 0 rfl ?_
    refine R_aload DX8_firstTogether_39 2 rfl ?_
    refine R_iload DX8_firstTogether_40 4 rfl ?_
    refine R_iload DX8_firstTogether_42 5 rfl ?_
    refine R_iload DX8_firstTogether_44 3 rfl ?_
    obtain ⟨r8, er8, h⟩ := bind_some h
    refine R_cV1 [.ref x2, .int x4, .int a.1, .int x3] DX8_firstTogether_45 kzvX8_columnsNear ml_RX8_414 ⟨Nat.le_of_ble_eq_true rfl, Nat.le_of_ble_eq_true rfl⟩ rfl (Nat.le_of_ble_eq_true rfl) (kX8_columnsNear er8) ?_
    refine R_land DX8_firstTogether_48 ?_
    refine R_lconst DX8_firstTogether_49 ?_
    refine R_lcmp DX8_firstTogether_50 ?_
    by_cases c9 : (lg_cmp (r7.1 &&& r8.1) 0) = 0
    · replace h := if_t h c9
      refine R_if_eq_t DX8_firstTogether_51 c9 ?_
      refine R_iinc [(5, .int (a.1 + iI 1)), (0, .ref x0), (1, .ref x1), (2, .ref x2), (3, .int x3), (4, .int x4)] DX8_firstTogether_57 5 rfl (v := a.1 + iI 1) (by rfl) (by decide) rfl ?_
      refine R_goto DX8_firstTogether_60 ?_
      refine R.sub (L' := [(0, .ref x0), (1, .ref x1), (2, .ref x2), (3, .int x3), (4, .int x4), (5, .int (a.1 + iI 1))]) [1, 2, 3, 4, 5, 0] rfl ?_
      cases h
      exact hc _ _ rfl
    · replace h := if_f h c9
      refine R_if_eq_f DX8_firstTogether_51 c9 ?_
      refine R.sub (L' := [(4, .int x4)]) [4] rfl ?_
      cases h
      exact he1 _ rfl
set_option maxRecDepth 8000 in
theorem tX8_firstTogether_l3 {G : Gm} {x0 : Nat} {x1 : Nat} {x2 : Nat} {x3 : Int32} {o : Option Value × Hp} {a : Int32 × Hp} {w : (Int32 × Hp) ⊕ ((Hp) ⊕ (Int32 × Hp))} (h : fX8_firstTogether_l3 x0 x1 x2 x3 a = some w) (hc : ∀ (q4 : Int32) (qs : Hp), w = .inl (q4, qs) → R G MX8_firstTogether 3 [(0, .ref x0), (1, .ref x1), (2, .ref x2), (3, .int x3), (4, .int q4)] [] qs o) (he0 : ∀ (qs : Hp), w = .inr (.inl qs) → R G MX8_firstTogether 69 [] [] qs o) (he1 : ∀ (q4 : Int32) (qs : Hp), w = .inr (.inr (q4, qs)) → R G MX8_firstTogether 54 [(4, .int q4)] [] qs o) : R G MX8_firstTogether 3 [(0, .ref x0), (1, .ref x1), (2, .ref x2), (3, .int x3), (4, .int a.1)] [] a.2 o := by
  unfold fX8_firstTogether_l3 at h
  refine R_iload DX8_firstTogether_3 4 rfl ?_
  refine R_aload DX8_firstTogether_5 0 rfl ?_
  obtain ⟨v1, ev1, h⟩ := bind_some h
  refine R_gR DX8_firstTogether_6 fl_RX8_47 ev1 ?_
  obtain ⟨v2, ev2, h⟩ := bind_some h
  refine R_gI DX8_firstTogether_9 fl_RX8_96 ev2 ?_
  by_cases c3 : v2 ≤ a.1
  · replace h := if_t h c3
    refine R_icmp_ge_t DX8_firstTogether_12 c3 ?_
    refine R.sub (L' := []) [] rfl ?_
    cases h
    exact he0 _ rfl
  · replace h := if_f h c3
    refine R_icmp_ge_f DX8_firstTogether_12 c3 ?_
    refine R_constI DX8_firstTogether_15 ci_0 ?_
    refine R_istore [(5, .int (iI 0)), (0, .ref x0), (1, .ref x1), (2, .ref x2), (3, .int x3), (4, .int a.1)] DX8_firstTogether_16 (by decide) rfl ?_
    refine R.sub (L' := [(0, .ref x0), (1, .ref x1), (2, .ref x2), (3, .int x3), (4, .int a.1), (5, .int (iI 0))]) [1, 2, 3, 4, 5, 0] rfl ?_
    obtain ⟨r10, hi, h⟩ := bind_some h
    have hE : (Sum.elim (fun u18 : Hp => R G MX8_firstTogether 63 [(0, .ref x0), (1, .ref x1), (2, .ref x2), (3, .int x3), (4, .int a.1)] [] u18 o) (fun u18 : Hp => R G MX8_firstTogether 54 [(4, .int a.1)] [] u18 o)) r10 → ∀ (q5 : Int32) (qs : Hp), iter (fX8_firstTogether_l18 x0 x1 x2 x3 a.1) FU (q5, qs) = some r10 → R G MX8_firstTogether 18 [(0, .ref x0), (1, .ref x1), (2, .ref x2), (3, .int x3), (4, .int a.1), (5, .int q5)] [] qs o := fun hX q5 qs hj => loop_R (fX8_firstTogether_l18 x0 x1 x2 x3 a.1) (fun p18 : Int32 × Hp => R G MX8_firstTogether 18 [(0, .ref x0), (1, .ref x1), (2, .ref x2), (3, .int x3), (4, .int a.1), (5, .int p18.1)] [] p18.2 o) (Sum.elim (fun u18 : Hp => R G MX8_firstTogether 63 [(0, .ref x0), (1, .ref x1), (2, .ref x2), (3, .int x3), (4, .int a.1)] [] u18 o) (fun u18 : Hp => R G MX8_firstTogether 54 [(4, .int a.1)] [] u18 o)) (fun a w hw hc he => tX8_firstTogether_l18 hw (fun q5 qs e => hc (q5, qs) e) (fun qs e => he (.inl qs) e) (fun qs e => he (.inr qs) e)) FU (q5, qs) r10 hj hX
    refine hE ?_ _ _ hi
    clear hE hi
    rcases r10 with r10a | r10b
    · replace h := el_l h
      refine R_iinc [(4, .int (a.1 + iI 1)), (0, .ref x0), (1, .ref x1), (2, .ref x2), (3, .int x3)] DX8_firstTogether_63 4 rfl (v := a.1 + iI 1) (by rfl) (by decide) rfl ?_
      refine R_goto DX8_firstTogether_66 ?_
      refine R.sub (L' := [(0, .ref x0), (1, .ref x1), (2, .ref x2), (3, .int x3), (4, .int (a.1 + iI 1))]) [1, 2, 3, 4, 0] rfl ?_
      cases h
      exact hc _ _ rfl
    replace h := el_r h
    cases h
    exact he1 _ _ rfl
set_option maxRecDepth 8000 in
theorem kX8_firstTogether {G : Gm} {x0 : Nat} {x1 : Nat} {x2 : Nat} {x3 : Int32} {s : Hp} {w : Int32 × Hp} (h : fX8_firstTogether x0 x1 x2 x3 s = some w) : (s.2.2 x0).1 = 8 ∧ Call G MX8_firstTogether [.ref x0, .ref x1, .ref x2, .int x3] s (some (.int w.1), w.2) := by
  unfold fX8_firstTogether at h
  obtain ⟨_, e0, h⟩ := bind_some h
  refine ⟨ck_some e0, Call.of_R pnRX8 (Nat.le_of_ble_eq_true rfl) ?_⟩
  clear e0
  show R G MX8_firstTogether 0 [(0, .ref x0), (1, .ref x1), (2, .ref x2), (3, .int x3)] [] s (some (.int w.1), w.2)
  refine R_constI DX8_firstTogether_0 ci_0 ?_
  refine R_istore [(4, .int (iI 0)), (0, .ref x0), (1, .ref x1), (2, .ref x2), (3, .int x3)] DX8_firstTogether_1 (by decide) rfl ?_
  refine R.sub (L' := [(0, .ref x0), (1, .ref x1), (2, .ref x2), (3, .int x3), (4, .int (iI 0))]) [1, 2, 3, 4, 0] rfl ?_
  obtain ⟨r11, hi, h⟩ := bind_some h
  have hE : (Sum.elim (fun u3 : Hp => R G MX8_firstTogether 69 [] [] u3 (some (.int w.1), w.2)) (fun u3 : Int32 × Hp => R G MX8_firstTogether 54 [(4, .int u3.1)] [] u3.2 (some (.int w.1), w.2))) r11 → ∀ (q4 : Int32) (qs : Hp), iter (fX8_firstTogether_l3 x0 x1 x2 x3) FU (q4, qs) = some r11 → R G MX8_firstTogether 3 [(0, .ref x0), (1, .ref x1), (2, .ref x2), (3, .int x3), (4, .int q4)] [] qs (some (.int w.1), w.2) := fun hX q4 qs hj => loop_R (fX8_firstTogether_l3 x0 x1 x2 x3) (fun p3 : Int32 × Hp => R G MX8_firstTogether 3 [(0, .ref x0), (1, .ref x1), (2, .ref x2), (3, .int x3), (4, .int p3.1)] [] p3.2 (some (.int w.1), w.2)) (Sum.elim (fun u3 : Hp => R G MX8_firstTogether 69 [] [] u3 (some (.int w.1), w.2)) (fun u3 : Int32 × Hp => R G MX8_firstTogether 54 [(4, .int u3.1)] [] u3.2 (some (.int w.1), w.2))) (fun a w hw hc he => tX8_firstTogether_l3 hw (fun q4 qs e => hc (q4, qs) e) (fun qs e => he (.inl qs) e) (fun q4 qs e => he (.inr (q4, qs)) e)) FU (q4, qs) r11 hj hX
  refine hE ?_ _ _ hi
  clear hE hi
  rcases r11 with r11a | r11b
  · replace h := el_l h
    refine R_constI DX8_firstTogether_69 ci_m1 ?_
    cases h
    exact R_ireturn rfl DX8_firstTogether_70
  replace h := el_r h
  refine R_iload DX8_firstTogether_54 0 rfl ?_
  cases h
  exact R_ireturn rfl DX8_firstTogether_56
set_option maxRecDepth 8000 in
theorem kX8_meet {G : Gm} {x0 : Nat} {x1 : Int32} {x2 : Int32} {s : Hp} {w : Int32 × Hp} (h : fX8_meet x0 x1 x2 s = some w) : (s.2.2 x0).1 = 8 ∧ Call G MX8_meet [.ref x0, .int x1, .int x2] s (some (.int w.1), w.2) := by
  unfold fX8_meet at h
  obtain ⟨_, e0, h⟩ := bind_some h
  refine ⟨ck_some e0, Call.of_R pnRX8 (Nat.le_of_ble_eq_true rfl) ?_⟩
  clear e0
  show R G MX8_meet 0 [(0, .ref x0), (1, .int x1), (2, .int x2)] [] s (some (.int w.1), w.2)
  refine R_aload DX8_meet_0 0 rfl ?_
  obtain ⟨v1, ev1, h⟩ := bind_some h
  refine R_gR DX8_meet_1 fl_RX8_47 ev1 ?_
  refine R_iload DX8_meet_4 1 rfl ?_
  refine R_iload DX8_meet_5 2 rfl ?_
  obtain ⟨r2, er2, h⟩ := bind_some h
  refine R_cV1 [.int x1, .int x2] DX8_meet_6 kzvX6_hasTwoShops ml_RX8_172 ⟨Nat.le_of_ble_eq_true rfl, Nat.le_of_ble_eq_true rfl⟩ rfl (Nat.le_of_ble_eq_true rfl) (kX6_hasTwoShops er2) ?_
  by_cases c3 : r2.1 = 0
  · replace h := if_t h c3
    refine R_if_ne_f DX8_meet_9 c3 ?_
    refine R_constI DX8_meet_12 ci_m2 ?_
    cases h
    exact R_ireturn rfl DX8_meet_14
  · replace h := if_f h c3
    refine R_if_ne_t DX8_meet_9 c3 ?_
    refine R_aload DX8_meet_15 0 rfl ?_
    refine R_aload DX8_meet_16 0 rfl ?_
    refine R_iload DX8_meet_17 1 rfl ?_
    obtain ⟨r4, er4, h⟩ := bind_some h
    refine R_cV1 [.int x1] DX8_meet_18 kzvX8_reachOf ml_RX8_191 ⟨Nat.le_of_ble_eq_true rfl, Nat.le_of_ble_eq_true rfl⟩ rfl (Nat.le_of_ble_eq_true rfl) (kX8_reachOf er4) ?_
    refine R_aload DX8_meet_21 0 rfl ?_
    refine R_iload DX8_meet_22 2 rfl ?_
    obtain ⟨r5, er5, h⟩ := bind_some h
    refine R_cV1 [.int x2] DX8_meet_23 kzvX8_reachOf ml_RX8_191 ⟨Nat.le_of_ble_eq_true rfl, Nat.le_of_ble_eq_true rfl⟩ rfl (Nat.le_of_ble_eq_true rfl) (kX8_reachOf er5) ?_
    refine R_constI DX8_meet_26 ci_0 ?_
    obtain ⟨r6, er6, h⟩ := bind_some h
    refine R_cV1 [.ref r4.1, .ref r5.1, .int (iI 0)] DX8_meet_27 kzvX8_firstTogether ml_RX8_272 ⟨Nat.le_of_ble_eq_true rfl, Nat.le_of_ble_eq_true rfl⟩ rfl (Nat.le_of_ble_eq_true rfl) (kX8_firstTogether er6) ?_
    cases h
    exact R_ireturn rfl DX8_meet_30
set_option maxRecDepth 8000 in
theorem kX8_rope {G : Gm} {x0 : Nat} {x1 : Int32} {x2 : Int32} {s : Hp} {w : Int32 × Hp} (h : fX8_rope x0 x1 x2 s = some w) : (s.2.2 x0).1 = 8 ∧ Call G MX8_rope [.ref x0, .int x1, .int x2] s (some (.int w.1), w.2) := by
  unfold fX8_rope at h
  obtain ⟨_, e0, h⟩ := bind_some h
  refine ⟨ck_some e0, Call.of_R pnRX8 (Nat.le_of_ble_eq_true rfl) ?_⟩
  clear e0
  show R G MX8_rope 0 [(0, .ref x0), (1, .int x1), (2, .int x2)] [] s (some (.int w.1), w.2)
  refine R_aload DX8_rope_0 0 rfl ?_
  obtain ⟨v1, ev1, h⟩ := bind_some h
  refine R_gR DX8_rope_1 fl_RX8_47 ev1 ?_
  refine R_iload DX8_rope_4 1 rfl ?_
  refine R_iload DX8_rope_5 2 rfl ?_
  obtain ⟨r2, er2, h⟩ := bind_some h
  refine R_cV1 [.int x1, .int x2] DX8_rope_6 kzvX6_hasTwoShops ml_RX8_172 ⟨Nat.le_of_ble_eq_true rfl, Nat.le_of_ble_eq_true rfl⟩ rfl (Nat.le_of_ble_eq_true rfl) (kX6_hasTwoShops er2) ?_
  by_cases c3 : r2.1 = 0
  · replace h := if_t h c3
    refine R_if_ne_f DX8_rope_9 c3 ?_
    refine R_constI DX8_rope_12 ci_m2 ?_
    cases h
    exact R_ireturn rfl DX8_rope_14
  · replace h := if_f h c3
    refine R_if_ne_t DX8_rope_9 c3 ?_
    refine R_aload DX8_rope_15 0 rfl ?_
    refine R_aload DX8_rope_16 0 rfl ?_
    refine R_iload DX8_rope_17 1 rfl ?_
    obtain ⟨r4, er4, h⟩ := bind_some h
    refine R_cV1 [.int x1] DX8_rope_18 kzvX8_reachOf ml_RX8_191 ⟨Nat.le_of_ble_eq_true rfl, Nat.le_of_ble_eq_true rfl⟩ rfl (Nat.le_of_ble_eq_true rfl) (kX8_reachOf er4) ?_
    refine R_aload DX8_rope_21 0 rfl ?_
    refine R_iload DX8_rope_22 2 rfl ?_
    obtain ⟨r5, er5, h⟩ := bind_some h
    refine R_cV1 [.int x2] DX8_rope_23 kzvX8_reachOf ml_RX8_191 ⟨Nat.le_of_ble_eq_true rfl, Nat.le_of_ble_eq_true rfl⟩ rfl (Nat.le_of_ble_eq_true rfl) (kX8_reachOf er5) ?_
    refine R_constI DX8_rope_26 ci_1 ?_
    obtain ⟨r6, er6, h⟩ := bind_some h
    refine R_cV1 [.ref r4.1, .ref r5.1, .int (iI 1)] DX8_rope_27 kzvX8_firstTogether ml_RX8_272 ⟨Nat.le_of_ble_eq_true rfl, Nat.le_of_ble_eq_true rfl⟩ rfl (Nat.le_of_ble_eq_true rfl) (kX8_firstTogether er6) ?_
    cases h
    exact R_ireturn rfl DX8_rope_30
set_option maxRecDepth 8000 in
theorem tX8_landing_l22 {G : Gm} {x0 : Nat} {o : Option Value × Hp} {a : Int32 × Int32 × Int32 × Hp} {w : (Int32 × Int32 × Int32 × Hp) ⊕ ((Int32 × Hp) ⊕ (Hp))} (h : fX8_landing_l22 x0 a = some w) (hc : ∀ (q4 : Int32) (q5 : Int32) (q6 : Int32) (qs : Hp), w = .inl (q4, q5, q6, qs) → R G MX8_landing 22 [(0, .ref x0), (4, .int q4), (5, .int q5), (6, .int q6)] [] qs o) (he0 : ∀ (q4 : Int32) (qs : Hp), w = .inr (.inl (q4, qs)) → R G MX8_landing 72 [(4, .int q4)] [] qs o) (he1 : ∀ (qs : Hp), w = .inr (.inr qs) → R G MX8_landing 39 [] [] qs o) : R G MX8_landing 22 [(0, .ref x0), (4, .int a.1), (5, .int a.2.1), (6, .int a.2.2.1)] [] a.2.2.2 o := by
  unfold fX8_landing_l22 at h
  refine R_iload DX8_landing_22 3 rfl ?_
  by_cases c4 : a.2.2.1 ≤ 0
  · replace h := if_t h c4
    refine R_if_le_t DX8_landing_24 c4 ?_
    refine R.sub (L' := [(4, .int a.1)]) [1] rfl ?_
    cases h
    exact he0 _ _ rfl
  · replace h := if_f h c4
    refine R_if_le_f DX8_landing_24 c4 ?_
    refine R_aload DX8_landing_27 0 rfl ?_
    obtain ⟨v5, ev5, h⟩ := bind_some h
    refine R_gR DX8_landing_28 fl_RX8_47 ev5 ?_
    refine R_iload DX8_landing_31 2 rfl ?_
    obtain ⟨r6, er6, h⟩ := bind_some h
    refine R_cV1 [.int a.2.1] DX8_landing_33 kzvX6_hasHour ml_RX8_86 ⟨Nat.le_of_ble_eq_true rfl, Nat.le_of_ble_eq_true rfl⟩ rfl (Nat.le_of_ble_eq_true rfl) (kX6_hasHour er6) ?_
    by_cases c7 : r6.1 = 0
    · replace h := if_t h c7
      refine R_if_ne_f DX8_landing_36 c7 ?_
      refine R.sub (L' := []) [] rfl ?_
      cases h
      exact he1 _ rfl
    · replace h := if_f h c7
      refine R_if_ne_t DX8_landing_36 c7 ?_
      refine R_aload DX8_landing_41 0 rfl ?_
      obtain ⟨v8, ev8, h⟩ := bind_some h
      refine R_gR DX8_landing_42 fl_RX8_47 ev8 ?_
      refine R_iload DX8_landing_45 1 rfl ?_
      refine R_aload DX8_landing_47 0 rfl ?_
      obtain ⟨v9, ev9, h⟩ := bind_some h
      refine R_gR DX8_landing_48 fl_RX8_47 ev9 ?_
      refine R_iload DX8_landing_51 3 rfl ?_
      refine R_iload DX8_landing_53 2 rfl ?_
      obtain ⟨r10, er10, h⟩ := bind_some h
      refine R_cV1 [.int a.2.2.1, .int a.2.1] DX8_landing_55 kzvX6_windAt ml_RX8_89 ⟨Nat.le_of_ble_eq_true rfl, Nat.le_of_ble_eq_true rfl⟩ rfl (Nat.le_of_ble_eq_true rfl) (kX6_windAt er10) ?_
      obtain ⟨r11, er11, h⟩ := bind_some h
      refine R_cV1 [.int a.1, .int r10.1] DX8_landing_58 kzvX6_carried ml_RX8_311 ⟨Nat.le_of_ble_eq_true rfl, Nat.le_of_ble_eq_true rfl⟩ rfl (Nat.le_of_ble_eq_true rfl) (kX6_carried er11) ?_
      refine R_istore [(4, .int r11.1), (0, .ref x0), (5, .int a.2.1), (6, .int a.2.2.1)] DX8_landing_61 (by decide) rfl ?_
      refine R_iinc [(5, .int (a.2.1 + iI 1)), (4, .int r11.1), (0, .ref x0), (6, .int a.2.2.1)] DX8_landing_63 2 rfl (v := a.2.1 + iI 1) (by rfl) (by decide) rfl ?_
      refine R_iinc [(6, .int (a.2.2.1 + iI (-1))), (5, .int (a.2.1 + iI 1)), (4, .int r11.1), (0, .ref x0)] DX8_landing_66 3 rfl (v := a.2.2.1 + iI (-1)) (by rfl) (by decide) rfl ?_
      refine R_goto DX8_landing_69 ?_
      refine R.sub (L' := [(0, .ref x0), (4, .int r11.1), (5, .int (a.2.1 + iI 1)), (6, .int (a.2.2.1 + iI (-1)))]) [3, 2, 1, 0] rfl ?_
      cases h
      exact hc _ _ _ _ rfl
set_option maxRecDepth 8000 in
theorem kX8_landing {G : Gm} {x0 : Nat} {x1 : Nat} {x2 : Int32} {x3 : Int32} {s : Hp} {w : Int32 × Hp} (h : fX8_landing x0 x1 x2 x3 s = some w) : (s.2.2 x0).1 = 8 ∧ Call G MX8_landing [.ref x0, .ref x1, .int x2, .int x3] s (some (.int w.1), w.2) := by
  unfold fX8_landing at h
  obtain ⟨_, e0, h⟩ := bind_some h
  refine ⟨ck_some e0, Call.of_R pnRX8 (Nat.le_of_ble_eq_true rfl) ?_⟩
  clear e0
  show R G MX8_landing 0 [(0, .ref x0), (1, .ref x1), (2, .int x2), (3, .int x3)] [] s (some (.int w.1), w.2)
  refine R_aload DX8_landing_0 1 rfl ?_
  refine R_iload DX8_landing_1 2 rfl ?_
  refine R_iload DX8_landing_2 3 rfl ?_
  obtain ⟨r1, er1, h⟩ := bind_some h
  refine R_cV1 [.int x2, .int x3] DX8_landing_3 kzvX7_columnBehind ml_RX8_175 ⟨Nat.le_of_ble_eq_true rfl, Nat.le_of_ble_eq_true rfl⟩ rfl (Nat.le_of_ble_eq_true rfl) (kX7_columnBehind er1) ?_
  refine R_istore [(4, .int r1.1), (0, .ref x0), (1, .ref x1), (2, .int x2), (3, .int x3)] DX8_landing_6 (by decide) rfl ?_
  refine R_iload DX8_landing_8 4 rfl ?_
  refine R_constI DX8_landing_9 ci_1 ?_
  refine R_iadd DX8_landing_10 ?_
  obtain ⟨z2, ez2, h⟩ := lt_some h
  refine R_istoreE ez2 [(5, .int z2), (4, .int r1.1), (0, .ref x0), (1, .ref x1), (2, .int x2), (3, .int x3)] DX8_landing_11 (by decide) rfl ?_
  refine R_aload DX8_landing_13 3 rfl ?_
  refine R_iload DX8_landing_14 4 rfl ?_
  refine R_iload DX8_landing_15 5 rfl ?_
  refine R_constI DX8_landing_16 ci_2 ?_
  obtain ⟨r3, er3, h⟩ := bind_some h
  refine R_cV1 [.int x2, .int x3, .int (iI 2)] DX8_landing_17 kzvX7_factBehind ml_RX8_150 ⟨Nat.le_of_ble_eq_true rfl, Nat.le_of_ble_eq_true rfl⟩ rfl (Nat.le_of_ble_eq_true rfl) (kX7_factBehind er3) ?_
  refine R_istore [(6, .int r3.1), (5, .int z2), (4, .int r1.1), (0, .ref x0), (1, .ref x1), (2, .int x2), (3, .int x3)] DX8_landing_20 (by decide) rfl ?_
  refine R.sub (L' := [(0, .ref x0), (4, .int r1.1), (5, .int z2), (6, .int r3.1)]) [3, 2, 1, 0] rfl ?_
  obtain ⟨r12, hi, h⟩ := bind_some h
  have hE : (Sum.elim (fun u22 : Int32 × Hp => R G MX8_landing 72 [(4, .int u22.1)] [] u22.2 (some (.int w.1), w.2)) (fun u22 : Hp => R G MX8_landing 39 [] [] u22 (some (.int w.1), w.2))) r12 → ∀ (q4 : Int32) (q5 : Int32) (q6 : Int32) (qs : Hp), iter (fX8_landing_l22 x0) FU (q4, q5, q6, qs) = some r12 → R G MX8_landing 22 [(0, .ref x0), (4, .int q4), (5, .int q5), (6, .int q6)] [] qs (some (.int w.1), w.2) := fun hX q4 q5 q6 qs hj => loop_R (fX8_landing_l22 x0) (fun p22 : Int32 × Int32 × Int32 × Hp => R G MX8_landing 22 [(0, .ref x0), (4, .int p22.1), (5, .int p22.2.1), (6, .int p22.2.2.1)] [] p22.2.2.2 (some (.int w.1), w.2)) (Sum.elim (fun u22 : Int32 × Hp => R G MX8_landing 72 [(4, .int u22.1)] [] u22.2 (some (.int w.1), w.2)) (fun u22 : Hp => R G MX8_landing 39 [] [] u22 (some (.int w.1), w.2))) (fun a w hw hc he => tX8_landing_l22 hw (fun q4 q5 q6 qs e => hc (q4, q5, q6, qs) e) (fun q4 qs e => he (.inl (q4, qs)) e) (fun qs e => he (.inr qs) e)) FU (q4, q5, q6, qs) r12 hj hX
  refine hE ?_ _ _ _ _ hi
  clear hE hi
  rcases r12 with r12a | r12b
  · replace h := el_l h
    refine R_iload DX8_landing_72 0 rfl ?_
    cases h
    exact R_ireturn rfl DX8_landing_74
  replace h := el_r h
  refine R_constI DX8_landing_39 ci_m1 ?_
  cases h
  exact R_ireturn rfl DX8_landing_40
set_option maxRecDepth 8000 in
theorem kX8_hundredfold {G : Gm} {x0 : Int32} {s : Hp} {w : Int32 × Hp} (h : fX8_hundredfold x0 s = some w) : Call G MX8_hundredfold [.int x0] s (some (.int w.1), w.2) := by
  unfold fX8_hundredfold at h
  refine Call.of_R pnRX8 (Nat.le_of_ble_eq_true rfl) ?_
  show R G MX8_hundredfold 0 [(0, .int x0)] [] s (some (.int w.1), w.2)
  refine R_constI DX8_hundredfold_0 ci_100 ?_
  refine R_iload DX8_hundredfold_2 0 rfl ?_
  obtain ⟨r1, er1, h⟩ := bind_some h
  refine R_cS1 [.int x0] DX8_hundredfold_3 kzsX8_xOf ml_RX8_437 ⟨Nat.le_of_ble_eq_true rfl, Nat.le_of_ble_eq_true rfl⟩ rfl (Nat.le_of_ble_eq_true rfl) (kX8_xOf er1) ?_
  refine R_imul DX8_hundredfold_6 ?_
  refine R_iload DX8_hundredfold_7 0 rfl ?_
  obtain ⟨r2, er2, h⟩ := bind_some h
  refine R_cS1 [.int x0] DX8_hundredfold_8 kzsX8_yOf ml_RX8_440 ⟨Nat.le_of_ble_eq_true rfl, Nat.le_of_ble_eq_true rfl⟩ rfl (Nat.le_of_ble_eq_true rfl) (kX8_yOf er2) ?_
  refine R_iadd DX8_hundredfold_11 ?_
  cases h
  exact R_ireturn rfl DX8_hundredfold_12
set_option maxRecDepth 8000 in
theorem kX8_lands {G : Gm} {x0 : Nat} {x1 : Int32} {x2 : Int32} {s : Hp} {w : Int32 × Hp} (h : fX8_lands x0 x1 x2 s = some w) : (s.2.2 x0).1 = 8 ∧ Call G MX8_lands [.ref x0, .int x1, .int x2] s (some (.int w.1), w.2) := by
  unfold fX8_lands at h
  obtain ⟨_, e0, h⟩ := bind_some h
  refine ⟨ck_some e0, Call.of_R pnRX8 (Nat.le_of_ble_eq_true rfl) ?_⟩
  clear e0
  show R G MX8_lands 0 [(0, .ref x0), (1, .int x1), (2, .int x2)] [] s (some (.int w.1), w.2)
  refine R_aload DX8_lands_0 0 rfl ?_
  refine R_iload DX8_lands_1 1 rfl ?_
  refine R_iload DX8_lands_2 2 rfl ?_
  obtain ⟨r1, er1, h⟩ := bind_some h
  refine R_cV1 [.int x1, .int x2] DX8_lands_3 kzvX8_hasShopHour ml_RX8_119 ⟨Nat.le_of_ble_eq_true rfl, Nat.le_of_ble_eq_true rfl⟩ rfl (Nat.le_of_ble_eq_true rfl) (kX8_hasShopHour er1) ?_
  by_cases c2 : r1.1 = 0
  · replace h := if_t h c2
    refine R_if_ne_f DX8_lands_6 c2 ?_
    refine R_constI DX8_lands_9 ci_m2 ?_
    cases h
    exact R_ireturn rfl DX8_lands_11
  · replace h := if_f h c2
    refine R_if_ne_t DX8_lands_6 c2 ?_
    refine R_aload DX8_lands_12 0 rfl ?_
    refine R_aload DX8_lands_13 0 rfl ?_
    obtain ⟨r3, er3, h⟩ := bind_some h
    refine R_cV1 [] DX8_lands_14 kzvX8_flown ml_RX8_108 ⟨Nat.le_of_ble_eq_true rfl, Nat.le_of_ble_eq_true rfl⟩ rfl (Nat.le_of_ble_eq_true rfl) (kX8_flown er3) ?_
    refine R_iload DX8_lands_17 1 rfl ?_
    refine R_iload DX8_lands_18 2 rfl ?_
    obtain ⟨r4, er4, h⟩ := bind_some h
    refine R_cV1 [.ref r3.1, .int x1, .int x2] DX8_lands_19 kzvX8_landing ml_RX8_276 ⟨Nat.le_of_ble_eq_true rfl, Nat.le_of_ble_eq_true rfl⟩ rfl (Nat.le_of_ble_eq_true rfl) (kX8_landing er4) ?_
    refine R_istore [(3, .int r4.1), (0, .ref x0), (1, .int x1), (2, .int x2)] DX8_lands_22 (by decide) rfl ?_
    refine R_iload DX8_lands_23 0 rfl ?_
    refine R_constI DX8_lands_24 ci_m1 ?_
    by_cases c5 : r4.1 = (iI (-1))
    · replace h := if_t h c5
      refine R_icmp_ne_f DX8_lands_25 c5 ?_
      refine R_constI DX8_lands_28 ci_m1 ?_
      refine R_goto DX8_lands_29 ?_
      cases h
      exact R_ireturn rfl DX8_lands_36
    · replace h := if_f h c5
      refine R_icmp_ne_t DX8_lands_25 c5 ?_
      refine R_iload DX8_lands_32 0 rfl ?_
      obtain ⟨r6, er6, h⟩ := bind_some h
      refine R_cS1 [.int r4.1] DX8_lands_33 kzsX8_hundredfold ml_RX8_280 ⟨Nat.le_of_ble_eq_true rfl, Nat.le_of_ble_eq_true rfl⟩ rfl (Nat.le_of_ble_eq_true rfl) (kX8_hundredfold er6) ?_
      cases h
      exact R_ireturn rfl DX8_lands_36
set_option maxRecDepth 8000 in
theorem tX8_dropsTo_b26 {G : Gm} {s : Hp} {w : Int32 × Hp} (h : fX8_dropsTo_b26 s = some w) : R G MX8_dropsTo 26 [] [] s (some (.int w.1), w.2) := by
  unfold fX8_dropsTo_b26 at h
  refine R_constI DX8_dropsTo_26 ci_0 ?_
  cases h
  exact R_zreturn rfl DX8_dropsTo_27 (by decide)
set_option maxRecDepth 8000 in
theorem kX8_dropsTo {G : Gm} {x0 : Nat} {x1 : Nat} {x2 : Int32} {x3 : Int32} {x4 : Int32} {s : Hp} {w : Int32 × Hp} (h : fX8_dropsTo x0 x1 x2 x3 x4 s = some w) : (s.2.2 x0).1 = 8 ∧ Call G MX8_dropsTo [.ref x0, .ref x1, .int x2, .int x3, .int x4] s (some (.int w.1), w.2) := by
  unfold fX8_dropsTo at h
  obtain ⟨_, e0, h⟩ := bind_some h
  refine ⟨ck_some e0, Call.of_R pnRX8 (Nat.le_of_ble_eq_true rfl) ?_⟩
  clear e0
  show R G MX8_dropsTo 0 [(0, .ref x0), (1, .ref x1), (2, .int x2), (3, .int x3), (4, .int x4)] [] s (some (.int w.1), w.2)
  refine R_aload DX8_dropsTo_0 1 rfl ?_
  refine R_iload DX8_dropsTo_1 2 rfl ?_
  refine R_iload DX8_dropsTo_2 3 rfl ?_
  refine R_constI DX8_dropsTo_3 ci_2 ?_
  obtain ⟨r1, er1, h⟩ := bind_some h
  refine R_cV1 [.int x2, .int x3, .int (iI 2)] DX8_dropsTo_4 kzvX7_factBehind ml_RX8_150 ⟨Nat.le_of_ble_eq_true rfl, Nat.le_of_ble_eq_true rfl⟩ rfl (Nat.le_of_ble_eq_true rfl) (kX7_factBehind er1) ?_
  by_cases c2 : r1.1 ≤ 0
  · replace h := if_t h c2
    refine R_if_le_t DX8_dropsTo_7 c2 ?_
    refine R.sub (L' := []) [] rfl ?_
    exact tX8_dropsTo_b26 h
  · replace h := if_f h c2
    refine R_if_le_f DX8_dropsTo_7 c2 ?_
    refine R_aload DX8_dropsTo_10 0 rfl ?_
    refine R_aload DX8_dropsTo_11 1 rfl ?_
    refine R_iload DX8_dropsTo_12 2 rfl ?_
    refine R_iload DX8_dropsTo_13 3 rfl ?_
    obtain ⟨r3, er3, h⟩ := bind_some h
    refine R_cV1 [.ref x1, .int x2, .int x3] DX8_dropsTo_14 kzvX8_landing ml_RX8_276 ⟨Nat.le_of_ble_eq_true rfl, Nat.le_of_ble_eq_true rfl⟩ rfl (Nat.le_of_ble_eq_true rfl) (kX8_landing er3) ?_
    refine R_iload DX8_dropsTo_17 4 rfl ?_
    by_cases c4 : r3.1 = x4
    · replace h := if_t h c4
      refine R_icmp_ne_f DX8_dropsTo_19 c4 ?_
      refine R_constI DX8_dropsTo_22 ci_1 ?_
      refine R_goto DX8_dropsTo_23 ?_
      cases h
      exact R_zreturn rfl DX8_dropsTo_27 (by decide)
    · replace h := if_f h c4
      refine R_icmp_ne_t DX8_dropsTo_19 c4 ?_
      refine R.sub (L' := []) [] rfl ?_
      exact tX8_dropsTo_b26 h
set_option maxRecDepth 8000 in
theorem tX8_who_b77 {G : Gm} {x0 : Nat} {x1 : Int32} {x2 : Int32} {x3 : Nat} {x5 : Int32} {x6 : Int32} {y0 : Int32} {y1 : Int32} {s : Hp} {o : Option Value × Hp} {w : (Int32 × Int32 × Hp) ⊕ ((Int32 × Hp))} (h : fX8_who_b77 x0 x1 x2 x3 x5 x6 y0 y1 s = some w) (hc : ∀ (q4 : Int32) (q6 : Int32) (qs : Hp), w = .inl (q4, q6, qs) → R G MX8_who 41 [(0, .ref x0), (1, .int x1), (2, .int x2), (3, .ref x3), (4, .int q4), (5, .int x5), (6, .int q6)] [] qs o) (he0 : ∀ (q4 : Int32) (qs : Hp), w = .inr (q4, qs) → R G MX8_who 86 [(0, .ref x0), (1, .int x1), (2, .int x2), (3, .ref x3), (4, .int q4), (5, .int x5)] [] qs o) : R G MX8_who 77 [(0, .ref x0), (1, .int x1), (2, .int x2), (3, .ref x3), (5, .int x5), (6, .int x6)] [.int y1, .int y0] s o := by
  unfold fX8_who_b77 at h
  refine R_iadd DX8_who_77 ?_
  obtain ⟨z14, ez14, h⟩ := lt_some h
  refine R_istoreE ez14 [(4, .int z14), (0, .ref x0), (1, .int x1), (2, .int x2), (3, .ref x3), (5, .int x5), (6, .int x6)] DX8_who_78 (by decide) rfl ?_
  refine R_iinc [(6, .int (x6 + iI 1)), (4, .int z14), (0, .ref x0), (1, .int x1), (2, .int x2), (3, .ref x3), (5, .int x5)] DX8_who_80 6 rfl (v := x6 + iI 1) (by rfl) (by decide) rfl ?_
  refine R_goto DX8_who_83 ?_
  refine R.sub (L' := [(0, .ref x0), (1, .int x1), (2, .int x2), (3, .ref x3), (4, .int z14), (5, .int x5), (6, .int (x6 + iI 1))]) [2, 3, 4, 5, 1, 6, 0] rfl ?_
  cases h
  exact hc _ _ _ rfl
set_option maxRecDepth 8000 in
theorem tX8_who_l41 {G : Gm} {x0 : Nat} {x1 : Int32} {x2 : Int32} {x3 : Nat} {x5 : Int32} {o : Option Value × Hp} {a : Int32 × Int32 × Hp} {w : (Int32 × Int32 × Hp) ⊕ ((Int32 × Hp))} (h : fX8_who_l41 x0 x1 x2 x3 x5 a = some w) (hc : ∀ (q4 : Int32) (q6 : Int32) (qs : Hp), w = .inl (q4, q6, qs) → R G MX8_who 41 [(0, .ref x0), (1, .int x1), (2, .int x2), (3, .ref x3), (4, .int q4), (5, .int x5), (6, .int q6)] [] qs o) (he0 : ∀ (q4 : Int32) (qs : Hp), w = .inr (q4, qs) → R G MX8_who 86 [(0, .ref x0), (1, .int x1), (2, .int x2), (3, .ref x3), (4, .int q4), (5, .int x5)] [] qs o) : R G MX8_who 41 [(0, .ref x0), (1, .int x1), (2, .int x2), (3, .ref x3), (4, .int a.1), (5, .int x5), (6, .int a.2.1)] [] a.2.2 o := by
  unfold fX8_who_l41 at h
  refine R_iload DX8_who_41 6 rfl ?_
  refine R_aload DX8_who_43 0 rfl ?_
  obtain ⟨v8, ev8, h⟩ := bind_some h
  refine R_gR DX8_who_44 fl_RX8_47 ev8 ?_
  obtain ⟨v9, ev9, h⟩ := bind_some h
  refine R_gI DX8_who_47 fl_RX8_96 ev9 ?_
  by_cases c10 : v9 ≤ a.2.1
  · replace h := if_t h c10
    refine R_icmp_ge_t DX8_who_50 c10 ?_
    refine R.sub (L' := [(0, .ref x0), (1, .int x1), (2, .int x2), (3, .ref x3), (4, .int a.1), (5, .int x5)]) [0, 1, 2, 3, 4, 5] rfl ?_
    cases h
    exact he0 _ _ rfl
  · replace h := if_f h c10
    refine R_icmp_ge_f DX8_who_50 c10 ?_
    refine R_iload DX8_who_53 4 rfl ?_
    refine R_aload DX8_who_55 0 rfl ?_
    refine R_aload DX8_who_56 3 rfl ?_
    refine R_iload DX8_who_57 5 rfl ?_
    refine R_iload DX8_who_59 6 rfl ?_
    refine R_iload DX8_who_61 1 rfl ?_
    refine R_iload DX8_who_62 2 rfl ?_
    obtain ⟨r11, er11, h⟩ := bind_some h
    refine R_cS1 [.int x1, .int x2] DX8_who_63 kzsX8_columnOf ml_RX8_181 ⟨Nat.le_of_ble_eq_true rfl, Nat.le_of_ble_eq_true rfl⟩ rfl (Nat.le_of_ble_eq_true rfl) (kX8_columnOf er11) ?_
    obtain ⟨r12, er12, h⟩ := bind_some h
    refine R_cV1 [.ref x3, .int x5, .int a.2.1, .int r11.1] DX8_who_66 kzvX8_dropsTo ml_RX8_283 ⟨Nat.le_of_ble_eq_true rfl, Nat.le_of_ble_eq_true rfl⟩ rfl (Nat.le_of_ble_eq_true rfl) (kX8_dropsTo er12) ?_
    by_cases c13 : r12.1 = 0
    · replace h := if_t h c13
      refine R_if_eq_t DX8_who_69 c13 ?_
      refine R_constI DX8_who_76 ci_0 ?_
      refine R.sub (L' := [(0, .ref x0), (1, .int x1), (2, .int x2), (3, .ref x3), (5, .int x5), (6, .int a.2.1)]) [0, 1, 2, 3, 5, 6] rfl ?_
      exact tX8_who_b77 h hc he0
    · replace h := if_f h c13
      refine R_if_eq_f DX8_who_69 c13 ?_
      refine R_constI DX8_who_72 ci_1 ?_
      refine R_goto DX8_who_73 ?_
      refine R.sub (L' := [(0, .ref x0), (1, .int x1), (2, .int x2), (3, .ref x3), (5, .int x5), (6, .int a.2.1)]) [0, 1, 2, 3, 5, 6] rfl ?_
      exact tX8_who_b77 h hc he0
set_option maxRecDepth 8000 in
theorem tX8_who_l26 {G : Gm} {x0 : Nat} {x1 : Int32} {x2 : Int32} {x3 : Nat} {o : Option Value × Hp} {a : Int32 × Int32 × Hp} {w : (Int32 × Int32 × Hp) ⊕ ((Int32 × Hp))} (h : fX8_who_l26 x0 x1 x2 x3 a = some w) (hc : ∀ (q4 : Int32) (q5 : Int32) (qs : Hp), w = .inl (q4, q5, qs) → R G MX8_who 26 [(0, .ref x0), (1, .int x1), (2, .int x2), (3, .ref x3), (4, .int q4), (5, .int q5)] [] qs o) (he0 : ∀ (q4 : Int32) (qs : Hp), w = .inr (q4, qs) → R G MX8_who 92 [(4, .int q4)] [] qs o) : R G MX8_who 26 [(0, .ref x0), (1, .int x1), (2, .int x2), (3, .ref x3), (4, .int a.1), (5, .int a.2.1)] [] a.2.2 o := by
  unfold fX8_who_l26 at h
  refine R_iload DX8_who_26 5 rfl ?_
  refine R_aload DX8_who_28 0 rfl ?_
  obtain ⟨v5, ev5, h⟩ := bind_some h
  refine R_gR DX8_who_29 fl_RX8_47 ev5 ?_
  obtain ⟨v6, ev6, h⟩ := bind_some h
  refine R_gI DX8_who_32 fl_RX8_166 ev6 ?_
  by_cases c7 : v6 ≤ a.2.1
  · replace h := if_t h c7
    refine R_icmp_ge_t DX8_who_35 c7 ?_
    refine R.sub (L' := [(4, .int a.1)]) [4] rfl ?_
    cases h
    exact he0 _ _ rfl
  · replace h := if_f h c7
    refine R_icmp_ge_f DX8_who_35 c7 ?_
    refine R_constI DX8_who_38 ci_0 ?_
    refine R_istore [(6, .int (iI 0)), (0, .ref x0), (1, .int x1), (2, .int x2), (3, .ref x3), (4, .int a.1), (5, .int a.2.1)] DX8_who_39 (by decide) rfl ?_
    refine R.sub (L' := [(0, .ref x0), (1, .int x1), (2, .int x2), (3, .ref x3), (4, .int a.1), (5, .int a.2.1), (6, .int (iI 0))]) [1, 2, 3, 4, 5, 6, 0] rfl ?_
    obtain ⟨r15, hi, h⟩ := bind_some h
    have hE : (fun u41 : Int32 × Hp => R G MX8_who 86 [(0, .ref x0), (1, .int x1), (2, .int x2), (3, .ref x3), (4, .int u41.1), (5, .int a.2.1)] [] u41.2 o) r15 → ∀ (q4 : Int32) (q6 : Int32) (qs : Hp), iter (fX8_who_l41 x0 x1 x2 x3 a.2.1) FU (q4, q6, qs) = some r15 → R G MX8_who 41 [(0, .ref x0), (1, .int x1), (2, .int x2), (3, .ref x3), (4, .int q4), (5, .int a.2.1), (6, .int q6)] [] qs o := fun hX q4 q6 qs hj => loop_R (fX8_who_l41 x0 x1 x2 x3 a.2.1) (fun p41 : Int32 × Int32 × Hp => R G MX8_who 41 [(0, .ref x0), (1, .int x1), (2, .int x2), (3, .ref x3), (4, .int p41.1), (5, .int a.2.1), (6, .int p41.2.1)] [] p41.2.2 o) (fun u41 : Int32 × Hp => R G MX8_who 86 [(0, .ref x0), (1, .int x1), (2, .int x2), (3, .ref x3), (4, .int u41.1), (5, .int a.2.1)] [] u41.2 o) (fun a w hw hc he => tX8_who_l41 hw (fun q4 q6 qs e => hc (q4, q6, qs) e) (fun q4 qs e => he (q4, qs) e)) FU (q4, q6, qs) r15 hj hX
    refine hE ?_ _ _ _ hi
    clear hE hi
    refine R_iinc [(5, .int (a.2.1 + iI 1)), (0, .ref x0), (1, .int x1), (2, .int x2), (3, .ref x3), (4, .int r15.1)] DX8_who_86 5 rfl (v := a.2.1 + iI 1) (by rfl) (by decide) rfl ?_
    refine R_goto DX8_who_89 ?_
    refine R.sub (L' := [(0, .ref x0), (1, .int x1), (2, .int x2), (3, .ref x3), (4, .int r15.1), (5, .int (a.2.1 + iI 1))]) [1, 2, 3, 4, 5, 0] rfl ?_
    cases h
    exact hc _ _ _ rfl
set_option maxRecDepth 8000 in
theorem kX8_who {G : Gm} {x0 : Nat} {x1 : Int32} {x2 : Int32} {s : Hp} {w : Int32 × Hp} (h : fX8_who x0 x1 x2 s = some w) : (s.2.2 x0).1 = 8 ∧ Call G MX8_who [.ref x0, .int x1, .int x2] s (some (.int w.1), w.2) := by
  unfold fX8_who at h
  obtain ⟨_, e0, h⟩ := bind_some h
  refine ⟨ck_some e0, Call.of_R pnRX8 (Nat.le_of_ble_eq_true rfl) ?_⟩
  clear e0
  show R G MX8_who 0 [(0, .ref x0), (1, .int x1), (2, .int x2)] [] s (some (.int w.1), w.2)
  refine R_aload DX8_who_0 0 rfl ?_
  obtain ⟨v1, ev1, h⟩ := bind_some h
  refine R_gR DX8_who_1 fl_RX8_47 ev1 ?_
  refine R_iload DX8_who_4 1 rfl ?_
  refine R_iload DX8_who_5 2 rfl ?_
  obtain ⟨r2, er2, h⟩ := bind_some h
  refine R_cV1 [.int x1, .int x2] DX8_who_6 kzvX6_hasColumn ml_RX8_178 ⟨Nat.le_of_ble_eq_true rfl, Nat.le_of_ble_eq_true rfl⟩ rfl (Nat.le_of_ble_eq_true rfl) (kX6_hasColumn er2) ?_
  by_cases c3 : r2.1 = 0
  · replace h := if_t h c3
    refine R_if_ne_f DX8_who_9 c3 ?_
    refine R_constI DX8_who_12 ci_m2 ?_
    cases h
    exact R_ireturn rfl DX8_who_14
  · replace h := if_f h c3
    refine R_if_ne_t DX8_who_9 c3 ?_
    refine R_aload DX8_who_15 0 rfl ?_
    obtain ⟨r4, er4, h⟩ := bind_some h
    refine R_cV1 [] DX8_who_16 kzvX8_flown ml_RX8_108 ⟨Nat.le_of_ble_eq_true rfl, Nat.le_of_ble_eq_true rfl⟩ rfl (Nat.le_of_ble_eq_true rfl) (kX8_flown er4) ?_
    refine R_astore [(3, .ref r4.1), (0, .ref x0), (1, .int x1), (2, .int x2)] DX8_who_19 (by decide) rfl ?_
    refine R_constI DX8_who_20 ci_0 ?_
    refine R_istore [(4, .int (iI 0)), (3, .ref r4.1), (0, .ref x0), (1, .int x1), (2, .int x2)] DX8_who_21 (by decide) rfl ?_
    refine R_constI DX8_who_23 ci_0 ?_
    refine R_istore [(5, .int (iI 0)), (4, .int (iI 0)), (3, .ref r4.1), (0, .ref x0), (1, .int x1), (2, .int x2)] DX8_who_24 (by decide) rfl ?_
    refine R.sub (L' := [(0, .ref x0), (1, .int x1), (2, .int x2), (3, .ref r4.1), (4, .int (iI 0)), (5, .int (iI 0))]) [3, 4, 5, 2, 1, 0] rfl ?_
    obtain ⟨r16, hi, h⟩ := bind_some h
    have hE : (fun u26 : Int32 × Hp => R G MX8_who 92 [(4, .int u26.1)] [] u26.2 (some (.int w.1), w.2)) r16 → ∀ (q4 : Int32) (q5 : Int32) (qs : Hp), iter (fX8_who_l26 x0 x1 x2 r4.1) FU (q4, q5, qs) = some r16 → R G MX8_who 26 [(0, .ref x0), (1, .int x1), (2, .int x2), (3, .ref r4.1), (4, .int q4), (5, .int q5)] [] qs (some (.int w.1), w.2) := fun hX q4 q5 qs hj => loop_R (fX8_who_l26 x0 x1 x2 r4.1) (fun p26 : Int32 × Int32 × Hp => R G MX8_who 26 [(0, .ref x0), (1, .int x1), (2, .int x2), (3, .ref r4.1), (4, .int p26.1), (5, .int p26.2.1)] [] p26.2.2 (some (.int w.1), w.2)) (fun u26 : Int32 × Hp => R G MX8_who 92 [(4, .int u26.1)] [] u26.2 (some (.int w.1), w.2)) (fun a w hw hc he => tX8_who_l26 hw (fun q4 q5 qs e => hc (q4, q5, qs) e) (fun q4 qs e => he (q4, qs) e)) FU (q4, q5, qs) r16 hj hX
    refine hE ?_ _ _ _ hi
    clear hE hi
    refine R_iload DX8_who_92 0 rfl ?_
    cases h
    exact R_ireturn rfl DX8_who_94
set_option maxRecDepth 8000 in
theorem tX8_first_l38 {G : Gm} {x0 : Nat} {x1 : Int32} {x2 : Int32} {x3 : Nat} {x4 : Int32} {o : Option Value × Hp} {a : Int32 × Hp} {w : (Int32 × Hp) ⊕ ((Hp) ⊕ (Int32 × Hp))} (h : fX8_first_l38 x0 x1 x2 x3 x4 a = some w) (hc : ∀ (q5 : Int32) (qs : Hp), w = .inl (q5, qs) → R G MX8_first 38 [(0, .ref x0), (1, .int x1), (2, .int x2), (3, .ref x3), (4, .int x4), (5, .int q5)] [] qs o) (he0 : ∀ (qs : Hp), w = .inr (.inl qs) → R G MX8_first 82 [(0, .ref x0), (1, .int x1), (2, .int x2), (3, .ref x3), (4, .int x4)] [] qs o) (he1 : ∀ (q5 : Int32) (qs : Hp), w = .inr (.inr (q5, qs)) → R G MX8_first 67 [(4, .int x4), (5, .int q5)] [] qs o) : R G MX8_first 38 [(0, .ref x0), (1, .int x1), (2, .int x2), (3, .ref x3), (4, .int x4), (5, .int a.1)] [] a.2 o := by
  unfold fX8_first_l38 at h
  refine R_iload DX8_first_38 5 rfl ?_
  refine R_aload DX8_first_40 0 rfl ?_
  obtain ⟨v8, ev8, h⟩ := bind_some h
  refine R_gR DX8_first_41 fl_RX8_47 ev8 ?_
  obtain ⟨v9, ev9, h⟩ := bind_some h
  refine R_gI DX8_first_44 fl_RX8_96 ev9 ?_
  by_cases c10 : v9 ≤ a.1
  · replace h := if_t h c10
    refine R_icmp_ge_t DX8_first_47 c10 ?_
    refine R.sub (L' := [(0, .ref x0), (1, .int x1), (2, .int x2), (3, .ref x3), (4, .int x4)]) [0, 1, 2, 3, 4] rfl ?_
    cases h
    exact he0 _ rfl
  · replace h := if_f h c10
    refine R_icmp_ge_f DX8_first_47 c10 ?_
    refine R_aload DX8_first_50 0 rfl ?_
    refine R_aload DX8_first_51 3 rfl ?_
    refine R_iload DX8_first_52 4 rfl ?_
    refine R_iload DX8_first_54 5 rfl ?_
    refine R_iload DX8_first_56 1 rfl ?_
    refine R_iload DX8_first_57 2 rfl ?_
    obtain ⟨r11, er11, h⟩ := bind_some h
    refine R_cS1 [.int x1, .int x2] DX8_first_58 kzsX8_columnOf ml_RX8_181 ⟨Nat.le_of_ble_eq_true rfl, Nat.le_of_ble_eq_true rfl⟩ rfl (Nat.le_of_ble_eq_true rfl) (kX8_columnOf er11) ?_
    obtain ⟨r12, er12, h⟩ := bind_some h
    refine R_cV1 [.ref x3, .int x4, .int a.1, .int r11.1] DX8_first_61 kzvX8_dropsTo ml_RX8_283 ⟨Nat.le_of_ble_eq_true rfl, Nat.le_of_ble_eq_true rfl⟩ rfl (Nat.le_of_ble_eq_true rfl) (kX8_dropsTo er12) ?_
    by_cases c13 : r12.1 = 0
    · replace h := if_t h c13
      refine R_if_eq_t DX8_first_64 c13 ?_
      refine R_iinc [(5, .int (a.1 + iI 1)), (0, .ref x0), (1, .int x1), (2, .int x2), (3, .ref x3), (4, .int x4)] DX8_first_76 5 rfl (v := a.1 + iI 1) (by rfl) (by decide) rfl ?_
      refine R_goto DX8_first_79 ?_
      refine R.sub (L' := [(0, .ref x0), (1, .int x1), (2, .int x2), (3, .ref x3), (4, .int x4), (5, .int (a.1 + iI 1))]) [1, 2, 3, 4, 5, 0] rfl ?_
      cases h
      exact hc _ _ rfl
    · replace h := if_f h c13
      refine R_if_eq_f DX8_first_64 c13 ?_
      refine R.sub (L' := [(4, .int x4), (5, .int a.1)]) [4, 5] rfl ?_
      cases h
      exact he1 _ _ rfl
set_option maxRecDepth 8000 in
theorem tX8_first_l23 {G : Gm} {x0 : Nat} {x1 : Int32} {x2 : Int32} {x3 : Nat} {o : Option Value × Hp} {a : Int32 × Hp} {w : (Int32 × Hp) ⊕ ((Hp) ⊕ (Int32 × Int32 × Hp))} (h : fX8_first_l23 x0 x1 x2 x3 a = some w) (hc : ∀ (q4 : Int32) (qs : Hp), w = .inl (q4, qs) → R G MX8_first 23 [(0, .ref x0), (1, .int x1), (2, .int x2), (3, .ref x3), (4, .int q4)] [] qs o) (he0 : ∀ (qs : Hp), w = .inr (.inl qs) → R G MX8_first 88 [] [] qs o) (he1 : ∀ (q4 : Int32) (q5 : Int32) (qs : Hp), w = .inr (.inr (q4, q5, qs)) → R G MX8_first 67 [(4, .int q4), (5, .int q5)] [] qs o) : R G MX8_first 23 [(0, .ref x0), (1, .int x1), (2, .int x2), (3, .ref x3), (4, .int a.1)] [] a.2 o := by
  unfold fX8_first_l23 at h
  refine R_iload DX8_first_23 4 rfl ?_
  refine R_aload DX8_first_25 0 rfl ?_
  obtain ⟨v5, ev5, h⟩ := bind_some h
  refine R_gR DX8_first_26 fl_RX8_47 ev5 ?_
  obtain ⟨v6, ev6, h⟩ := bind_some h
  refine R_gI DX8_first_29 fl_RX8_166 ev6 ?_
  by_cases c7 : v6 ≤ a.1
  · replace h := if_t h c7
    refine R_icmp_ge_t DX8_first_32 c7 ?_
    refine R.sub (L' := []) [] rfl ?_
    cases h
    exact he0 _ rfl
  · replace h := if_f h c7
    refine R_icmp_ge_f DX8_first_32 c7 ?_
    refine R_constI DX8_first_35 ci_0 ?_
    refine R_istore [(5, .int (iI 0)), (0, .ref x0), (1, .int x1), (2, .int x2), (3, .ref x3), (4, .int a.1)] DX8_first_36 (by decide) rfl ?_
    refine R.sub (L' := [(0, .ref x0), (1, .int x1), (2, .int x2), (3, .ref x3), (4, .int a.1), (5, .int (iI 0))]) [1, 2, 3, 4, 5, 0] rfl ?_
    obtain ⟨r14, hi, h⟩ := bind_some h
    have hE : (Sum.elim (fun u38 : Hp => R G MX8_first 82 [(0, .ref x0), (1, .int x1), (2, .int x2), (3, .ref x3), (4, .int a.1)] [] u38 o) (fun u38 : Int32 × Hp => R G MX8_first 67 [(4, .int a.1), (5, .int u38.1)] [] u38.2 o)) r14 → ∀ (q5 : Int32) (qs : Hp), iter (fX8_first_l38 x0 x1 x2 x3 a.1) FU (q5, qs) = some r14 → R G MX8_first 38 [(0, .ref x0), (1, .int x1), (2, .int x2), (3, .ref x3), (4, .int a.1), (5, .int q5)] [] qs o := fun hX q5 qs hj => loop_R (fX8_first_l38 x0 x1 x2 x3 a.1) (fun p38 : Int32 × Hp => R G MX8_first 38 [(0, .ref x0), (1, .int x1), (2, .int x2), (3, .ref x3), (4, .int a.1), (5, .int p38.1)] [] p38.2 o) (Sum.elim (fun u38 : Hp => R G MX8_first 82 [(0, .ref x0), (1, .int x1), (2, .int x2), (3, .ref x3), (4, .int a.1)] [] u38 o) (fun u38 : Int32 × Hp => R G MX8_first 67 [(4, .int a.1), (5, .int u38.1)] [] u38.2 o)) (fun a w hw hc he => tX8_first_l38 hw (fun q5 qs e => hc (q5, qs) e) (fun qs e => he (.inl qs) e) (fun q5 qs e => he (.inr (q5, qs)) e)) FU (q5, qs) r14 hj hX
    refine hE ?_ _ _ hi
    clear hE hi
    rcases r14 with r14a | r14b
    · replace h := el_l h
      refine R_iinc [(4, .int (a.1 + iI 1)), (0, .ref x0), (1, .int x1), (2, .int x2), (3, .ref x3)] DX8_first_82 4 rfl (v := a.1 + iI 1) (by rfl) (by decide) rfl ?_
      refine R_goto DX8_first_85 ?_
      refine R.sub (L' := [(0, .ref x0), (1, .int x1), (2, .int x2), (3, .ref x3), (4, .int (a.1 + iI 1))]) [1, 2, 3, 4, 0] rfl ?_
      cases h
      exact hc _ _ rfl
    replace h := el_r h
    cases h
    exact he1 _ _ _ rfl
set_option maxRecDepth 8000 in
theorem kX8_first {G : Gm} {x0 : Nat} {x1 : Int32} {x2 : Int32} {s : Hp} {w : Int32 × Hp} (h : fX8_first x0 x1 x2 s = some w) : (s.2.2 x0).1 = 8 ∧ Call G MX8_first [.ref x0, .int x1, .int x2] s (some (.int w.1), w.2) := by
  unfold fX8_first at h
  obtain ⟨_, e0, h⟩ := bind_some h
  refine ⟨ck_some e0, Call.of_R pnRX8 (Nat.le_of_ble_eq_true rfl) ?_⟩
  clear e0
  show R G MX8_first 0 [(0, .ref x0), (1, .int x1), (2, .int x2)] [] s (some (.int w.1), w.2)
  refine R_aload DX8_first_0 0 rfl ?_
  obtain ⟨v1, ev1, h⟩ := bind_some h
  refine R_gR DX8_first_1 fl_RX8_47 ev1 ?_
  refine R_iload DX8_first_4 1 rfl ?_
  refine R_iload DX8_first_5 2 rfl ?_
  obtain ⟨r2, er2, h⟩ := bind_some h
  refine R_cV1 [.int x1, .int x2] DX8_first_6 kzvX6_hasColumn ml_RX8_178 ⟨Nat.le_of_ble_eq_true rfl, Nat.le_of_ble_eq_true rfl⟩ rfl (Nat.le_of_ble_eq_true rfl) (kX6_hasColumn er2) ?_
  by_cases c3 : r2.1 = 0
  · replace h := if_t h c3
    refine R_if_ne_f DX8_first_9 c3 ?_
    refine R_constI DX8_first_12 ci_m2 ?_
    cases h
    exact R_ireturn rfl DX8_first_14
  · replace h := if_f h c3
    refine R_if_ne_t DX8_first_9 c3 ?_
    refine R_aload DX8_first_15 0 rfl ?_
    obtain ⟨r4, er4, h⟩ := bind_some h
    refine R_cV1 [] DX8_first_16 kzvX8_flown ml_RX8_108 ⟨Nat.le_of_ble_eq_true rfl, Nat.le_of_ble_eq_true rfl⟩ rfl (Nat.le_of_ble_eq_true rfl) (kX8_flown er4) ?_
    refine R_astore [(3, .ref r4.1), (0, .ref x0), (1, .int x1), (2, .int x2)] DX8_first_19 (by decide) rfl ?_
    refine R_constI DX8_first_20 ci_0 ?_
    refine R_istore [(4, .int (iI 0)), (3, .ref r4.1), (0, .ref x0), (1, .int x1), (2, .int x2)] DX8_first_21 (by decide) rfl ?_
    refine R.sub (L' := [(0, .ref x0), (1, .int x1), (2, .int x2), (3, .ref r4.1), (4, .int (iI 0))]) [2, 3, 4, 1, 0] rfl ?_
    obtain ⟨r15, hi, h⟩ := bind_some h
    have hE : (Sum.elim (fun u23 : Hp => R G MX8_first 88 [] [] u23 (some (.int w.1), w.2)) (fun u23 : Int32 × Int32 × Hp => R G MX8_first 67 [(4, .int u23.1), (5, .int u23.2.1)] [] u23.2.2 (some (.int w.1), w.2))) r15 → ∀ (q4 : Int32) (qs : Hp), iter (fX8_first_l23 x0 x1 x2 r4.1) FU (q4, qs) = some r15 → R G MX8_first 23 [(0, .ref x0), (1, .int x1), (2, .int x2), (3, .ref r4.1), (4, .int q4)] [] qs (some (.int w.1), w.2) := fun hX q4 qs hj => loop_R (fX8_first_l23 x0 x1 x2 r4.1) (fun p23 : Int32 × Hp => R G MX8_first 23 [(0, .ref x0), (1, .int x1), (2, .int x2), (3, .ref r4.1), (4, .int p23.1)] [] p23.2 (some (.int w.1), w.2)) (Sum.elim (fun u23 : Hp => R G MX8_first 88 [] [] u23 (some (.int w.1), w.2)) (fun u23 : Int32 × Int32 × Hp => R G MX8_first 67 [(4, .int u23.1), (5, .int u23.2.1)] [] u23.2.2 (some (.int w.1), w.2))) (fun a w hw hc he => tX8_first_l23 hw (fun q4 qs e => hc (q4, qs) e) (fun qs e => he (.inl qs) e) (fun q4 q5 qs e => he (.inr (q4, q5, qs)) e)) FU (q4, qs) r15 hj hX
    refine hE ?_ _ _ hi
    clear hE hi
    rcases r15 with r15a | r15b
    · replace h := el_l h
      refine R_constI DX8_first_88 ci_m1 ?_
      cases h
      exact R_ireturn rfl DX8_first_89
    replace h := el_r h
    refine R_constI DX8_first_67 ci_100 ?_
    refine R_iload DX8_first_69 0 rfl ?_
    refine R_imul DX8_first_71 ?_
    refine R_iload DX8_first_72 1 rfl ?_
    refine R_iadd DX8_first_74 ?_
    cases h
    exact R_ireturn rfl DX8_first_75
set_option maxRecDepth 8000 in
theorem tX8_suspects_b79 {G : Gm} {x0 : Nat} {x1 : Int32} {x2 : Int32} {x3 : Nat} {x4 : Int32} {x5 : Int32} {x6 : Int32} {s : Hp} {o : Option Value × Hp} {w : (Int32 × Int32 × Hp) ⊕ ((Int32 × Hp))} (h : fX8_suspects_b79 x0 x1 x2 x3 x4 x5 x6 s = some w) (hc : ∀ (q4 : Int32) (q6 : Int32) (qs : Hp), w = .inl (q4, q6, qs) → R G MX8_suspects 41 [(0, .ref x0), (1, .int x1), (2, .int x2), (3, .ref x3), (4, .int q4), (5, .int x5), (6, .int q6)] [] qs o) (he0 : ∀ (q4 : Int32) (qs : Hp), w = .inr (q4, qs) → R G MX8_suspects 85 [(0, .ref x0), (1, .int x1), (2, .int x2), (3, .ref x3), (4, .int q4), (5, .int x5)] [] qs o) : R G MX8_suspects 79 [(0, .ref x0), (1, .int x1), (2, .int x2), (3, .ref x3), (4, .int x4), (5, .int x5), (6, .int x6)] [] s o := by
  unfold fX8_suspects_b79 at h
  refine R_iinc [(6, .int (x6 + iI 1)), (0, .ref x0), (1, .int x1), (2, .int x2), (3, .ref x3), (4, .int x4), (5, .int x5)] DX8_suspects_79 6 rfl (v := x6 + iI 1) (by rfl) (by decide) rfl ?_
  refine R_goto DX8_suspects_82 ?_
  refine R.sub (L' := [(0, .ref x0), (1, .int x1), (2, .int x2), (3, .ref x3), (4, .int x4), (5, .int x5), (6, .int (x6 + iI 1))]) [1, 2, 3, 4, 5, 6, 0] rfl ?_
  cases h
  exact hc _ _ _ rfl
set_option maxRecDepth 8000 in
theorem tX8_suspects_l41 {G : Gm} {x0 : Nat} {x1 : Int32} {x2 : Int32} {x3 : Nat} {x5 : Int32} {o : Option Value × Hp} {a : Int32 × Int32 × Hp} {w : (Int32 × Int32 × Hp) ⊕ ((Int32 × Hp))} (h : fX8_suspects_l41 x0 x1 x2 x3 x5 a = some w) (hc : ∀ (q4 : Int32) (q6 : Int32) (qs : Hp), w = .inl (q4, q6, qs) → R G MX8_suspects 41 [(0, .ref x0), (1, .int x1), (2, .int x2), (3, .ref x3), (4, .int q4), (5, .int x5), (6, .int q6)] [] qs o) (he0 : ∀ (q4 : Int32) (qs : Hp), w = .inr (q4, qs) → R G MX8_suspects 85 [(0, .ref x0), (1, .int x1), (2, .int x2), (3, .ref x3), (4, .int q4), (5, .int x5)] [] qs o) : R G MX8_suspects 41 [(0, .ref x0), (1, .int x1), (2, .int x2), (3, .ref x3), (4, .int a.1), (5, .int x5), (6, .int a.2.1)] [] a.2.2 o := by
  unfold fX8_suspects_l41 at h
  refine R_iload DX8_suspects_41 6 rfl ?_
  refine R_aload DX8_suspects_43 0 rfl ?_
  obtain ⟨v8, ev8, h⟩ := bind_some h
  refine R_gR DX8_suspects_44 fl_RX8_47 ev8 ?_
  obtain ⟨v9, ev9, h⟩ := bind_some h
  refine R_gI DX8_suspects_47 fl_RX8_96 ev9 ?_
  by_cases c10 : v9 ≤ a.2.1
  · replace h := if_t h c10
    refine R_icmp_ge_t DX8_suspects_50 c10 ?_
    refine R.sub (L' := [(0, .ref x0), (1, .int x1), (2, .int x2), (3, .ref x3), (4, .int a.1), (5, .int x5)]) [0, 1, 2, 3, 4, 5] rfl ?_
    cases h
    exact he0 _ _ rfl
  · replace h := if_f h c10
    refine R_icmp_ge_f DX8_suspects_50 c10 ?_
    refine R_aload DX8_suspects_53 0 rfl ?_
    refine R_aload DX8_suspects_54 3 rfl ?_
    refine R_iload DX8_suspects_55 5 rfl ?_
    refine R_iload DX8_suspects_57 6 rfl ?_
    refine R_iload DX8_suspects_59 1 rfl ?_
    refine R_iload DX8_suspects_60 2 rfl ?_
    obtain ⟨r11, er11, h⟩ := bind_some h
    refine R_cS1 [.int x1, .int x2] DX8_suspects_61 kzsX8_columnOf ml_RX8_181 ⟨Nat.le_of_ble_eq_true rfl, Nat.le_of_ble_eq_true rfl⟩ rfl (Nat.le_of_ble_eq_true rfl) (kX8_columnOf er11) ?_
    obtain ⟨r12, er12, h⟩ := bind_some h
    refine R_cV1 [.ref x3, .int x5, .int a.2.1, .int r11.1] DX8_suspects_64 kzvX8_dropsTo ml_RX8_283 ⟨Nat.le_of_ble_eq_true rfl, Nat.le_of_ble_eq_true rfl⟩ rfl (Nat.le_of_ble_eq_true rfl) (kX8_dropsTo er12) ?_
    by_cases c13 : r12.1 = 0
    · replace h := if_t h c13
      refine R_if_eq_t DX8_suspects_67 c13 ?_
      exact tX8_suspects_b79 h hc he0
    · replace h := if_f h c13
      refine R_if_eq_f DX8_suspects_67 c13 ?_
      refine R_iload DX8_suspects_70 4 rfl ?_
      refine R_constI DX8_suspects_72 ci_1 ?_
      refine R_iload DX8_suspects_73 5 rfl ?_
      refine R_ishl DX8_suspects_75 ?_
      refine R_ior DX8_suspects_76 ?_
      obtain ⟨z14, ez14, h⟩ := lt_some h
      refine R_istoreE ez14 [(4, .int z14), (0, .ref x0), (1, .int x1), (2, .int x2), (3, .ref x3), (5, .int x5), (6, .int a.2.1)] DX8_suspects_77 (by decide) rfl ?_
      refine R.sub (L' := [(0, .ref x0), (1, .int x1), (2, .int x2), (3, .ref x3), (4, .int z14), (5, .int x5), (6, .int a.2.1)]) [1, 2, 3, 4, 0, 5, 6] rfl ?_
      exact tX8_suspects_b79 h hc he0
set_option maxRecDepth 8000 in
theorem tX8_suspects_l26 {G : Gm} {x0 : Nat} {x1 : Int32} {x2 : Int32} {x3 : Nat} {o : Option Value × Hp} {a : Int32 × Int32 × Hp} {w : (Int32 × Int32 × Hp) ⊕ ((Int32 × Hp))} (h : fX8_suspects_l26 x0 x1 x2 x3 a = some w) (hc : ∀ (q4 : Int32) (q5 : Int32) (qs : Hp), w = .inl (q4, q5, qs) → R G MX8_suspects 26 [(0, .ref x0), (1, .int x1), (2, .int x2), (3, .ref x3), (4, .int q4), (5, .int q5)] [] qs o) (he0 : ∀ (q4 : Int32) (qs : Hp), w = .inr (q4, qs) → R G MX8_suspects 91 [(4, .int q4)] [] qs o) : R G MX8_suspects 26 [(0, .ref x0), (1, .int x1), (2, .int x2), (3, .ref x3), (4, .int a.1), (5, .int a.2.1)] [] a.2.2 o := by
  unfold fX8_suspects_l26 at h
  refine R_iload DX8_suspects_26 5 rfl ?_
  refine R_aload DX8_suspects_28 0 rfl ?_
  obtain ⟨v5, ev5, h⟩ := bind_some h
  refine R_gR DX8_suspects_29 fl_RX8_47 ev5 ?_
  obtain ⟨v6, ev6, h⟩ := bind_some h
  refine R_gI DX8_suspects_32 fl_RX8_166 ev6 ?_
  by_cases c7 : v6 ≤ a.2.1
  · replace h := if_t h c7
    refine R_icmp_ge_t DX8_suspects_35 c7 ?_
    refine R.sub (L' := [(4, .int a.1)]) [4] rfl ?_
    cases h
    exact he0 _ _ rfl
  · replace h := if_f h c7
    refine R_icmp_ge_f DX8_suspects_35 c7 ?_
    refine R_constI DX8_suspects_38 ci_0 ?_
    refine R_istore [(6, .int (iI 0)), (0, .ref x0), (1, .int x1), (2, .int x2), (3, .ref x3), (4, .int a.1), (5, .int a.2.1)] DX8_suspects_39 (by decide) rfl ?_
    refine R.sub (L' := [(0, .ref x0), (1, .int x1), (2, .int x2), (3, .ref x3), (4, .int a.1), (5, .int a.2.1), (6, .int (iI 0))]) [1, 2, 3, 4, 5, 6, 0] rfl ?_
    obtain ⟨r15, hi, h⟩ := bind_some h
    have hE : (fun u41 : Int32 × Hp => R G MX8_suspects 85 [(0, .ref x0), (1, .int x1), (2, .int x2), (3, .ref x3), (4, .int u41.1), (5, .int a.2.1)] [] u41.2 o) r15 → ∀ (q4 : Int32) (q6 : Int32) (qs : Hp), iter (fX8_suspects_l41 x0 x1 x2 x3 a.2.1) FU (q4, q6, qs) = some r15 → R G MX8_suspects 41 [(0, .ref x0), (1, .int x1), (2, .int x2), (3, .ref x3), (4, .int q4), (5, .int a.2.1), (6, .int q6)] [] qs o := fun hX q4 q6 qs hj => loop_R (fX8_suspects_l41 x0 x1 x2 x3 a.2.1) (fun p41 : Int32 × Int32 × Hp => R G MX8_suspects 41 [(0, .ref x0), (1, .int x1), (2, .int x2), (3, .ref x3), (4, .int p41.1), (5, .int a.2.1), (6, .int p41.2.1)] [] p41.2.2 o) (fun u41 : Int32 × Hp => R G MX8_suspects 85 [(0, .ref x0), (1, .int x1), (2, .int x2), (3, .ref x3), (4, .int u41.1), (5, .int a.2.1)] [] u41.2 o) (fun a w hw hc he => tX8_suspects_l41 hw (fun q4 q6 qs e => hc (q4, q6, qs) e) (fun q4 qs e => he (q4, qs) e)) FU (q4, q6, qs) r15 hj hX
    refine hE ?_ _ _ _ hi
    clear hE hi
    refine R_iinc [(5, .int (a.2.1 + iI 1)), (0, .ref x0), (1, .int x1), (2, .int x2), (3, .ref x3), (4, .int r15.1)] DX8_suspects_85 5 rfl (v := a.2.1 + iI 1) (by rfl) (by decide) rfl ?_
    refine R_goto DX8_suspects_88 ?_
    refine R.sub (L' := [(0, .ref x0), (1, .int x1), (2, .int x2), (3, .ref x3), (4, .int r15.1), (5, .int (a.2.1 + iI 1))]) [1, 2, 3, 4, 5, 0] rfl ?_
    cases h
    exact hc _ _ _ rfl
set_option maxRecDepth 8000 in
theorem kX8_suspects {G : Gm} {x0 : Nat} {x1 : Int32} {x2 : Int32} {s : Hp} {w : Int32 × Hp} (h : fX8_suspects x0 x1 x2 s = some w) : (s.2.2 x0).1 = 8 ∧ Call G MX8_suspects [.ref x0, .int x1, .int x2] s (some (.int w.1), w.2) := by
  unfold fX8_suspects at h
  obtain ⟨_, e0, h⟩ := bind_some h
  refine ⟨ck_some e0, Call.of_R pnRX8 (Nat.le_of_ble_eq_true rfl) ?_⟩
  clear e0
  show R G MX8_suspects 0 [(0, .ref x0), (1, .int x1), (2, .int x2)] [] s (some (.int w.1), w.2)
  refine R_aload DX8_suspects_0 0 rfl ?_
  obtain ⟨v1, ev1, h⟩ := bind_some h
  refine R_gR DX8_suspects_1 fl_RX8_47 ev1 ?_
  refine R_iload DX8_suspects_4 1 rfl ?_
  refine R_iload DX8_suspects_5 2 rfl ?_
  obtain ⟨r2, er2, h⟩ := bind_some h
  refine R_cV1 [.int x1, .int x2] DX8_suspects_6 kzvX6_hasColumn ml_RX8_178 ⟨Nat.le_of_ble_eq_true rfl, Nat.le_of_ble_eq_true rfl⟩ rfl (Nat.le_of_ble_eq_true rfl) (kX6_hasColumn er2) ?_
  by_cases c3 : r2.1 = 0
  · replace h := if_t h c3
    refine R_if_ne_f DX8_suspects_9 c3 ?_
    refine R_constI DX8_suspects_12 ci_m2 ?_
    cases h
    exact R_ireturn rfl DX8_suspects_14
  · replace h := if_f h c3
    refine R_if_ne_t DX8_suspects_9 c3 ?_
    refine R_aload DX8_suspects_15 0 rfl ?_
    obtain ⟨r4, er4, h⟩ := bind_some h
    refine R_cV1 [] DX8_suspects_16 kzvX8_flown ml_RX8_108 ⟨Nat.le_of_ble_eq_true rfl, Nat.le_of_ble_eq_true rfl⟩ rfl (Nat.le_of_ble_eq_true rfl) (kX8_flown er4) ?_
    refine R_astore [(3, .ref r4.1), (0, .ref x0), (1, .int x1), (2, .int x2)] DX8_suspects_19 (by decide) rfl ?_
    refine R_constI DX8_suspects_20 ci_0 ?_
    refine R_istore [(4, .int (iI 0)), (3, .ref r4.1), (0, .ref x0), (1, .int x1), (2, .int x2)] DX8_suspects_21 (by decide) rfl ?_
    refine R_constI DX8_suspects_23 ci_0 ?_
    refine R_istore [(5, .int (iI 0)), (4, .int (iI 0)), (3, .ref r4.1), (0, .ref x0), (1, .int x1), (2, .int x2)] DX8_suspects_24 (by decide) rfl ?_
    refine R.sub (L' := [(0, .ref x0), (1, .int x1), (2, .int x2), (3, .ref r4.1), (4, .int (iI 0)), (5, .int (iI 0))]) [3, 4, 5, 2, 1, 0] rfl ?_
    obtain ⟨r16, hi, h⟩ := bind_some h
    have hE : (fun u26 : Int32 × Hp => R G MX8_suspects 91 [(4, .int u26.1)] [] u26.2 (some (.int w.1), w.2)) r16 → ∀ (q4 : Int32) (q5 : Int32) (qs : Hp), iter (fX8_suspects_l26 x0 x1 x2 r4.1) FU (q4, q5, qs) = some r16 → R G MX8_suspects 26 [(0, .ref x0), (1, .int x1), (2, .int x2), (3, .ref r4.1), (4, .int q4), (5, .int q5)] [] qs (some (.int w.1), w.2) := fun hX q4 q5 qs hj => loop_R (fX8_suspects_l26 x0 x1 x2 r4.1) (fun p26 : Int32 × Int32 × Hp => R G MX8_suspects 26 [(0, .ref x0), (1, .int x1), (2, .int x2), (3, .ref r4.1), (4, .int p26.1), (5, .int p26.2.1)] [] p26.2.2 (some (.int w.1), w.2)) (fun u26 : Int32 × Hp => R G MX8_suspects 91 [(4, .int u26.1)] [] u26.2 (some (.int w.1), w.2)) (fun a w hw hc he => tX8_suspects_l26 hw (fun q4 q5 qs e => hc (q4, q5, qs) e) (fun q4 qs e => he (q4, qs) e)) FU (q4, q5, qs) r16 hj hX
    refine hE ?_ _ _ _ hi
    clear hE hi
    refine R_iload DX8_suspects_91 0 rfl ?_
    cases h
    exact R_ireturn rfl DX8_suspects_93
set_option maxRecDepth 8000 in
theorem tX8_hasDrift_b63 {G : Gm} {s : Hp} {w : Int32 × Hp} (h : fX8_hasDrift_b63 s = some w) : R G MX8_hasDrift 63 [] [] s (some (.int w.1), w.2) := by
  unfold fX8_hasDrift_b63 at h
  refine R_constI DX8_hasDrift_63 ci_0 ?_
  cases h
  exact R_zreturn rfl DX8_hasDrift_64 (by decide)
set_option maxRecDepth 8000 in
theorem tX8_hasDrift_b29 {G : Gm} {x0 : Nat} {x1 : Int32} {x2 : Int32} {x3 : Int32} {y0 : Int32} {s : Hp} {w : Int32 × Hp} (h : fX8_hasDrift_b29 x0 x1 x2 x3 y0 s = some w) : R G MX8_hasDrift 29 [(0, .ref x0), (1, .int x1), (2, .int x2), (3, .int x3)] [.int y0] s (some (.int w.1), w.2) := by
  unfold fX8_hasDrift_b29 at h
  refine R_istore [(6, .int y0), (0, .ref x0), (1, .int x1), (2, .int x2), (3, .int x3)] DX8_hasDrift_29 (by decide) rfl ?_
  refine R_iload DX8_hasDrift_31 0 rfl ?_
  by_cases c4 : y0 = 0
  · replace h := if_t h c4
    refine R_if_eq_t DX8_hasDrift_33 c4 ?_
    refine R.sub (L' := []) [] rfl ?_
    exact tX8_hasDrift_b63 h
  · replace h := if_f h c4
    refine R_if_eq_f DX8_hasDrift_33 c4 ?_
    refine R_aload DX8_hasDrift_36 1 rfl ?_
    obtain ⟨v5, ev5, h⟩ := bind_some h
    refine R_gR DX8_hasDrift_37 fl_RX8_47 ev5 ?_
    refine R_iload DX8_hasDrift_40 2 rfl ?_
    refine R_iload DX8_hasDrift_41 3 rfl ?_
    obtain ⟨r6, er6, h⟩ := bind_some h
    refine R_cV1 [.int x1, .int x2] DX8_hasDrift_42 kzvX6_hasColumn ml_RX8_178 ⟨Nat.le_of_ble_eq_true rfl, Nat.le_of_ble_eq_true rfl⟩ rfl (Nat.le_of_ble_eq_true rfl) (kX6_hasColumn er6) ?_
    by_cases c7 : r6.1 = 0
    · replace h := if_t h c7
      refine R_if_eq_t DX8_hasDrift_45 c7 ?_
      refine R.sub (L' := []) [] rfl ?_
      exact tX8_hasDrift_b63 h
    · replace h := if_f h c7
      refine R_if_eq_f DX8_hasDrift_45 c7 ?_
      refine R_aload DX8_hasDrift_48 1 rfl ?_
      obtain ⟨v8, ev8, h⟩ := bind_some h
      refine R_gR DX8_hasDrift_49 fl_RX8_47 ev8 ?_
      refine R_iload DX8_hasDrift_52 4 rfl ?_
      obtain ⟨r9, er9, h⟩ := bind_some h
      refine R_cV1 [.int x3] DX8_hasDrift_53 kzvX6_hasLayer ml_RX8_82 ⟨Nat.le_of_ble_eq_true rfl, Nat.le_of_ble_eq_true rfl⟩ rfl (Nat.le_of_ble_eq_true rfl) (kX6_hasLayer er9) ?_
      by_cases c10 : r9.1 = 0
      · replace h := if_t h c10
        refine R_if_eq_t DX8_hasDrift_56 c10 ?_
        refine R.sub (L' := []) [] rfl ?_
        exact tX8_hasDrift_b63 h
      · replace h := if_f h c10
        refine R_if_eq_f DX8_hasDrift_56 c10 ?_
        refine R_constI DX8_hasDrift_59 ci_1 ?_
        refine R_goto DX8_hasDrift_60 ?_
        cases h
        exact R_zreturn rfl DX8_hasDrift_64 (by decide)
set_option maxRecDepth 8000 in
theorem tX8_hasDrift_b28 {G : Gm} {x0 : Nat} {x1 : Int32} {x2 : Int32} {x3 : Int32} {s : Hp} {w : Int32 × Hp} (h : fX8_hasDrift_b28 x0 x1 x2 x3 s = some w) : R G MX8_hasDrift 28 [(0, .ref x0), (1, .int x1), (2, .int x2), (3, .int x3)] [] s (some (.int w.1), w.2) := by
  unfold fX8_hasDrift_b28 at h
  refine R_constI DX8_hasDrift_28 ci_0 ?_
  exact tX8_hasDrift_b29 h
set_option maxRecDepth 8000 in
theorem kX8_hasDrift {G : Gm} {x0 : Nat} {x1 : Int32} {x2 : Int32} {x3 : Int32} {x4 : Int32} {x5 : Int32} {s : Hp} {w : Int32 × Hp} (h : fX8_hasDrift x0 x1 x2 x3 x4 x5 s = some w) : (s.2.2 x0).1 = 8 ∧ Call G MX8_hasDrift [.ref x0, .int x1, .int x2, .int x3, .int x4, .int x5] s (some (.int w.1), w.2) := by
  unfold fX8_hasDrift at h
  obtain ⟨_, e0, h⟩ := bind_some h
  refine ⟨ck_some e0, Call.of_R pnRX8 (Nat.le_of_ble_eq_true rfl) ?_⟩
  clear e0
  show R G MX8_hasDrift 0 [(0, .ref x0), (1, .int x1), (2, .int x2), (3, .int x3), (4, .int x4), (5, .int x5)] [] s (some (.int w.1), w.2)
  refine R_aload DX8_hasDrift_0 0 rfl ?_
  obtain ⟨v1, ev1, h⟩ := bind_some h
  refine R_gR DX8_hasDrift_1 fl_RX8_47 ev1 ?_
  refine R_iload DX8_hasDrift_4 4 rfl ?_
  obtain ⟨r2, er2, h⟩ := bind_some h
  refine R_cV1 [.int x4] DX8_hasDrift_6 kzvX6_hasHour ml_RX8_86 ⟨Nat.le_of_ble_eq_true rfl, Nat.le_of_ble_eq_true rfl⟩ rfl (Nat.le_of_ble_eq_true rfl) (kX6_hasHour er2) ?_
  by_cases c3 : r2.1 = 0
  · replace h := if_t h c3
    refine R_if_eq_t DX8_hasDrift_9 c3 ?_
    refine R.sub (L' := [(0, .ref x0), (1, .int x1), (2, .int x2), (3, .int x3)]) [0, 1, 2, 3] rfl ?_
    exact tX8_hasDrift_b28 h
  · replace h := if_f h c3
    refine R_if_eq_f DX8_hasDrift_9 c3 ?_
    refine R_iload DX8_hasDrift_12 5 rfl ?_
    by_cases c11 : x5 < 0
    · replace h := if_t h c11
      refine R_if_lt_t DX8_hasDrift_14 c11 ?_
      refine R.sub (L' := [(0, .ref x0), (1, .int x1), (2, .int x2), (3, .int x3)]) [0, 1, 2, 3] rfl ?_
      exact tX8_hasDrift_b28 h
    · replace h := if_f h c11
      refine R_if_lt_f DX8_hasDrift_14 c11 ?_
      refine R_iload DX8_hasDrift_17 5 rfl ?_
      refine R_constI DX8_hasDrift_19 ci_24 ?_
      by_cases c12 : (iI 24) < x5
      · replace h := if_t h c12
        refine R_icmp_gt_t DX8_hasDrift_21 c12 ?_
        refine R.sub (L' := [(0, .ref x0), (1, .int x1), (2, .int x2), (3, .int x3)]) [0, 1, 2, 3] rfl ?_
        exact tX8_hasDrift_b28 h
      · replace h := if_f h c12
        refine R_icmp_gt_f DX8_hasDrift_21 c12 ?_
        refine R_constI DX8_hasDrift_24 ci_1 ?_
        refine R_goto DX8_hasDrift_25 ?_
        refine R.sub (L' := [(0, .ref x0), (1, .int x1), (2, .int x2), (3, .int x3)]) [0, 1, 2, 3] rfl ?_
        exact tX8_hasDrift_b29 h
set_option maxRecDepth 8000 in
theorem tX8_drifted_l6 {G : Gm} {x0 : Nat} {x2 : Int32} {x3 : Int32} {x4 : Int32} {o : Option Value × Hp} {a : Int32 × Int32 × Hp} {w : (Int32 × Int32 × Hp) ⊕ ((Int32 × Hp))} (h : fX8_drifted_l6 x0 x2 x3 x4 a = some w) (hc : ∀ (q5 : Int32) (q6 : Int32) (qs : Hp), w = .inl (q5, q6, qs) → R G MX8_drifted 6 [(0, .ref x0), (2, .int x2), (3, .int x3), (4, .int x4), (5, .int q5), (6, .int q6)] [] qs o) (he0 : ∀ (q5 : Int32) (qs : Hp), w = .inr (q5, qs) → R G MX8_drifted 54 [(5, .int q5)] [] qs o) : R G MX8_drifted 6 [(0, .ref x0), (2, .int x2), (3, .int x3), (4, .int x4), (5, .int a.1), (6, .int a.2.1)] [] a.2.2 o := by
  unfold fX8_drifted_l6 at h
  refine R_iload DX8_drifted_6 5 rfl ?_
  refine R_aload DX8_drifted_8 0 rfl ?_
  obtain ⟨v1, ev1, h⟩ := bind_some h
  refine R_gR DX8_drifted_9 fl_RX8_47 ev1 ?_
  obtain ⟨v2, ev2, h⟩ := bind_some h
  refine R_gI DX8_drifted_12 fl_RX8_96 ev2 ?_
  by_cases c3 : v2 ≤ a.2.1
  · replace h := if_t h c3
    refine R_icmp_ge_t DX8_drifted_15 c3 ?_
    refine R.sub (L' := [(5, .int a.1)]) [4] rfl ?_
    cases h
    exact he0 _ _ rfl
  · replace h := if_f h c3
    refine R_icmp_ge_f DX8_drifted_15 c3 ?_
    refine R_iload DX8_drifted_18 5 rfl ?_
    refine R_iload DX8_drifted_20 2 rfl ?_
    refine R_iload DX8_drifted_21 3 rfl ?_
    refine R_iadd DX8_drifted_23 ?_
    by_cases c4 : (x3 + x4) ≤ a.2.1
    · replace h := if_t h c4
      refine R_icmp_ge_t DX8_drifted_24 c4 ?_
      refine R.sub (L' := [(5, .int a.1)]) [4] rfl ?_
      cases h
      exact he0 _ _ rfl
    · replace h := if_f h c4
      refine R_icmp_ge_f DX8_drifted_24 c4 ?_
      refine R_aload DX8_drifted_27 0 rfl ?_
      obtain ⟨v5, ev5, h⟩ := bind_some h
      refine R_gR DX8_drifted_28 fl_RX8_47 ev5 ?_
      refine R_iload DX8_drifted_31 4 rfl ?_
      refine R_aload DX8_drifted_33 0 rfl ?_
      obtain ⟨v6, ev6, h⟩ := bind_some h
      refine R_gR DX8_drifted_34 fl_RX8_47 ev6 ?_
      refine R_iload DX8_drifted_37 1 rfl ?_
      refine R_iload DX8_drifted_38 5 rfl ?_
      obtain ⟨r7, er7, h⟩ := bind_some h
      refine R_cV1 [.int x2, .int a.2.1] DX8_drifted_40 kzvX6_windAt ml_RX8_89 ⟨Nat.le_of_ble_eq_true rfl, Nat.le_of_ble_eq_true rfl⟩ rfl (Nat.le_of_ble_eq_true rfl) (kX6_windAt er7) ?_
      obtain ⟨r8, er8, h⟩ := bind_some h
      refine R_cV1 [.int a.1, .int r7.1] DX8_drifted_43 kzvX6_carried ml_RX8_311 ⟨Nat.le_of_ble_eq_true rfl, Nat.le_of_ble_eq_true rfl⟩ rfl (Nat.le_of_ble_eq_true rfl) (kX6_carried er8) ?_
      refine R_istore [(5, .int r8.1), (0, .ref x0), (2, .int x2), (3, .int x3), (4, .int x4), (6, .int a.2.1)] DX8_drifted_46 (by decide) rfl ?_
      refine R_iinc [(6, .int (a.2.1 + iI 1)), (5, .int r8.1), (0, .ref x0), (2, .int x2), (3, .int x3), (4, .int x4)] DX8_drifted_48 5 rfl (v := a.2.1 + iI 1) (by rfl) (by decide) rfl ?_
      refine R_goto DX8_drifted_51 ?_
      refine R.sub (L' := [(0, .ref x0), (2, .int x2), (3, .int x3), (4, .int x4), (5, .int r8.1), (6, .int (a.2.1 + iI 1))]) [2, 3, 4, 5, 1, 0] rfl ?_
      cases h
      exact hc _ _ _ rfl
set_option maxRecDepth 8000 in
theorem tX8_drifted_b54 {G : Gm} {x5 : Int32} {s : Hp} {w : Int32 × Hp} (h : fX8_drifted_b54 x5 s = some w) : R G MX8_drifted 54 [(5, .int x5)] [] s (some (.int w.1), w.2) := by
  unfold fX8_drifted_b54 at h
  refine R_iload DX8_drifted_54 0 rfl ?_
  cases h
  exact R_ireturn rfl DX8_drifted_56
set_option maxRecDepth 8000 in
theorem kX8_drifted {G : Gm} {x0 : Nat} {x1 : Int32} {x2 : Int32} {x3 : Int32} {x4 : Int32} {s : Hp} {w : Int32 × Hp} (h : fX8_drifted x0 x1 x2 x3 x4 s = some w) : (s.2.2 x0).1 = 8 ∧ Call G MX8_drifted [.ref x0, .int x1, .int x2, .int x3, .int x4] s (some (.int w.1), w.2) := by
  unfold fX8_drifted at h
  obtain ⟨_, e0, h⟩ := bind_some h
  refine ⟨ck_some e0, Call.of_R pnRX8 (Nat.le_of_ble_eq_true rfl) ?_⟩
  clear e0
  show R G MX8_drifted 0 [(0, .ref x0), (1, .int x1), (2, .int x2), (3, .int x3), (4, .int x4)] [] s (some (.int w.1), w.2)
  refine R_iload DX8_drifted_0 1 rfl ?_
  refine R_istore [(5, .int x1), (0, .ref x0), (1, .int x1), (2, .int x2), (3, .int x3), (4, .int x4)] DX8_drifted_1 (by decide) rfl ?_
  refine R_iload DX8_drifted_3 4 rfl ?_
  refine R_istore [(6, .int x3), (5, .int x1), (0, .ref x0), (1, .int x1), (2, .int x2), (3, .int x3), (4, .int x4)] DX8_drifted_4 (by decide) rfl ?_
  refine R.sub (L' := [(0, .ref x0), (2, .int x2), (3, .int x3), (4, .int x4), (5, .int x1), (6, .int x3)]) [2, 4, 5, 6, 1, 0] rfl ?_
  obtain ⟨r9, hi, h⟩ := bind_some h
  have hE : (fun u6 : Int32 × Hp => R G MX8_drifted 54 [(5, .int u6.1)] [] u6.2 (some (.int w.1), w.2)) r9 → ∀ (q5 : Int32) (q6 : Int32) (qs : Hp), iter (fX8_drifted_l6 x0 x2 x3 x4) FU (q5, q6, qs) = some r9 → R G MX8_drifted 6 [(0, .ref x0), (2, .int x2), (3, .int x3), (4, .int x4), (5, .int q5), (6, .int q6)] [] qs (some (.int w.1), w.2) := fun hX q5 q6 qs hj => loop_R (fX8_drifted_l6 x0 x2 x3 x4) (fun p6 : Int32 × Int32 × Hp => R G MX8_drifted 6 [(0, .ref x0), (2, .int x2), (3, .int x3), (4, .int x4), (5, .int p6.1), (6, .int p6.2.1)] [] p6.2.2 (some (.int w.1), w.2)) (fun u6 : Int32 × Hp => R G MX8_drifted 54 [(5, .int u6.1)] [] u6.2 (some (.int w.1), w.2)) (fun a w hw hc he => tX8_drifted_l6 hw (fun q5 q6 qs e => hc (q5, q6, qs) e) (fun q5 qs e => he (q5, qs) e)) FU (q5, q6, qs) r9 hj hX
  refine hE ?_ _ _ _ hi
  clear hE hi
  exact tX8_drifted_b54 h
