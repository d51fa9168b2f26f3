set_option maxRecDepth 8000 in
theorem tX7_begin_l34 {G : Gm} {x0 : Nat} {x4 : Int32} {o : Option Value × Hp} {a : Int32 × Hp} {w : (Int32 × Hp) ⊕ ((Hp))} (h : fX7_begin_l34 x0 x4 a = some w) (hc : ∀ (q5 : Int32) (qs : Hp), w = .inl (q5, qs) → R G MX7_begin 34 [(0, .ref x0), (4, .int x4), (5, .int q5)] [] qs o) (he0 : ∀ (qs : Hp), w = .inr qs → R G MX7_begin 73 [(0, .ref x0), (4, .int x4)] [] qs o) : R G MX7_begin 34 [(0, .ref x0), (4, .int x4), (5, .int a.1)] [] a.2 o := by
  unfold fX7_begin_l34 at h
  refine R_iload DX7_begin_34 2 rfl ?_
  refine R_constI DX7_begin_36 ci_6 ?_
  by_cases c7 : (iI 6) ≤ a.1
  · replace h := if_t h c7
    refine R_icmp_ge_t DX7_begin_38 c7 ?_
    refine R.sub (L' := [(0, .ref x0), (4, .int x4)]) [0, 1] rfl ?_
    cases h
    exact he0 _ rfl
  · replace h := if_f h c7
    refine R_icmp_ge_f DX7_begin_38 c7 ?_
    refine R_aload DX7_begin_41 0 rfl ?_
    obtain ⟨v8, ev8, h⟩ := bind_some h
    refine R_gR DX7_begin_42 fl_RX7_11 ev8 ?_
    refine R_aload DX7_begin_45 0 rfl ?_
    refine R_iload DX7_begin_46 1 rfl ?_
    refine R_constI DX7_begin_48 ci_0 ?_
    obtain ⟨r9, er9, h⟩ := bind_some h
    refine R_cV1 [.int x4, .int (iI 0)] DX7_begin_49 kzvX7_pageOf ml_RX7_48 ⟨Nat.le_of_ble_eq_true rfl, Nat.le_of_ble_eq_true rfl⟩ rfl (Nat.le_of_ble_eq_true rfl) (kX7_pageOf er9) ?_
    refine R_iload DX7_begin_52 2 rfl ?_
    refine R_iadd DX7_begin_54 ?_
    refine R_aload DX7_begin_55 0 rfl ?_
    obtain ⟨v10, ev10, h⟩ := bind_some h
    refine R_gR DX7_begin_56 fl_RX7_39 ev10 ?_
    refine R_iload DX7_begin_59 1 rfl ?_
    refine R_iload DX7_begin_61 2 rfl ?_
    obtain ⟨r11, er11, h⟩ := bind_some h
    refine R_cV1 [.int x4, .int a.1] DX7_begin_63 kzvX6_shopFact ml_RX7_52 ⟨Nat.le_of_ble_eq_true rfl, Nat.le_of_ble_eq_true rfl⟩ rfl (Nat.le_of_ble_eq_true rfl) (kX6_shopFact er11) ?_
    obtain ⟨s12, es12, h⟩ := bind_some h
    refine R_sI DX7_begin_66 es12 ?_
    refine R_iinc [(5, .int (a.1 + iI 1)), (0, .ref x0), (4, .int x4)] DX7_begin_67 2 rfl (v := a.1 + iI 1) (by rfl) (by decide) rfl ?_
    refine R_goto DX7_begin_70 ?_
    refine R.sub (L' := [(0, .ref x0), (4, .int x4), (5, .int (a.1 + iI 1))]) [1, 2, 0] rfl ?_
    cases h
    exact hc _ _ rfl
set_option maxRecDepth 8000 in
theorem tX7_begin_l19 {G : Gm} {x0 : Nat} {o : Option Value × Hp} {a : Int32 × Hp} {w : (Int32 × Hp) ⊕ ((Hp))} (h : fX7_begin_l19 x0 a = some w) (hc : ∀ (q4 : Int32) (qs : Hp), w = .inl (q4, qs) → R G MX7_begin 19 [(0, .ref x0), (4, .int q4)] [] qs o) (he0 : ∀ (qs : Hp), w = .inr qs → R G MX7_begin 95 [(0, .ref x0)] [] qs o) : R G MX7_begin 19 [(0, .ref x0), (4, .int a.1)] [] a.2 o := by
  unfold fX7_begin_l19 at h
  refine R_iload DX7_begin_19 1 rfl ?_
  refine R_aload DX7_begin_21 0 rfl ?_
  obtain ⟨v4, ev4, h⟩ := bind_some h
  refine R_gR DX7_begin_22 fl_RX7_39 ev4 ?_
  obtain ⟨v5, ev5, h⟩ := bind_some h
  refine R_gI DX7_begin_25 fl_RX7_43 ev5 ?_
  by_cases c6 : v5 ≤ a.1
  · replace h := if_t h c6
    refine R_icmp_ge_t DX7_begin_28 c6 ?_
    refine R.sub (L' := [(0, .ref x0)]) [0] rfl ?_
    cases h
    exact he0 _ rfl
  · replace h := if_f h c6
    refine R_icmp_ge_f DX7_begin_28 c6 ?_
    refine R_constI DX7_begin_31 ci_0 ?_
    refine R_istore [(5, .int (iI 0)), (0, .ref x0), (4, .int a.1)] DX7_begin_32 (by decide) rfl ?_
    refine R.sub (L' := [(0, .ref x0), (4, .int a.1), (5, .int (iI 0))]) [1, 2, 0] rfl ?_
    obtain ⟨r13, hi, h⟩ := bind_some h
    have hE : (fun u34 : Hp => R G MX7_begin 73 [(0, .ref x0), (4, .int a.1)] [] u34 o) r13 → ∀ (q5 : Int32) (qs : Hp), iter (fX7_begin_l34 x0 a.1) FU (q5, qs) = some r13 → R G MX7_begin 34 [(0, .ref x0), (4, .int a.1), (5, .int q5)] [] qs o := fun hX q5 qs hj => loop_R (fX7_begin_l34 x0 a.1) (fun p34 : Int32 × Hp => R G MX7_begin 34 [(0, .ref x0), (4, .int a.1), (5, .int p34.1)] [] p34.2 o) (fun u34 : Hp => R G MX7_begin 73 [(0, .ref x0), (4, .int a.1)] [] u34 o) (fun a w hw hc he => tX7_begin_l34 hw (fun q5 qs e => hc (q5, qs) e) (fun qs e => he qs e)) FU (q5, qs) r13 hj hX
    refine hE ?_ _ _ hi
    clear hE hi
    refine R_aload DX7_begin_73 0 rfl ?_
    obtain ⟨v14, ev14, h⟩ := bind_some h
    refine R_gR DX7_begin_74 fl_RX7_11 ev14 ?_
    refine R_aload DX7_begin_77 0 rfl ?_
    refine R_iload DX7_begin_78 1 rfl ?_
    refine R_constI DX7_begin_80 ci_0 ?_
    obtain ⟨r15, er15, h⟩ := bind_some h
    refine R_cV1 [.int a.1, .int (iI 0)] DX7_begin_81 kzvX7_pageOf ml_RX7_48 ⟨Nat.le_of_ble_eq_true rfl, Nat.le_of_ble_eq_true rfl⟩ rfl (Nat.le_of_ble_eq_true rfl) (kX7_pageOf er15) ?_
    refine R_constI DX7_begin_84 ci_6 ?_
    refine R_iadd DX7_begin_86 ?_
    refine R_constI DX7_begin_87 ci_0 ?_
    obtain ⟨s16, es16, h⟩ := bind_some h
    refine R_sI DX7_begin_88 es16 ?_
    refine R_iinc [(4, .int (a.1 + iI 1)), (0, .ref x0)] DX7_begin_89 1 rfl (v := a.1 + iI 1) (by rfl) (by decide) rfl ?_
    refine R_goto DX7_begin_92 ?_
    refine R.sub (L' := [(0, .ref x0), (4, .int (a.1 + iI 1))]) [1, 0] rfl ?_
    cases h
    exact hc _ _ rfl
set_option maxRecDepth 8000 in
theorem tX7_begin_l98 {G : Gm} {x0 : Nat} {o : Option Value × Hp} {a : Int32 × Hp} {w : (Int32 × Hp) ⊕ ((Hp))} (h : fX7_begin_l98 x0 a = some w) (hc : ∀ (q4 : Int32) (qs : Hp), w = .inl (q4, qs) → R G MX7_begin 98 [(0, .ref x0), (4, .int q4)] [] qs o) (he0 : ∀ (qs : Hp), w = .inr qs → R G MX7_begin 133 [] [] qs o) : R G MX7_begin 98 [(0, .ref x0), (4, .int a.1)] [] a.2 o := by
  unfold fX7_begin_l98 at h
  refine R_iload DX7_begin_98 1 rfl ?_
  refine R_aload DX7_begin_100 0 rfl ?_
  obtain ⟨v18, ev18, h⟩ := bind_some h
  refine R_gR DX7_begin_101 fl_RX7_39 ev18 ?_
  obtain ⟨v19, ev19, h⟩ := bind_some h
  refine R_gI DX7_begin_104 fl_RX7_55 ev19 ?_
  by_cases c20 : v19 ≤ a.1
  · replace h := if_t h c20
    refine R_icmp_ge_t DX7_begin_107 c20 ?_
    refine R.sub (L' := []) [] rfl ?_
    cases h
    exact he0 _ rfl
  · replace h := if_f h c20
    refine R_icmp_ge_f DX7_begin_107 c20 ?_
    refine R_aload DX7_begin_110 0 rfl ?_
    obtain ⟨v21, ev21, h⟩ := bind_some h
    refine R_gR DX7_begin_111 fl_RX7_15 ev21 ?_
    refine R_iload DX7_begin_114 1 rfl ?_
    refine R_aload DX7_begin_116 0 rfl ?_
    obtain ⟨v22, ev22, h⟩ := bind_some h
    refine R_gR DX7_begin_117 fl_RX7_39 ev22 ?_
    refine R_iload DX7_begin_120 1 rfl ?_
    refine R_constI DX7_begin_122 ci_2 ?_
    obtain ⟨r23, er23, h⟩ := bind_some h
    refine R_cV1 [.int a.1, .int (iI 2)] DX7_begin_123 kzvX6_doorFact ml_RX7_58 ⟨Nat.le_of_ble_eq_true rfl, Nat.le_of_ble_eq_true rfl⟩ rfl (Nat.le_of_ble_eq_true rfl) (kX6_doorFact er23) ?_
    obtain ⟨s24, es24, h⟩ := bind_some h
    refine R_sI DX7_begin_126 es24 ?_
    refine R_iinc [(4, .int (a.1 + iI 1)), (0, .ref x0)] DX7_begin_127 1 rfl (v := a.1 + iI 1) (by rfl) (by decide) rfl ?_
    refine R_goto DX7_begin_130 ?_
    refine R.sub (L' := [(0, .ref x0), (4, .int (a.1 + iI 1))]) [1, 0] rfl ?_
    cases h
    exact hc _ _ rfl
set_option maxRecDepth 8000 in
theorem kX7_begin {G : Gm} {x0 : Nat} {x1 : Nat} {x2 : Int32} {x3 : Int32} {s : Hp} {w : Hp} (h : fX7_begin x0 x1 x2 x3 s = some w) : (s.2.2 x0).1 = 7 ∧ Call G MX7_begin [.ref x0, .ref x1, .int x2, .int x3] s (none, w) := by
  unfold fX7_begin at h
  obtain ⟨_, e0, h⟩ := bind_some h
  refine ⟨ck_some e0, Call.of_R pnRX7 (Nat.le_of_ble_eq_true rfl) ?_⟩
  clear e0
  show R G MX7_begin 0 [(0, .ref x0), (1, .ref x1), (2, .int x2), (3, .int x3)] [] s (none, w)
  refine R_aload DX7_begin_0 0 rfl ?_
  refine R_iload DX7_begin_1 2 rfl ?_
  refine R_i2l DX7_begin_2 ?_
  obtain ⟨s1, es1, h⟩ := bind_some h
  refine R_pL DX7_begin_3 fl_RX7_31 es1 ?_
  refine R_aload DX7_begin_6 0 rfl ?_
  refine R_iload DX7_begin_7 3 rfl ?_
  obtain ⟨s2, es2, h⟩ := bind_some h
  refine R_pI DX7_begin_8 fl_RX7_35 es2 ?_
  refine R_aload DX7_begin_11 0 rfl ?_
  refine R_aload DX7_begin_12 1 rfl ?_
  obtain ⟨s3, es3, h⟩ := bind_some h
  refine R_pR DX7_begin_13 fl_RX7_39 es3 ?_
  refine R_constI DX7_begin_16 ci_0 ?_
  refine R_istore [(4, .int (iI 0)), (0, .ref x0), (1, .ref x1), (2, .int x2), (3, .int x3)] DX7_begin_17 (by decide) rfl ?_
  refine R.sub (L' := [(0, .ref x0), (4, .int (iI 0))]) [1, 0] rfl ?_
  obtain ⟨r17, hi, h⟩ := bind_some h
  have hE : (fun u19 : Hp => R G MX7_begin 95 [(0, .ref x0)] [] u19 (none, w)) r17 → ∀ (q4 : Int32) (qs : Hp), iter (fX7_begin_l19 x0) FU (q4, qs) = some r17 → R G MX7_begin 19 [(0, .ref x0), (4, .int q4)] [] qs (none, w) := fun hX q4 qs hj => loop_R (fX7_begin_l19 x0) (fun p19 : Int32 × Hp => R G MX7_begin 19 [(0, .ref x0), (4, .int p19.1)] [] p19.2 (none, w)) (fun u19 : Hp => R G MX7_begin 95 [(0, .ref x0)] [] u19 (none, w)) (fun a w hw hc he => tX7_begin_l19 hw (fun q4 qs e => hc (q4, qs) e) (fun qs e => he qs e)) FU (q4, qs) r17 hj hX
  refine hE ?_ _ _ hi
  clear hE hi
  refine R_constI DX7_begin_95 ci_0 ?_
  refine R_istore [(4, .int (iI 0)), (0, .ref x0)] DX7_begin_96 (by decide) rfl ?_
  refine R.sub (L' := [(0, .ref x0), (4, .int (iI 0))]) [1, 0] rfl ?_
  obtain ⟨r25, hi, h⟩ := bind_some h
  have hE : (fun u98 : Hp => R G MX7_begin 133 [] [] u98 (none, w)) r25 → ∀ (q4 : Int32) (qs : Hp), iter (fX7_begin_l98 x0) FU (q4, qs) = some r25 → R G MX7_begin 98 [(0, .ref x0), (4, .int q4)] [] qs (none, w) := fun hX q4 qs hj => loop_R (fX7_begin_l98 x0) (fun p98 : Int32 × Hp => R G MX7_begin 98 [(0, .ref x0), (4, .int p98.1)] [] p98.2 (none, w)) (fun u98 : Hp => R G MX7_begin 133 [] [] u98 (none, w)) (fun a w hw hc he => tX7_begin_l98 hw (fun q4 qs e => hc (q4, qs) e) (fun qs e => he qs e)) FU (q4, qs) r25 hj hX
  refine hE ?_ _ _ hi
  clear hE hi
  cases h
  exact R_return rfl DX7_begin_133
set_option maxRecDepth 8000 in
theorem kX7_beginBehind {G : Gm} {x0 : Nat} {x1 : Nat} {x2 : Nat} {x3 : Int32} {s : Hp} {w : Hp} (h : fX7_beginBehind x0 x1 x2 x3 s = some w) : (s.2.2 x0).1 = 7 ∧ Call G MX7_beginBehind [.ref x0, .ref x1, .ref x2, .int x3] s (none, w) := by
  unfold fX7_beginBehind at h
  obtain ⟨_, e0, h⟩ := bind_some h
  refine ⟨ck_some e0, Call.of_R pnRX7 (Nat.le_of_ble_eq_true rfl) ?_⟩
  clear e0
  show R G MX7_beginBehind 0 [(0, .ref x0), (1, .ref x1), (2, .ref x2), (3, .int x3)] [] s (none, w)
  refine R_aload DX7_beginBehind_0 0 rfl ?_
  refine R_constI DX7_beginBehind_1 ci_0 ?_
  obtain ⟨s1, es1, h⟩ := bind_some h
  refine R_pI DX7_beginBehind_2 fl_RX7_35 es1 ?_
  refine R_aload DX7_beginBehind_5 0 rfl ?_
  refine R_aload DX7_beginBehind_6 1 rfl ?_
  obtain ⟨s2, es2, h⟩ := bind_some h
  refine R_pR DX7_beginBehind_7 fl_RX7_39 es2 ?_
  refine R_aload DX7_beginBehind_10 2 rfl ?_
  obtain ⟨v3, ev3, h⟩ := bind_some h
  refine R_gR DX7_beginBehind_11 fl_RX7_11 ev3 ?_
  refine R_iload DX7_beginBehind_14 3 rfl ?_
  refine R_constI DX7_beginBehind_15 ci_28 ?_
  refine R_imul DX7_beginBehind_17 ?_
  refine R_aload DX7_beginBehind_18 0 rfl ?_
  obtain ⟨v4, ev4, h⟩ := bind_some h
  refine R_gR DX7_beginBehind_19 fl_RX7_11 ev4 ?_
  refine R_iload DX7_beginBehind_22 3 rfl ?_
  refine R_constI DX7_beginBehind_23 ci_28 ?_
  refine R_imul DX7_beginBehind_25 ?_
  refine R_constI DX7_beginBehind_26 ci_28 ?_
  obtain ⟨s5, es5, h⟩ := bind_some h
  refine R_cpyI DX7_beginBehind_28 wc_RX7_61 ⟨Nat.le_of_ble_eq_true rfl, Nat.le_of_ble_eq_true rfl⟩ es5 ?_
  refine R_aload DX7_beginBehind_31 2 rfl ?_
  obtain ⟨v6, ev6, h⟩ := bind_some h
  refine R_gR DX7_beginBehind_32 fl_RX7_15 ev6 ?_
  refine R_iload DX7_beginBehind_35 3 rfl ?_
  refine R_constI DX7_beginBehind_36 ci_5 ?_
  refine R_imul DX7_beginBehind_37 ?_
  refine R_aload DX7_beginBehind_38 0 rfl ?_
  obtain ⟨v7, ev7, h⟩ := bind_some h
  refine R_gR DX7_beginBehind_39 fl_RX7_15 ev7 ?_
  refine R_iload DX7_beginBehind_42 3 rfl ?_
  refine R_constI DX7_beginBehind_43 ci_5 ?_
  refine R_imul DX7_beginBehind_44 ?_
  refine R_constI DX7_beginBehind_45 ci_5 ?_
  obtain ⟨s8, es8, h⟩ := bind_some h
  refine R_cpyI DX7_beginBehind_46 wc_RX7_61 ⟨Nat.le_of_ble_eq_true rfl, Nat.le_of_ble_eq_true rfl⟩ es8 ?_
  cases h
  exact R_return rfl DX7_beginBehind_49
set_option maxRecDepth 8000 in
theorem tX7_drawGusts_b71 {G : Gm} {x0 : Nat} {x1 : Int32} {y0 : Nat} {y1 : Int32} {y2 : Int32} {s : Hp} {o : Option Value × Hp} {w : (Int32 × Hp) ⊕ ((Hp))} (h : fX7_drawGusts_b71 x0 x1 y0 y1 y2 s = some w) (hc : ∀ (q1 : Int32) (qs : Hp), w = .inl (q1, qs) → R G MX7_drawGusts 2 [(0, .ref x0), (1, .int q1)] [] qs o) (he0 : ∀ (qs : Hp), w = .inr qs → R G MX7_drawGusts 78 [] [] qs o) : R G MX7_drawGusts 71 [(0, .ref x0), (1, .int x1)] [.int y2, .int y1, .ref y0] s o := by
  unfold fX7_drawGusts_b71 at h
  obtain ⟨s12, es12, h⟩ := bind_some h
  refine R_sZ DX7_drawGusts_71 es12 ?_
  refine R_iinc [(1, .int (x1 + iI 1)), (0, .ref x0)] DX7_drawGusts_72 1 rfl (v := x1 + iI 1) (by rfl) (by decide) rfl ?_
  refine R_goto DX7_drawGusts_75 ?_
  refine R.sub (L' := [(0, .ref x0), (1, .int (x1 + iI 1))]) [1, 0] rfl ?_
  cases h
  exact hc _ _ rfl
set_option maxRecDepth 8000 in
theorem tX7_drawGusts_b40 {G : Gm} {x0 : Nat} {x1 : Int32} {s : Hp} {o : Option Value × Hp} {w : (Int32 × Hp) ⊕ ((Hp))} (h : fX7_drawGusts_b40 x0 x1 s = some w) (hc : ∀ (q1 : Int32) (qs : Hp), w = .inl (q1, qs) → R G MX7_drawGusts 2 [(0, .ref x0), (1, .int q1)] [] qs o) (he0 : ∀ (qs : Hp), w = .inr qs → R G MX7_drawGusts 78 [] [] qs o) : R G MX7_drawGusts 40 [(0, .ref x0), (1, .int x1)] [] s o := by
  unfold fX7_drawGusts_b40 at h
  refine R_aload DX7_drawGusts_40 0 rfl ?_
  obtain ⟨v6, ev6, h⟩ := bind_some h
  refine R_gR DX7_drawGusts_41 fl_RX7_28 ev6 ?_
  refine R_iload DX7_drawGusts_44 1 rfl ?_
  refine R_aload DX7_drawGusts_45 0 rfl ?_
  obtain ⟨v7, ev7, h⟩ := bind_some h
  refine R_gL DX7_drawGusts_46 fl_RX7_31 ev7 ?_
  refine R_ldc2 DX7_drawGusts_49 cw_RX7_86 ?_
  obtain ⟨v8, ev8, h⟩ := bind_some h
  refine R_dL DX7_drawGusts_52 ev8 ?_
  refine R_ldc2 DX7_drawGusts_53 cw_RX7_88 ?_
  obtain ⟨v9, ev9, h⟩ := bind_some h
  refine R_mL DX7_drawGusts_56 ev9 ?_
  refine R_aload DX7_drawGusts_57 0 rfl ?_
  obtain ⟨v10, ev10, h⟩ := bind_some h
  refine R_gI DX7_drawGusts_58 fl_RX7_35 ev10 ?_
  refine R_i2l DX7_drawGusts_61 ?_
  refine R_lcmp DX7_drawGusts_62 ?_
  by_cases c11 : 0 ≤ (lg_cmp v9 (Int32.toInt64 v10))
  · replace h := if_t h c11
    refine R_if_ge_t DX7_drawGusts_63 c11 ?_
    refine R_constI DX7_drawGusts_70 ci_0 ?_
    exact tX7_drawGusts_b71 h hc he0
  · replace h := if_f h c11
    refine R_if_ge_f DX7_drawGusts_63 c11 ?_
    refine R_constI DX7_drawGusts_66 ci_1 ?_
    refine R_goto DX7_drawGusts_67 ?_
    exact tX7_drawGusts_b71 h hc he0
set_option maxRecDepth 8000 in
theorem tX7_drawGusts_l2 {G : Gm} {x0 : Nat} {o : Option Value × Hp} {a : Int32 × Hp} {w : (Int32 × Hp) ⊕ ((Hp))} (h : fX7_drawGusts_l2 x0 a = some w) (hc : ∀ (q1 : Int32) (qs : Hp), w = .inl (q1, qs) → R G MX7_drawGusts 2 [(0, .ref x0), (1, .int q1)] [] qs o) (he0 : ∀ (qs : Hp), w = .inr qs → R G MX7_drawGusts 78 [] [] qs o) : R G MX7_drawGusts 2 [(0, .ref x0), (1, .int a.1)] [] a.2 o := by
  unfold fX7_drawGusts_l2 at h
  refine R_iload DX7_drawGusts_2 1 rfl ?_
  refine R_aload DX7_drawGusts_3 0 rfl ?_
  obtain ⟨v1, ev1, h⟩ := bind_some h
  refine R_gR DX7_drawGusts_4 fl_RX7_39 ev1 ?_
  obtain ⟨v2, ev2, h⟩ := bind_some h
  refine R_gI DX7_drawGusts_7 fl_RX7_77 ev2 ?_
  by_cases c3 : v2 ≤ a.1
  · replace h := if_t h c3
    refine R_icmp_ge_t DX7_drawGusts_10 c3 ?_
    refine R.sub (L' := []) [] rfl ?_
    cases h
    exact he0 _ rfl
  · replace h := if_f h c3
    refine R_icmp_ge_f DX7_drawGusts_10 c3 ?_
    refine R_aload DX7_drawGusts_13 0 rfl ?_
    obtain ⟨v4, ev4, h⟩ := bind_some h
    refine R_gI DX7_drawGusts_14 fl_RX7_35 ev4 ?_
    by_cases c5 : v4 ≤ 0
    · replace h := if_t h c5
      refine R_if_le_t DX7_drawGusts_17 c5 ?_
      exact tX7_drawGusts_b40 h hc he0
    · replace h := if_f h c5
      refine R_if_le_f DX7_drawGusts_17 c5 ?_
      refine R_aload DX7_drawGusts_20 0 rfl ?_
      refine R_ldc2 DX7_drawGusts_21 cw_RX7_80 ?_
      refine R_aload DX7_drawGusts_24 0 rfl ?_
      obtain ⟨v13, ev13, h⟩ := bind_some h
      refine R_gL DX7_drawGusts_25 fl_RX7_31 ev13 ?_
      refine R_lmul DX7_drawGusts_28 ?_
      refine R_ldc2 DX7_drawGusts_29 cw_RX7_82 ?_
      refine R_ladd DX7_drawGusts_32 ?_
      refine R_ldc2 DX7_drawGusts_33 cw_RX7_84 ?_
      refine R_land DX7_drawGusts_36 ?_
      obtain ⟨s14, es14, h⟩ := bind_some h
      refine R_pL DX7_drawGusts_37 fl_RX7_31 es14 ?_
      exact tX7_drawGusts_b40 h hc he0
set_option maxRecDepth 8000 in
theorem kX7_drawGusts {G : Gm} {x0 : Nat} {s : Hp} {w : Hp} (h : fX7_drawGusts x0 s = some w) : (s.2.2 x0).1 = 7 ∧ Call G MX7_drawGusts [.ref x0] s (none, w) := by
  unfold fX7_drawGusts at h
  obtain ⟨_, e0, h⟩ := bind_some h
  refine ⟨ck_some e0, Call.of_R pnRX7 (Nat.le_of_ble_eq_true rfl) ?_⟩
  clear e0
  show R G MX7_drawGusts 0 [(0, .ref x0)] [] s (none, w)
  refine R_constI DX7_drawGusts_0 ci_1 ?_
  refine R_istore [(1, .int (iI 1)), (0, .ref x0)] DX7_drawGusts_1 (by decide) rfl ?_
  refine R.sub (L' := [(0, .ref x0), (1, .int (iI 1))]) [1, 0] rfl ?_
  obtain ⟨r15, hi, h⟩ := bind_some h
  have hE : (fun u2 : Hp => R G MX7_drawGusts 78 [] [] u2 (none, w)) r15 → ∀ (q1 : Int32) (qs : Hp), iter (fX7_drawGusts_l2 x0) FU (q1, qs) = some r15 → R G MX7_drawGusts 2 [(0, .ref x0), (1, .int q1)] [] qs (none, w) := fun hX q1 qs hj => loop_R (fX7_drawGusts_l2 x0) (fun p2 : Int32 × Hp => R G MX7_drawGusts 2 [(0, .ref x0), (1, .int p2.1)] [] p2.2 (none, w)) (fun u2 : Hp => R G MX7_drawGusts 78 [] [] u2 (none, w)) (fun a w hw hc he => tX7_drawGusts_l2 hw (fun q1 qs e => hc (q1, qs) e) (fun qs e => he qs e)) FU (q1, qs) r15 hj hX
  refine hE ?_ _ _ hi
  clear hE hi
  cases h
  exact R_return rfl DX7_drawGusts_78
set_option maxRecDepth 8000 in
theorem kX7_reasonAgainst {G : Gm} {x0 : Nat} {x1 : Int32} {x2 : Int32} {s : Hp} {w : Int32 × Hp} (h : fX7_reasonAgainst x0 x1 x2 s = some w) : (s.2.2 x0).1 = 7 ∧ Call G MX7_reasonAgainst [.ref x0, .int x1, .int x2] s (some (.int w.1), w.2) := by
  unfold fX7_reasonAgainst at h
  obtain ⟨_, e0, h⟩ := bind_some h
  refine ⟨ck_some e0, Call.of_R pnRX7 (Nat.le_of_ble_eq_true rfl) ?_⟩
  clear e0
  show R G MX7_reasonAgainst 0 [(0, .ref x0), (1, .int x1), (2, .int x2)] [] s (some (.int w.1), w.2)
  refine R_iload DX7_reasonAgainst_0 1 rfl ?_
  refine R_constI DX7_reasonAgainst_1 ci_1 ?_
  by_cases c1 : x1 = (iI 1)
  · replace h := if_t h c1
    refine R_icmp_ne_f DX7_reasonAgainst_2 c1 ?_
    refine R_aload DX7_reasonAgainst_5 0 rfl ?_
    obtain ⟨v9, ev9, h⟩ := bind_some h
    refine R_gR DX7_reasonAgainst_6 fl_RX7_11 ev9 ?_
    refine R_iload DX7_reasonAgainst_9 2 rfl ?_
    refine R_constI DX7_reasonAgainst_10 ci_2 ?_
    refine R_iadd DX7_reasonAgainst_11 ?_
    obtain ⟨v10, ev10, h⟩ := bind_some h
    refine R_aI DX7_reasonAgainst_12 ev10 ?_
    refine R_aload DX7_reasonAgainst_13 0 rfl ?_
    obtain ⟨v11, ev11, h⟩ := bind_some h
    refine R_gR DX7_reasonAgainst_14 fl_RX7_39 ev11 ?_
    obtain ⟨v12, ev12, h⟩ := bind_some h
    refine R_gI DX7_reasonAgainst_17 fl_RX7_77 ev12 ?_
    refine R_constI DX7_reasonAgainst_20 ci_1 ?_
    refine R_isub DX7_reasonAgainst_21 ?_
    by_cases c13 : v10 < (v12 - (iI 1))
    · replace h := if_t h c13
      refine R_icmp_lt_t DX7_reasonAgainst_22 c13 ?_
      refine R_aload DX7_reasonAgainst_27 0 rfl ?_
      obtain ⟨v14, ev14, h⟩ := bind_some h
      refine R_gR DX7_reasonAgainst_28 fl_RX7_11 ev14 ?_
      refine R_iload DX7_reasonAgainst_31 2 rfl ?_
      refine R_constI DX7_reasonAgainst_32 ci_3 ?_
      refine R_iadd DX7_reasonAgainst_33 ?_
      obtain ⟨v15, ev15, h⟩ := bind_some h
      refine R_aI DX7_reasonAgainst_34 ev15 ?_
      by_cases c16 : v15 ≤ 0
      · replace h := if_t h c16
        refine R_if_le_t DX7_reasonAgainst_35 c16 ?_
        refine R_constI DX7_reasonAgainst_42 ci_1 ?_
        cases h
        exact R_ireturn rfl DX7_reasonAgainst_43
      · replace h := if_f h c16
        refine R_if_le_f DX7_reasonAgainst_35 c16 ?_
        refine R_constI DX7_reasonAgainst_38 ci_0 ?_
        refine R_goto DX7_reasonAgainst_39 ?_
        cases h
        exact R_ireturn rfl DX7_reasonAgainst_43
    · replace h := if_f h c13
      refine R_icmp_lt_f DX7_reasonAgainst_22 c13 ?_
      refine R_constI DX7_reasonAgainst_25 ci_3 ?_
      cases h
      exact R_ireturn rfl DX7_reasonAgainst_26
  · replace h := if_f h c1
    refine R_icmp_ne_t DX7_reasonAgainst_2 c1 ?_
    refine R_iload DX7_reasonAgainst_44 1 rfl ?_
    refine R_constI DX7_reasonAgainst_45 ci_2 ?_
    by_cases c2 : x1 = (iI 2)
    · replace h := if_t h c2
      refine R_icmp_ne_f DX7_reasonAgainst_46 c2 ?_
      refine R_aload DX7_reasonAgainst_49 0 rfl ?_
      obtain ⟨v3, ev3, h⟩ := bind_some h
      refine R_gR DX7_reasonAgainst_50 fl_RX7_11 ev3 ?_
      refine R_iload DX7_reasonAgainst_53 2 rfl ?_
      refine R_constI DX7_reasonAgainst_54 ci_2 ?_
      refine R_iadd DX7_reasonAgainst_55 ?_
      obtain ⟨v4, ev4, h⟩ := bind_some h
      refine R_aI DX7_reasonAgainst_56 ev4 ?_
      by_cases c5 : 0 < v4
      · replace h := if_t h c5
        refine R_if_gt_t DX7_reasonAgainst_57 c5 ?_
        refine R_aload DX7_reasonAgainst_62 0 rfl ?_
        obtain ⟨v6, ev6, h⟩ := bind_some h
        refine R_gR DX7_reasonAgainst_63 fl_RX7_11 ev6 ?_
        refine R_iload DX7_reasonAgainst_66 2 rfl ?_
        refine R_constI DX7_reasonAgainst_67 ci_4 ?_
        refine R_iadd DX7_reasonAgainst_68 ?_
        obtain ⟨v7, ev7, h⟩ := bind_some h
        refine R_aI DX7_reasonAgainst_69 ev7 ?_
        by_cases c8 : v7 ≤ 0
        · replace h := if_t h c8
          refine R_if_le_t DX7_reasonAgainst_70 c8 ?_
          refine R_constI DX7_reasonAgainst_77 ci_2 ?_
          cases h
          exact R_ireturn rfl DX7_reasonAgainst_78
        · replace h := if_f h c8
          refine R_if_le_f DX7_reasonAgainst_70 c8 ?_
          refine R_constI DX7_reasonAgainst_73 ci_0 ?_
          refine R_goto DX7_reasonAgainst_74 ?_
          cases h
          exact R_ireturn rfl DX7_reasonAgainst_78
      · replace h := if_f h c5
        refine R_if_gt_f DX7_reasonAgainst_57 c5 ?_
        refine R_constI DX7_reasonAgainst_60 ci_4 ?_
        cases h
        exact R_ireturn rfl DX7_reasonAgainst_61
    · replace h := if_f h c2
      refine R_icmp_ne_t DX7_reasonAgainst_46 c2 ?_
      refine R_constI DX7_reasonAgainst_79 ci_0 ?_
      cases h
      exact R_ireturn rfl DX7_reasonAgainst_80
set_option maxRecDepth 8000 in
theorem kX7_doAct {G : Gm} {x0 : Nat} {x1 : Int32} {x2 : Int32} {s : Hp} {w : Hp} (h : fX7_doAct x0 x1 x2 s = some w) : (s.2.2 x0).1 = 7 ∧ Call G MX7_doAct [.ref x0, .int x1, .int x2] s (none, w) := by
  unfold fX7_doAct at h
  obtain ⟨_, e0, h⟩ := bind_some h
  refine ⟨ck_some e0, Call.of_R pnRX7 (Nat.le_of_ble_eq_true rfl) ?_⟩
  clear e0
  show R G MX7_doAct 0 [(0, .ref x0), (1, .int x1), (2, .int x2)] [] s (none, w)
  refine R_iload DX7_doAct_0 1 rfl ?_
  refine R_constI DX7_doAct_1 ci_1 ?_
  by_cases c1 : x1 = (iI 1)
  · replace h := if_t h c1
    refine R_icmp_ne_f DX7_doAct_2 c1 ?_
    refine R_aload DX7_doAct_5 0 rfl ?_
    obtain ⟨v9, ev9, h⟩ := bind_some h
    refine R_gR DX7_doAct_6 fl_RX7_11 ev9 ?_
    refine R_iload DX7_doAct_9 2 rfl ?_
    refine R_constI DX7_doAct_10 ci_2 ?_
    refine R_iadd DX7_doAct_11 ?_
    refine R_dup2 DX7_doAct_12 rfl rfl ?_
    obtain ⟨v10, ev10, h⟩ := bind_some h
    refine R_aI DX7_doAct_13 ev10 ?_
    refine R_constI DX7_doAct_14 ci_1 ?_
    refine R_iadd DX7_doAct_15 ?_
    obtain ⟨s11, es11, h⟩ := bind_some h
    refine R_sI DX7_doAct_16 es11 ?_
    refine R_aload DX7_doAct_17 0 rfl ?_
    obtain ⟨v12, ev12, h⟩ := bind_some h
    refine R_gR DX7_doAct_18 fl_RX7_11 ev12 ?_
    refine R_iload DX7_doAct_21 2 rfl ?_
    refine R_constI DX7_doAct_22 ci_3 ?_
    refine R_iadd DX7_doAct_23 ?_
    refine R_dup2 DX7_doAct_24 rfl rfl ?_
    obtain ⟨v13, ev13, h⟩ := bind_some h
    refine R_aI DX7_doAct_25 ev13 ?_
    refine R_constI DX7_doAct_26 ci_1 ?_
    refine R_isub DX7_doAct_27 ?_
    obtain ⟨s14, es14, h⟩ := bind_some h
    refine R_sI DX7_doAct_28 es14 ?_
    refine R_goto DX7_doAct_29 ?_
    cases h
    exact R_return rfl DX7_doAct_61
  · replace h := if_f h c1
    refine R_icmp_ne_t DX7_doAct_2 c1 ?_
    refine R_iload DX7_doAct_32 1 rfl ?_
    refine R_constI DX7_doAct_33 ci_2 ?_
    by_cases c2 : x1 = (iI 2)
    · replace h := if_t h c2
      refine R_icmp_ne_f DX7_doAct_34 c2 ?_
      refine R_aload DX7_doAct_37 0 rfl ?_
      obtain ⟨v3, ev3, h⟩ := bind_some h
      refine R_gR DX7_doAct_38 fl_RX7_11 ev3 ?_
      refine R_iload DX7_doAct_41 2 rfl ?_
      refine R_constI DX7_doAct_42 ci_2 ?_
      refine R_iadd DX7_doAct_43 ?_
      refine R_dup2 DX7_doAct_44 rfl rfl ?_
      obtain ⟨v4, ev4, h⟩ := bind_some h
      refine R_aI DX7_doAct_45 ev4 ?_
      refine R_constI DX7_doAct_46 ci_1 ?_
      refine R_isub DX7_doAct_47 ?_
      obtain ⟨s5, es5, h⟩ := bind_some h
      refine R_sI DX7_doAct_48 es5 ?_
      refine R_aload DX7_doAct_49 0 rfl ?_
      obtain ⟨v6, ev6, h⟩ := bind_some h
      refine R_gR DX7_doAct_50 fl_RX7_11 ev6 ?_
      refine R_iload DX7_doAct_53 2 rfl ?_
      refine R_constI DX7_doAct_54 ci_4 ?_
      refine R_iadd DX7_doAct_55 ?_
      refine R_dup2 DX7_doAct_56 rfl rfl ?_
      obtain ⟨v7, ev7, h⟩ := bind_some h
      refine R_aI DX7_doAct_57 ev7 ?_
      refine R_constI DX7_doAct_58 ci_1 ?_
      refine R_isub DX7_doAct_59 ?_
      obtain ⟨s8, es8, h⟩ := bind_some h
      refine R_sI DX7_doAct_60 es8 ?_
      cases h
      exact R_return rfl DX7_doAct_61
    · replace h := if_f h c2
      refine R_icmp_ne_t DX7_doAct_34 c2 ?_
      cases h
      exact R_return rfl DX7_doAct_61
set_option maxRecDepth 8000 in
theorem tX7_carry_b76 {G : Gm} {x0 : Nat} {x2 : Int32} {x5 : Int32} {x6 : Int32} {s : Hp} {w : Int32 × Hp} (h : fX7_carry_b76 x0 x2 x5 x6 s = some w) : R G MX7_carry 76 [(0, .ref x0), (2, .int x2), (5, .int x5), (6, .int x6)] [] s (some (.int w.1), w.2) := by
  unfold fX7_carry_b76 at h
  refine R_aload DX7_carry_76 0 rfl ?_
  obtain ⟨v15, ev15, h⟩ := bind_some h
  refine R_gR DX7_carry_77 fl_RX7_11 ev15 ?_
  refine R_iload DX7_carry_80 1 rfl ?_
  refine R_constI DX7_carry_81 ci_0 ?_
  refine R_iadd DX7_carry_82 ?_
  refine R_iload DX7_carry_83 3 rfl ?_
  obtain ⟨r16, er16, h⟩ := bind_some h
  refine R_cSN1 [.int x6] DX7_carry_85 kzsX8_xOf ml_RX7_119 ⟨Nat.le_of_ble_eq_true rfl, Nat.le_of_ble_eq_true rfl⟩ rfl (Nat.le_of_ble_eq_true rfl) (kX8_xOf er16) ?_
  obtain ⟨s17, es17, h⟩ := bind_some h
  refine R_sI DX7_carry_88 es17 ?_
  refine R_aload DX7_carry_89 0 rfl ?_
  obtain ⟨v18, ev18, h⟩ := bind_some h
  refine R_gR DX7_carry_90 fl_RX7_11 ev18 ?_
  refine R_iload DX7_carry_93 1 rfl ?_
  refine R_constI DX7_carry_94 ci_1 ?_
  refine R_iadd DX7_carry_95 ?_
  refine R_iload DX7_carry_96 3 rfl ?_
  obtain ⟨r19, er19, h⟩ := bind_some h
  refine R_cSN1 [.int x6] DX7_carry_98 kzsX8_yOf ml_RX7_123 ⟨Nat.le_of_ble_eq_true rfl, Nat.le_of_ble_eq_true rfl⟩ rfl (Nat.le_of_ble_eq_true rfl) (kX8_yOf er19) ?_
  obtain ⟨s20, es20, h⟩ := bind_some h
  refine R_sI DX7_carry_101 es20 ?_
  refine R_iload DX7_carry_102 3 rfl ?_
  refine R_iload DX7_carry_104 2 rfl ?_
  by_cases c21 : x6 = x5
  · replace h := if_t h c21
    refine R_icmp_eq_t DX7_carry_106 c21 ?_
    refine R_constI DX7_carry_113 ci_0 ?_
    cases h
    exact R_zreturn rfl DX7_carry_114 (by decide)
  · replace h := if_f h c21
    refine R_icmp_eq_f DX7_carry_106 c21 ?_
    refine R_constI DX7_carry_109 ci_1 ?_
    refine R_goto DX7_carry_110 ?_
    cases h
    exact R_zreturn rfl DX7_carry_114 (by decide)
set_option maxRecDepth 8000 in
theorem kX7_carry {G : Gm} {x0 : Nat} {x1 : Int32} {x2 : Int32} {s : Hp} {w : Int32 × Hp} (h : fX7_carry x0 x1 x2 s = some w) : (s.2.2 x0).1 = 7 ∧ Call G MX7_carry [.ref x0, .int x1, .int x2] s (some (.int w.1), w.2) := by
  unfold fX7_carry at h
  obtain ⟨_, e0, h⟩ := bind_some h
  refine ⟨ck_some e0, Call.of_R pnRX7 (Nat.le_of_ble_eq_true rfl) ?_⟩
  clear e0
  show R G MX7_carry 0 [(0, .ref x0), (1, .int x1), (2, .int x2)] [] s (some (.int w.1), w.2)
  refine R_aload DX7_carry_0 0 rfl ?_
  obtain ⟨v1, ev1, h⟩ := bind_some h
  refine R_gR DX7_carry_1 fl_RX7_11 ev1 ?_
  refine R_iload DX7_carry_4 2 rfl ?_
  refine R_constI DX7_carry_5 ci_2 ?_
  refine R_iadd DX7_carry_6 ?_
  obtain ⟨v2, ev2, h⟩ := bind_some h
  refine R_aI DX7_carry_7 ev2 ?_
  refine R_istore [(3, .int v2), (0, .ref x0), (1, .int x1), (2, .int x2)] DX7_carry_8 (by decide) rfl ?_
  refine R_aload DX7_carry_9 1 rfl ?_
  obtain ⟨v3, ev3, h⟩ := bind_some h
  refine R_gR DX7_carry_10 fl_RX7_39 ev3 ?_
  refine R_iload DX7_carry_13 0 rfl ?_
  refine R_iload DX7_carry_14 2 rfl ?_
  obtain ⟨r4, er4, h⟩ := bind_some h
  refine R_cV1 [.int v2, .int x1] DX7_carry_15 kzvX6_windAt ml_RX7_110 ⟨Nat.le_of_ble_eq_true rfl, Nat.le_of_ble_eq_true rfl⟩ rfl (Nat.le_of_ble_eq_true rfl) (kX6_windAt er4) ?_
  refine R_istore [(4, .int r4.1), (3, .int v2), (0, .ref x0), (1, .int x1), (2, .int x2)] DX7_carry_18 (by decide) rfl ?_
  refine R_aload DX7_carry_20 2 rfl ?_
  obtain ⟨v5, ev5, h⟩ := bind_some h
  refine R_gR DX7_carry_21 fl_RX7_11 ev5 ?_
  refine R_iload DX7_carry_24 4 rfl ?_
  refine R_constI DX7_carry_25 ci_0 ?_
  refine R_iadd DX7_carry_26 ?_
  obtain ⟨v6, ev6, h⟩ := bind_some h
  refine R_aI DX7_carry_27 ev6 ?_
  refine R_aload DX7_carry_28 2 rfl ?_
  obtain ⟨v7, ev7, h⟩ := bind_some h
  refine R_gR DX7_carry_29 fl_RX7_11 ev7 ?_
  refine R_iload DX7_carry_32 4 rfl ?_
  refine R_constI DX7_carry_33 ci_1 ?_
  refine R_iadd DX7_carry_34 ?_
  obtain ⟨v8, ev8, h⟩ := bind_some h
  refine R_aI DX7_carry_35 ev8 ?_
  obtain ⟨r9, er9, h⟩ := bind_some h
  refine R_cSN1 [.int v6, .int v8] DX7_carry_36 kzsX8_columnOf ml_RX7_113 ⟨Nat.le_of_ble_eq_true rfl, Nat.le_of_ble_eq_true rfl⟩ rfl (Nat.le_of_ble_eq_true rfl) (kX8_columnOf er9) ?_
  refine R_istore [(5, .int r9.1), (4, .int r4.1), (3, .int v2), (0, .ref x0), (1, .int x1), (2, .int x2)] DX7_carry_39 (by decide) rfl ?_
  refine R_aload DX7_carry_41 3 rfl ?_
  obtain ⟨v10, ev10, h⟩ := bind_some h
  refine R_gR DX7_carry_42 fl_RX7_39 ev10 ?_
  refine R_iload DX7_carry_45 0 rfl ?_
  refine R_iload DX7_carry_47 1 rfl ?_
  obtain ⟨r11, er11, h⟩ := bind_some h
  refine R_cV1 [.int r9.1, .int r4.1] DX7_carry_49 kzvX6_carried ml_RX7_116 ⟨Nat.le_of_ble_eq_true rfl, Nat.le_of_ble_eq_true rfl⟩ rfl (Nat.le_of_ble_eq_true rfl) (kX6_carried er11) ?_
  refine R_istore [(6, .int r11.1), (5, .int r9.1), (4, .int r4.1), (3, .int v2), (0, .ref x0), (1, .int x1), (2, .int x2)] DX7_carry_52 (by decide) rfl ?_
  refine R_aload DX7_carry_54 4 rfl ?_
  obtain ⟨v12, ev12, h⟩ := bind_some h
  refine R_gR DX7_carry_55 fl_RX7_28 ev12 ?_
  refine R_iload DX7_carry_58 3 rfl ?_
  obtain ⟨v13, ev13, h⟩ := bind_some h
  refine R_aZ DX7_carry_59 ev13 ?_
  by_cases c14 : v13 = 0
  · replace h := if_t h c14
    refine R_if_eq_t DX7_carry_60 c14 ?_
    refine R.sub (L' := [(0, .ref x0), (2, .int x2), (5, .int r9.1), (6, .int r11.1)]) [4, 6, 1, 0] rfl ?_
    exact tX7_carry_b76 h
  · replace h := if_f h c14
    refine R_if_eq_f DX7_carry_60 c14 ?_
    refine R_aload DX7_carry_63 4 rfl ?_
    obtain ⟨v22, ev22, h⟩ := bind_some h
    refine R_gR DX7_carry_64 fl_RX7_39 ev22 ?_
    refine R_iload DX7_carry_67 0 rfl ?_
    refine R_iload DX7_carry_69 2 rfl ?_
    obtain ⟨r23, er23, h⟩ := bind_some h
    refine R_cV1 [.int r11.1, .int r4.1] DX7_carry_71 kzvX6_carried ml_RX7_116 ⟨Nat.le_of_ble_eq_true rfl, Nat.le_of_ble_eq_true rfl⟩ rfl (Nat.le_of_ble_eq_true rfl) (kX6_carried er23) ?_
    refine R_istore [(6, .int r23.1), (5, .int r9.1), (4, .int r4.1), (3, .int v2), (0, .ref x0), (1, .int x1), (2, .int x2)] DX7_carry_74 (by decide) rfl ?_
    refine R.sub (L' := [(0, .ref x0), (2, .int x2), (5, .int r9.1), (6, .int r23.1)]) [4, 6, 1, 0] rfl ?_
    exact tX7_carry_b76 h
set_option maxRecDepth 8000 in
theorem tX7_sell_b65 {G : Gm} {s : Hp} {w : Int32 × Hp} (h : fX7_sell_b65 s = some w) : R G MX7_sell 65 [] [] s (some (.int w.1), w.2) := by
  unfold fX7_sell_b65 at h
  refine R_constI DX7_sell_65 ci_m1 ?_
  cases h
  exact R_ireturn rfl DX7_sell_66
set_option maxRecDepth 8000 in
theorem kX7_sell {G : Gm} {x0 : Nat} {x1 : Int32} {x2 : Int32} {s : Hp} {w : Int32 × Hp} (h : fX7_sell x0 x1 x2 s = some w) : (s.2.2 x0).1 = 7 ∧ Call G MX7_sell [.ref x0, .int x1, .int x2] s (some (.int w.1), w.2) := by
  unfold fX7_sell at h
  obtain ⟨_, e0, h⟩ := bind_some h
  refine ⟨ck_some e0, Call.of_R pnRX7 (Nat.le_of_ble_eq_true rfl) ?_⟩
  clear e0
  show R G MX7_sell 0 [(0, .ref x0), (1, .int x1), (2, .int x2)] [] s (some (.int w.1), w.2)
  refine R_aload DX7_sell_0 0 rfl ?_
  obtain ⟨v1, ev1, h⟩ := bind_some h
  refine R_gR DX7_sell_1 fl_RX7_11 ev1 ?_
  refine R_iload DX7_sell_4 2 rfl ?_
  refine R_constI DX7_sell_5 ci_2 ?_
  refine R_iadd DX7_sell_6 ?_
  obtain ⟨v2, ev2, h⟩ := bind_some h
  refine R_aI DX7_sell_7 ev2 ?_
  refine R_istore [(3, .int v2), (0, .ref x0), (1, .int x1), (2, .int x2)] DX7_sell_8 (by decide) rfl ?_
  refine R_aload DX7_sell_9 1 rfl ?_
  obtain ⟨v3, ev3, h⟩ := bind_some h
  refine R_gR DX7_sell_10 fl_RX7_39 ev3 ?_
  refine R_aload DX7_sell_13 1 rfl ?_
  obtain ⟨v4, ev4, h⟩ := bind_some h
  refine R_gR DX7_sell_14 fl_RX7_11 ev4 ?_
  refine R_iload DX7_sell_17 3 rfl ?_
  refine R_constI DX7_sell_18 ci_0 ?_
  refine R_iadd DX7_sell_19 ?_
  obtain ⟨v5, ev5, h⟩ := bind_some h
  refine R_aI DX7_sell_20 ev5 ?_
  refine R_aload DX7_sell_21 1 rfl ?_
  obtain ⟨v6, ev6, h⟩ := bind_some h
  refine R_gR DX7_sell_22 fl_RX7_11 ev6 ?_
  refine R_iload DX7_sell_25 3 rfl ?_
  refine R_constI DX7_sell_26 ci_1 ?_
  refine R_iadd DX7_sell_27 ?_
  obtain ⟨v7, ev7, h⟩ := bind_some h
  refine R_aI DX7_sell_28 ev7 ?_
  obtain ⟨r8, er8, h⟩ := bind_some h
  refine R_cSN1 [.int v5, .int v7] DX7_sell_29 kzsX8_columnOf ml_RX7_113 ⟨Nat.le_of_ble_eq_true rfl, Nat.le_of_ble_eq_true rfl⟩ rfl (Nat.le_of_ble_eq_true rfl) (kX8_columnOf er8) ?_
  obtain ⟨r9, er9, h⟩ := bind_some h
  refine R_cV1 [.int r8.1] DX7_sell_32 kzvX6_doorAt ml_RX7_126 ⟨Nat.le_of_ble_eq_true rfl, Nat.le_of_ble_eq_true rfl⟩ rfl (Nat.le_of_ble_eq_true rfl) (kX6_doorAt er9) ?_
  refine R_istore [(4, .int r9.1), (3, .int v2), (0, .ref x0), (1, .int x1), (2, .int x2)] DX7_sell_35 (by decide) rfl ?_
  refine R_iload DX7_sell_37 0 rfl ?_
  refine R_constI DX7_sell_39 ci_m1 ?_
  by_cases c10 : r9.1 = (iI (-1))
  · replace h := if_t h c10
    refine R_icmp_eq_t DX7_sell_40 c10 ?_
    refine R.sub (L' := []) [] rfl ?_
    exact tX7_sell_b65 h
  · replace h := if_f h c10
    refine R_icmp_eq_f DX7_sell_40 c10 ?_
    refine R_iload DX7_sell_43 1 rfl ?_
    refine R_aload DX7_sell_44 2 rfl ?_
    obtain ⟨v11, ev11, h⟩ := bind_some h
    refine R_gR DX7_sell_45 fl_RX7_39 ev11 ?_
    obtain ⟨v12, ev12, h⟩ := bind_some h
    refine R_gI DX7_sell_48 fl_RX7_129 ev12 ?_
    by_cases c13 : v12 < v2
    · replace h := if_t h c13
      refine R_icmp_gt_t DX7_sell_51 c13 ?_
      refine R.sub (L' := []) [] rfl ?_
      exact tX7_sell_b65 h
    · replace h := if_f h c13
      refine R_icmp_gt_f DX7_sell_51 c13 ?_
      refine R_aload DX7_sell_54 2 rfl ?_
      obtain ⟨v14, ev14, h⟩ := bind_some h
      refine R_gR DX7_sell_55 fl_RX7_11 ev14 ?_
      refine R_iload DX7_sell_58 4 rfl ?_
      refine R_constI DX7_sell_59 ci_5 ?_
      refine R_iadd DX7_sell_60 ?_
      obtain ⟨v15, ev15, h⟩ := bind_some h
      refine R_aI DX7_sell_61 ev15 ?_
      by_cases c16 : 0 < v15
      · replace h := if_t h c16
        refine R_if_gt_t DX7_sell_62 c16 ?_
        refine R_iload DX7_sell_67 3 rfl ?_
        refine R_constI DX7_sell_68 ci_1 ?_
        refine R_iadd DX7_sell_69 ?_
        refine R_constI DX7_sell_70 ci_5 ?_
        refine R_imul DX7_sell_71 ?_
        refine R_iload DX7_sell_72 0 rfl ?_
        refine R_iadd DX7_sell_74 ?_
        obtain ⟨z17, ez17, h⟩ := lt_some h
        refine R_istoreE ez17 [(5, .int z17), (4, .int r9.1), (3, .int v2), (0, .ref x0), (1, .int x1), (2, .int x2)] DX7_sell_75 (by decide) rfl ?_
        refine R_aload DX7_sell_77 3 rfl ?_
        obtain ⟨v18, ev18, h⟩ := bind_some h
        refine R_gR DX7_sell_78 fl_RX7_15 ev18 ?_
        refine R_iload DX7_sell_81 0 rfl ?_
        obtain ⟨v19, ev19, h⟩ := bind_some h
        refine R_aI DX7_sell_83 ev19 ?_
        by_cases c20 : 0 < v19
        · replace h := if_t h c20
          refine R_if_gt_t DX7_sell_84 c20 ?_
          refine R_aload DX7_sell_89 3 rfl ?_
          obtain ⟨v21, ev21, h⟩ := bind_some h
          refine R_gR DX7_sell_90 fl_RX7_15 ev21 ?_
          refine R_iload DX7_sell_93 0 rfl ?_
          refine R_dup2 DX7_sell_95 rfl rfl ?_
          obtain ⟨v22, ev22, h⟩ := bind_some h
          refine R_aI DX7_sell_96 ev22 ?_
          refine R_constI DX7_sell_97 ci_1 ?_
          refine R_isub DX7_sell_98 ?_
          obtain ⟨s23, es23, h⟩ := bind_some h
          refine R_sI DX7_sell_99 es23 ?_
          refine R_aload DX7_sell_100 3 rfl ?_
          obtain ⟨v24, ev24, h⟩ := bind_some h
          refine R_gR DX7_sell_101 fl_RX7_11 ev24 ?_
          refine R_iload DX7_sell_104 5 rfl ?_
          refine R_constI DX7_sell_105 ci_5 ?_
          refine R_iadd DX7_sell_106 ?_
          refine R_dup2 DX7_sell_107 rfl rfl ?_
          obtain ⟨v25, ev25, h⟩ := bind_some h
          refine R_aI DX7_sell_108 ev25 ?_
          refine R_constI DX7_sell_109 ci_1 ?_
          refine R_isub DX7_sell_110 ?_
          obtain ⟨s26, es26, h⟩ := bind_some h
          refine R_sI DX7_sell_111 es26 ?_
          refine R_aload DX7_sell_112 3 rfl ?_
          obtain ⟨v27, ev27, h⟩ := bind_some h
          refine R_gR DX7_sell_113 fl_RX7_11 ev27 ?_
          refine R_iload DX7_sell_116 5 rfl ?_
          refine R_constI DX7_sell_117 ci_6 ?_
          refine R_iadd DX7_sell_119 ?_
          refine R_dup2 DX7_sell_120 rfl rfl ?_
          obtain ⟨v28, ev28, h⟩ := bind_some h
          refine R_aI DX7_sell_121 ev28 ?_
          refine R_aload DX7_sell_122 3 rfl ?_
          obtain ⟨v29, ev29, h⟩ := bind_some h
          refine R_gR DX7_sell_123 fl_RX7_39 ev29 ?_
          refine R_iload DX7_sell_126 2 rfl ?_
          obtain ⟨r30, er30, h⟩ := bind_some h
          refine R_cV1 [.int v2] DX7_sell_127 kzvX6_saleBrings ml_RX7_132 ⟨Nat.le_of_ble_eq_true rfl, Nat.le_of_ble_eq_true rfl⟩ rfl (Nat.le_of_ble_eq_true rfl) (kX6_saleBrings er30) ?_
          refine R_iadd DX7_sell_130 ?_
          obtain ⟨s31, es31, h⟩ := bind_some h
          refine R_sI DX7_sell_131 es31 ?_
          refine R_aload DX7_sell_132 3 rfl ?_
          obtain ⟨v32, ev32, h⟩ := bind_some h
          refine R_gR DX7_sell_133 fl_RX7_11 ev32 ?_
          refine R_iload DX7_sell_136 5 rfl ?_
          refine R_constI DX7_sell_137 ci_2 ?_
          refine R_iadd DX7_sell_138 ?_
          refine R_iload DX7_sell_139 2 rfl ?_
          refine R_constI DX7_sell_140 ci_1 ?_
          refine R_iadd DX7_sell_141 ?_
          refine R_aload DX7_sell_142 3 rfl ?_
          obtain ⟨v33, ev33, h⟩ := bind_some h
          refine R_gR DX7_sell_143 fl_RX7_39 ev33 ?_
          obtain ⟨v34, ev34, h⟩ := bind_some h
          refine R_gI DX7_sell_146 fl_RX7_77 ev34 ?_
          refine R_constI DX7_sell_149 ci_1 ?_
          refine R_isub DX7_sell_150 ?_
          refine R_mmin DX7_sell_151 mw_RX7_135 ⟨Nat.le_of_ble_eq_true rfl, Nat.le_of_ble_eq_true rfl⟩ ?_
          obtain ⟨s35, es35, h⟩ := bind_some h
          refine R_sI DX7_sell_154 es35 ?_
          refine R_iload DX7_sell_155 1 rfl ?_
          cases h
          exact R_ireturn rfl DX7_sell_157
        · replace h := if_f h c20
          refine R_if_gt_f DX7_sell_84 c20 ?_
          refine R_constI DX7_sell_87 ci_m1 ?_
          cases h
          exact R_ireturn rfl DX7_sell_88
      · replace h := if_f h c16
        refine R_if_gt_f DX7_sell_62 c16 ?_
        refine R.sub (L' := []) [] rfl ?_
        exact tX7_sell_b65 h
set_option maxRecDepth 8000 in
theorem tX7_flyHour_b106 {G : Gm} {x0 : Nat} {x2 : Int32} {x3 : Int32} {x4 : Int32} {s : Hp} {w : Hp} (h : fX7_flyHour_b106 x0 x2 x3 x4 s = some w) : R G MX7_flyHour 106 [(0, .ref x0), (2, .int x2), (3, .int x3), (4, .int x4)] [] s (none, w) := by
  unfold fX7_flyHour_b106 at h
  refine R_aload DX7_flyHour_106 0 rfl ?_
  obtain ⟨v17, ev17, h⟩ := bind_some h
  refine R_gR DX7_flyHour_107 fl_RX7_25 ev17 ?_
  refine R_iload DX7_flyHour_110 3 rfl ?_
  refine R_aload DX7_flyHour_112 0 rfl ?_
  refine R_iload DX7_flyHour_113 1 rfl ?_
  refine R_iload DX7_flyHour_114 2 rfl ?_
  obtain ⟨r18, er18, h⟩ := bind_some h
  refine R_cV1 [.int x2, .int x3] DX7_flyHour_115 kzvX7_sell ml_RX7_107 ⟨Nat.le_of_ble_eq_true rfl, Nat.le_of_ble_eq_true rfl⟩ rfl (Nat.le_of_ble_eq_true rfl) (kX7_sell er18) ?_
  obtain ⟨s19, es19, h⟩ := bind_some h
  refine R_sI DX7_flyHour_118 es19 ?_
  cases h
  exact R_return rfl DX7_flyHour_119
set_option maxRecDepth 8000 in
theorem tX7_flyHour_b59 {G : Gm} {x0 : Nat} {x2 : Int32} {x3 : Int32} {x4 : Int32} {s : Hp} {w : Hp} (h : fX7_flyHour_b59 x0 x2 x3 x4 s = some w) : R G MX7_flyHour 59 [(0, .ref x0), (2, .int x2), (3, .int x3), (4, .int x4)] [] s (none, w) := by
  unfold fX7_flyHour_b59 at h
  refine R_aload DX7_flyHour_59 0 rfl ?_
  obtain ⟨v11, ev11, h⟩ := bind_some h
  refine R_gR DX7_flyHour_60 fl_RX7_21 ev11 ?_
  refine R_iload DX7_flyHour_63 3 rfl ?_
  refine R_aload DX7_flyHour_65 0 rfl ?_
  refine R_iload DX7_flyHour_66 1 rfl ?_
  refine R_iload DX7_flyHour_67 2 rfl ?_
  obtain ⟨r12, er12, h⟩ := bind_some h
  refine R_cV1 [.int x2, .int x3] DX7_flyHour_68 kzvX7_carry ml_RX7_99 ⟨Nat.le_of_ble_eq_true rfl, Nat.le_of_ble_eq_true rfl⟩ rfl (Nat.le_of_ble_eq_true rfl) (kX7_carry er12) ?_
  obtain ⟨s13, es13, h⟩ := bind_some h
  refine R_sZ DX7_flyHour_71 es13 ?_
  refine R_aload DX7_flyHour_72 0 rfl ?_
  obtain ⟨v14, ev14, h⟩ := bind_some h
  refine R_gR DX7_flyHour_73 fl_RX7_39 ev14 ?_
  refine R_iload DX7_flyHour_76 1 rfl ?_
  obtain ⟨r15, er15, h⟩ := bind_some h
  refine R_cV1 [.int x2] DX7_flyHour_77 kzvX6_coolsIn ml_RX7_103 ⟨Nat.le_of_ble_eq_true rfl, Nat.le_of_ble_eq_true rfl⟩ rfl (Nat.le_of_ble_eq_true rfl) (kX6_coolsIn er15) ?_
  by_cases c16 : r15.1 = 0
  · replace h := if_t h c16
    refine R_if_eq_t DX7_flyHour_80 c16 ?_
    exact tX7_flyHour_b106 h
  · replace h := if_f h c16
    refine R_if_eq_f DX7_flyHour_80 c16 ?_
    refine R_aload DX7_flyHour_83 0 rfl ?_
    obtain ⟨v20, ev20, h⟩ := bind_some h
    refine R_gR DX7_flyHour_84 fl_RX7_11 ev20 ?_
    refine R_iload DX7_flyHour_87 2 rfl ?_
    refine R_constI DX7_flyHour_88 ci_2 ?_
    refine R_iadd DX7_flyHour_89 ?_
    obtain ⟨v21, ev21, h⟩ := bind_some h
    refine R_aI DX7_flyHour_90 ev21 ?_
    by_cases c22 : v21 ≤ 0
    · replace h := if_t h c22
      refine R_if_le_t DX7_flyHour_91 c22 ?_
      exact tX7_flyHour_b106 h
    · replace h := if_f h c22
      refine R_if_le_f DX7_flyHour_91 c22 ?_
      refine R_aload DX7_flyHour_94 0 rfl ?_
      obtain ⟨v23, ev23, h⟩ := bind_some h
      refine R_gR DX7_flyHour_95 fl_RX7_11 ev23 ?_
      refine R_iload DX7_flyHour_98 2 rfl ?_
      refine R_constI DX7_flyHour_99 ci_2 ?_
      refine R_iadd DX7_flyHour_100 ?_
      refine R_dup2 DX7_flyHour_101 rfl rfl ?_
      obtain ⟨v24, ev24, h⟩ := bind_some h
      refine R_aI DX7_flyHour_102 ev24 ?_
      refine R_constI DX7_flyHour_103 ci_1 ?_
      refine R_isub DX7_flyHour_104 ?_
      obtain ⟨s25, es25, h⟩ := bind_some h
      refine R_sI DX7_flyHour_105 es25 ?_
      exact tX7_flyHour_b106 h
set_option maxRecDepth 8000 in
theorem kX7_flyHour {G : Gm} {x0 : Nat} {x1 : Int32} {x2 : Int32} {s : Hp} {w : Hp} (h : fX7_flyHour x0 x1 x2 s = some w) : (s.2.2 x0).1 = 7 ∧ Call G MX7_flyHour [.ref x0, .int x1, .int x2] s (none, w) := by
  unfold fX7_flyHour at h
  obtain ⟨_, e0, h⟩ := bind_some h
  refine ⟨ck_some e0, Call.of_R pnRX7 (Nat.le_of_ble_eq_true rfl) ?_⟩
  clear e0
  show R G MX7_flyHour 0 [(0, .ref x0), (1, .int x1), (2, .int x2)] [] s (none, w)
  refine R_aload DX7_flyHour_0 0 rfl ?_
  refine R_iload DX7_flyHour_1 1 rfl ?_
  refine R_iload DX7_flyHour_2 2 rfl ?_
  refine R_constI DX7_flyHour_3 ci_1 ?_
  refine R_iadd DX7_flyHour_4 ?_
  obtain ⟨r1, er1, h⟩ := bind_some h
  refine R_cV1 [.int x1, .int (x2 + (iI 1))] DX7_flyHour_5 kzvX7_pageOf ml_RX7_48 ⟨Nat.le_of_ble_eq_true rfl, Nat.le_of_ble_eq_true rfl⟩ rfl (Nat.le_of_ble_eq_true rfl) (kX7_pageOf er1) ?_
  refine R_istore [(3, .int r1.1), (0, .ref x0), (1, .int x1), (2, .int x2)] DX7_flyHour_8 (by decide) rfl ?_
  refine R_iload DX7_flyHour_9 2 rfl ?_
  refine R_constI DX7_flyHour_10 ci_24 ?_
  refine R_imul DX7_flyHour_12 ?_
  refine R_iload DX7_flyHour_13 3 rfl ?_
  refine R_iadd DX7_flyHour_14 ?_
  obtain ⟨z2, ez2, h⟩ := lt_some h
  refine R_istoreE ez2 [(4, .int z2), (3, .int r1.1), (0, .ref x0), (1, .int x1), (2, .int x2)] DX7_flyHour_15 (by decide) rfl ?_
  refine R_aload DX7_flyHour_17 2 rfl ?_
  obtain ⟨v3, ev3, h⟩ := bind_some h
  refine R_gR DX7_flyHour_18 fl_RX7_39 ev3 ?_
  refine R_iload DX7_flyHour_21 3 rfl ?_
  refine R_iload DX7_flyHour_22 4 rfl ?_
  obtain ⟨r4, er4, h⟩ := bind_some h
  refine R_cV1 [.int x1, .int x2] DX7_flyHour_23 kzvX6_actAt ml_RX7_90 ⟨Nat.le_of_ble_eq_true rfl, Nat.le_of_ble_eq_true rfl⟩ rfl (Nat.le_of_ble_eq_true rfl) (kX6_actAt er4) ?_
  refine R_istore [(5, .int r4.1), (4, .int z2), (3, .int r1.1), (0, .ref x0), (1, .int x1), (2, .int x2)] DX7_flyHour_26 (by decide) rfl ?_
  refine R_aload DX7_flyHour_28 3 rfl ?_
  obtain ⟨v5, ev5, h⟩ := bind_some h
  refine R_gR DX7_flyHour_29 fl_RX7_18 ev5 ?_
  refine R_iload DX7_flyHour_32 1 rfl ?_
  refine R_aload DX7_flyHour_34 3 rfl ?_
  refine R_iload DX7_flyHour_35 0 rfl ?_
  refine R_iload DX7_flyHour_37 2 rfl ?_
  obtain ⟨r6, er6, h⟩ := bind_some h
  refine R_cV1 [.int r4.1, .int r1.1] DX7_flyHour_38 kzvX7_reasonAgainst ml_RX7_93 ⟨Nat.le_of_ble_eq_true rfl, Nat.le_of_ble_eq_true rfl⟩ rfl (Nat.le_of_ble_eq_true rfl) (kX7_reasonAgainst er6) ?_
  obtain ⟨s7, es7, h⟩ := bind_some h
  refine R_sI DX7_flyHour_41 es7 ?_
  refine R_aload DX7_flyHour_42 3 rfl ?_
  obtain ⟨v8, ev8, h⟩ := bind_some h
  refine R_gR DX7_flyHour_43 fl_RX7_18 ev8 ?_
  refine R_iload DX7_flyHour_46 1 rfl ?_
  obtain ⟨v9, ev9, h⟩ := bind_some h
  refine R_aI DX7_flyHour_48 ev9 ?_
  by_cases c10 : v9 = 0
  · replace h := if_t h c10
    refine R_if_ne_f DX7_flyHour_49 c10 ?_
    refine R_aload DX7_flyHour_52 3 rfl ?_
    refine R_iload DX7_flyHour_53 0 rfl ?_
    refine R_iload DX7_flyHour_55 2 rfl ?_
    obtain ⟨s26, es26, h⟩ := bind_some h
    refine R_cV0 [.int r4.1, .int r1.1] DX7_flyHour_56 kzvX7_doAct ml_RX7_96 ⟨Nat.le_of_ble_eq_true rfl, Nat.le_of_ble_eq_true rfl⟩ rfl (Nat.le_of_ble_eq_true rfl) (kX7_doAct es26) ?_
    refine R.sub (L' := [(0, .ref x0), (2, .int x2), (3, .int r1.1), (4, .int z2)]) [3, 5, 2, 1] rfl ?_
    exact tX7_flyHour_b59 h
  · replace h := if_f h c10
    refine R_if_ne_t DX7_flyHour_49 c10 ?_
    refine R.sub (L' := [(0, .ref x0), (2, .int x2), (3, .int r1.1), (4, .int z2)]) [3, 5, 2, 1] rfl ?_
    exact tX7_flyHour_b59 h
set_option maxRecDepth 8000 in
theorem tX7_flyFrom_l66 {G : Gm} {x0 : Nat} {x2 : Int32} {o : Option Value × Hp} {a : Int32 × Hp} {w : (Int32 × Hp) ⊕ ((Hp))} (h : fX7_flyFrom_l66 x0 x2 a = some w) (hc : ∀ (q5 : Int32) (qs : Hp), w = .inl (q5, qs) → R G MX7_flyFrom 66 [(0, .ref x0), (2, .int x2), (5, .int q5)] [] qs o) (he0 : ∀ (qs : Hp), w = .inr qs → R G MX7_flyFrom 91 [(0, .ref x0), (2, .int x2)] [] qs o) : R G MX7_flyFrom 66 [(0, .ref x0), (2, .int x2), (5, .int a.1)] [] a.2 o := by
  unfold fX7_flyFrom_l66 at h
  refine R_iload DX7_flyFrom_66 2 rfl ?_
  refine R_aload DX7_flyFrom_68 0 rfl ?_
  obtain ⟨v13, ev13, h⟩ := bind_some h
  refine R_gR DX7_flyFrom_69 fl_RX7_39 ev13 ?_
  obtain ⟨v14, ev14, h⟩ := bind_some h
  refine R_gI DX7_flyFrom_72 fl_RX7_43 ev14 ?_
  by_cases c15 : v14 ≤ a.1
  · replace h := if_t h c15
    refine R_icmp_ge_t DX7_flyFrom_75 c15 ?_
    refine R.sub (L' := [(0, .ref x0), (2, .int x2)]) [0, 1] rfl ?_
    cases h
    exact he0 _ rfl
  · replace h := if_f h c15
    refine R_icmp_ge_f DX7_flyFrom_75 c15 ?_
    refine R_aload DX7_flyFrom_78 0 rfl ?_
    refine R_iload DX7_flyFrom_79 2 rfl ?_
    refine R_iload DX7_flyFrom_81 1 rfl ?_
    obtain ⟨s16, es16, h⟩ := bind_some h
    refine R_cV0 [.int a.1, .int x2] DX7_flyFrom_82 kzvX7_flyHour ml_RX7_73 ⟨Nat.le_of_ble_eq_true rfl, Nat.le_of_ble_eq_true rfl⟩ rfl (Nat.le_of_ble_eq_true rfl) (kX7_flyHour es16) ?_
    refine R_iinc [(5, .int (a.1 + iI 1)), (0, .ref x0), (2, .int x2)] DX7_flyFrom_85 2 rfl (v := a.1 + iI 1) (by rfl) (by decide) rfl ?_
    refine R_goto DX7_flyFrom_88 ?_
    refine R.sub (L' := [(0, .ref x0), (2, .int x2), (5, .int (a.1 + iI 1))]) [1, 2, 0] rfl ?_
    cases h
    exact hc _ _ rfl
set_option maxRecDepth 8000 in
theorem tX7_flyFrom_l2 {G : Gm} {x0 : Nat} {o : Option Value × Hp} {a : Int32 × Hp} {w : (Int32 × Hp) ⊕ ((Hp))} (h : fX7_flyFrom_l2 x0 a = some w) (hc : ∀ (q2 : Int32) (qs : Hp), w = .inl (q2, qs) → R G MX7_flyFrom 2 [(0, .ref x0), (2, .int q2)] [] qs o) (he0 : ∀ (qs : Hp), w = .inr qs → R G MX7_flyFrom 97 [] [] qs o) : R G MX7_flyFrom 2 [(0, .ref x0), (2, .int a.1)] [] a.2 o := by
  unfold fX7_flyFrom_l2 at h
  refine R_iload DX7_flyFrom_2 1 rfl ?_
  refine R_aload DX7_flyFrom_3 0 rfl ?_
  obtain ⟨v1, ev1, h⟩ := bind_some h
  refine R_gR DX7_flyFrom_4 fl_RX7_39 ev1 ?_
  obtain ⟨v2, ev2, h⟩ := bind_some h
  refine R_gI DX7_flyFrom_7 fl_RX7_67 ev2 ?_
  by_cases c3 : v2 ≤ a.1
  · replace h := if_t h c3
    refine R_icmp_ge_t DX7_flyFrom_10 c3 ?_
    refine R.sub (L' := []) [] rfl ?_
    cases h
    exact he0 _ rfl
  · replace h := if_f h c3
    refine R_icmp_ge_f DX7_flyFrom_10 c3 ?_
    refine R_iload DX7_flyFrom_13 1 rfl ?_
    refine R_constI DX7_flyFrom_14 ci_28 ?_
    refine R_imul DX7_flyFrom_16 ?_
    obtain ⟨z4, ez4, h⟩ := lt_some h
    refine R_istoreE ez4 [(3, .int z4), (0, .ref x0), (2, .int a.1)] DX7_flyFrom_17 (by decide) rfl ?_
    refine R_aload DX7_flyFrom_18 1 rfl ?_
    obtain ⟨v5, ev5, h⟩ := bind_some h
    refine R_gR DX7_flyFrom_19 fl_RX7_11 ev5 ?_
    refine R_iload DX7_flyFrom_22 0 rfl ?_
    refine R_aload DX7_flyFrom_23 1 rfl ?_
    obtain ⟨v6, ev6, h⟩ := bind_some h
    refine R_gR DX7_flyFrom_24 fl_RX7_11 ev6 ?_
    refine R_iload DX7_flyFrom_27 0 rfl ?_
    refine R_constI DX7_flyFrom_28 ci_28 ?_
    refine R_iadd DX7_flyFrom_30 ?_
    refine R_constI DX7_flyFrom_31 ci_28 ?_
    obtain ⟨s7, es7, h⟩ := bind_some h
    refine R_cpyI DX7_flyFrom_33 wc_RX7_61 ⟨Nat.le_of_ble_eq_true rfl, Nat.le_of_ble_eq_true rfl⟩ es7 ?_
    refine R_iload DX7_flyFrom_36 2 rfl ?_
    refine R_constI DX7_flyFrom_37 ci_5 ?_
    refine R_imul DX7_flyFrom_38 ?_
    obtain ⟨z8, ez8, h⟩ := lt_some h
    refine R_istoreE ez8 [(4, .int z8), (3, .int z4), (0, .ref x0), (2, .int a.1)] DX7_flyFrom_39 (by decide) rfl ?_
    refine R_aload DX7_flyFrom_41 2 rfl ?_
    obtain ⟨v9, ev9, h⟩ := bind_some h
    refine R_gR DX7_flyFrom_42 fl_RX7_15 ev9 ?_
    refine R_iload DX7_flyFrom_45 0 rfl ?_
    refine R_aload DX7_flyFrom_47 2 rfl ?_
    obtain ⟨v10, ev10, h⟩ := bind_some h
    refine R_gR DX7_flyFrom_48 fl_RX7_15 ev10 ?_
    refine R_iload DX7_flyFrom_51 0 rfl ?_
    refine R_constI DX7_flyFrom_53 ci_5 ?_
    refine R_iadd DX7_flyFrom_54 ?_
    refine R_constI DX7_flyFrom_55 ci_5 ?_
    obtain ⟨s11, es11, h⟩ := bind_some h
    refine R_cpyI DX7_flyFrom_56 wc_RX7_61 ⟨Nat.le_of_ble_eq_true rfl, Nat.le_of_ble_eq_true rfl⟩ es11 ?_
    refine R_aload DX7_flyFrom_59 2 rfl ?_
    obtain ⟨s12, es12, h⟩ := bind_some h
    refine R_cV0 [] DX7_flyFrom_60 kzvX7_drawGusts ml_RX7_70 ⟨Nat.le_of_ble_eq_true rfl, Nat.le_of_ble_eq_true rfl⟩ rfl (Nat.le_of_ble_eq_true rfl) (kX7_drawGusts es12) ?_
    refine R_constI DX7_flyFrom_63 ci_0 ?_
    refine R_istore [(5, .int (iI 0)), (4, .int z8), (3, .int z4), (0, .ref x0), (2, .int a.1)] DX7_flyFrom_64 (by decide) rfl ?_
    refine R.sub (L' := [(0, .ref x0), (2, .int a.1), (5, .int (iI 0))]) [3, 4, 0] rfl ?_
    obtain ⟨r17, hi, h⟩ := bind_some h
    have hE : (fun u66 : Hp => R G MX7_flyFrom 91 [(0, .ref x0), (2, .int a.1)] [] u66 o) r17 → ∀ (q5 : Int32) (qs : Hp), iter (fX7_flyFrom_l66 x0 a.1) FU (q5, qs) = some r17 → R G MX7_flyFrom 66 [(0, .ref x0), (2, .int a.1), (5, .int q5)] [] qs o := fun hX q5 qs hj => loop_R (fX7_flyFrom_l66 x0 a.1) (fun p66 : Int32 × Hp => R G MX7_flyFrom 66 [(0, .ref x0), (2, .int a.1), (5, .int p66.1)] [] p66.2 o) (fun u66 : Hp => R G MX7_flyFrom 91 [(0, .ref x0), (2, .int a.1)] [] u66 o) (fun a w hw hc he => tX7_flyFrom_l66 hw (fun q5 qs e => hc (q5, qs) e) (fun qs e => he qs e)) FU (q5, qs) r17 hj hX
    refine hE ?_ _ _ hi
    clear hE hi
    refine R_iinc [(2, .int (a.1 + iI 1)), (0, .ref x0)] DX7_flyFrom_91 1 rfl (v := a.1 + iI 1) (by rfl) (by decide) rfl ?_
    refine R_goto DX7_flyFrom_94 ?_
    refine R.sub (L' := [(0, .ref x0), (2, .int (a.1 + iI 1))]) [1, 0] rfl ?_
    cases h
    exact hc _ _ rfl
set_option maxRecDepth 8000 in
theorem kX7_flyFrom {G : Gm} {x0 : Nat} {x1 : Int32} {s : Hp} {w : Hp} (h : fX7_flyFrom x0 x1 s = some w) : (s.2.2 x0).1 = 7 ∧ Call G MX7_flyFrom [.ref x0, .int x1] s (none, w) := by
  unfold fX7_flyFrom at h
  obtain ⟨_, e0, h⟩ := bind_some h
  refine ⟨ck_some e0, Call.of_R pnRX7 (Nat.le_of_ble_eq_true rfl) ?_⟩
  clear e0
  show R G MX7_flyFrom 0 [(0, .ref x0), (1, .int x1)] [] s (none, w)
  refine R_iload DX7_flyFrom_0 1 rfl ?_
  refine R_istore [(2, .int x1), (0, .ref x0), (1, .int x1)] DX7_flyFrom_1 (by decide) rfl ?_
  refine R.sub (L' := [(0, .ref x0), (2, .int x1)]) [1, 0] rfl ?_
  obtain ⟨r18, hi, h⟩ := bind_some h
  have hE : (fun u2 : Hp => R G MX7_flyFrom 97 [] [] u2 (none, w)) r18 → ∀ (q2 : Int32) (qs : Hp), iter (fX7_flyFrom_l2 x0) FU (q2, qs) = some r18 → R G MX7_flyFrom 2 [(0, .ref x0), (2, .int q2)] [] qs (none, w) := fun hX q2 qs hj => loop_R (fX7_flyFrom_l2 x0) (fun p2 : Int32 × Hp => R G MX7_flyFrom 2 [(0, .ref x0), (2, .int p2.1)] [] p2.2 (none, w)) (fun u2 : Hp => R G MX7_flyFrom 97 [] [] u2 (none, w)) (fun a w hw hc he => tX7_flyFrom_l2 hw (fun q2 qs e => hc (q2, qs) e) (fun qs e => he qs e)) FU (q2, qs) r18 hj hX
  refine hE ?_ _ _ hi
  clear hE hi
  cases h
  exact R_return rfl DX7_flyFrom_97
set_option maxRecDepth 8000 in
theorem kX7_factBehind {G : Gm} {x0 : Nat} {x1 : Int32} {x2 : Int32} {x3 : Int32} {s : Hp} {w : Int32 × Hp} (h : fX7_factBehind x0 x1 x2 x3 s = some w) : (s.2.2 x0).1 = 7 ∧ Call G MX7_factBehind [.ref x0, .int x1, .int x2, .int x3] s (some (.int w.1), w.2) := by
  unfold fX7_factBehind at h
  obtain ⟨_, e0, h⟩ := bind_some h
  refine ⟨ck_some e0, Call.of_R pnRX7 (Nat.le_of_ble_eq_true rfl) ?_⟩
  clear e0
  show R G MX7_factBehind 0 [(0, .ref x0), (1, .int x1), (2, .int x2), (3, .int x3)] [] s (some (.int w.1), w.2)
  refine R_aload DX7_factBehind_0 0 rfl ?_
  obtain ⟨v1, ev1, h⟩ := bind_some h
  refine R_gR DX7_factBehind_1 fl_RX7_11 ev1 ?_
  refine R_aload DX7_factBehind_4 0 rfl ?_
  refine R_iload DX7_factBehind_5 1 rfl ?_
  refine R_iload DX7_factBehind_6 2 rfl ?_
  refine R_constI DX7_factBehind_7 ci_1 ?_
  refine R_iadd DX7_factBehind_8 ?_
  obtain ⟨r2, er2, h⟩ := bind_some h
  refine R_cV1 [.int x1, .int (x2 + (iI 1))] DX7_factBehind_9 kzvX7_pageOf ml_RX7_48 ⟨Nat.le_of_ble_eq_true rfl, Nat.le_of_ble_eq_true rfl⟩ rfl (Nat.le_of_ble_eq_true rfl) (kX7_pageOf er2) ?_
  refine R_iload DX7_factBehind_12 3 rfl ?_
  refine R_iadd DX7_factBehind_13 ?_
  obtain ⟨v3, ev3, h⟩ := bind_some h
  refine R_aI DX7_factBehind_14 ev3 ?_
  cases h
  exact R_ireturn rfl DX7_factBehind_15
set_option maxRecDepth 8000 in
theorem kX7_columnBehind {G : Gm} {x0 : Nat} {x1 : Int32} {x2 : Int32} {s : Hp} {w : Int32 × Hp} (h : fX7_columnBehind x0 x1 x2 s = some w) : (s.2.2 x0).1 = 7 ∧ Call G MX7_columnBehind [.ref x0, .int x1, .int x2] s (some (.int w.1), w.2) := by
  unfold fX7_columnBehind at h
  obtain ⟨_, e0, h⟩ := bind_some h
  refine ⟨ck_some e0, Call.of_R pnRX7 (Nat.le_of_ble_eq_true rfl) ?_⟩
  clear e0
  show R G MX7_columnBehind 0 [(0, .ref x0), (1, .int x1), (2, .int x2)] [] s (some (.int w.1), w.2)
  refine R_aload DX7_columnBehind_0 0 rfl ?_
  refine R_iload DX7_columnBehind_1 1 rfl ?_
  refine R_iload DX7_columnBehind_2 2 rfl ?_
  refine R_constI DX7_columnBehind_3 ci_0 ?_
  obtain ⟨r1, er1, h⟩ := bind_some h
  refine R_cV1 [.int x1, .int x2, .int (iI 0)] DX7_columnBehind_4 kzvX7_factBehind ml_RX7_140 ⟨Nat.le_of_ble_eq_true rfl, Nat.le_of_ble_eq_true rfl⟩ rfl (Nat.le_of_ble_eq_true rfl) (kX7_factBehind er1) ?_
  refine R_aload DX7_columnBehind_7 0 rfl ?_
  refine R_iload DX7_columnBehind_8 1 rfl ?_
  refine R_iload DX7_columnBehind_9 2 rfl ?_
  refine R_constI DX7_columnBehind_10 ci_1 ?_
  obtain ⟨r2, er2, h⟩ := bind_some h
  refine R_cV1 [.int x1, .int x2, .int (iI 1)] DX7_columnBehind_11 kzvX7_factBehind ml_RX7_140 ⟨Nat.le_of_ble_eq_true rfl, Nat.le_of_ble_eq_true rfl⟩ rfl (Nat.le_of_ble_eq_true rfl) (kX7_factBehind er2) ?_
  obtain ⟨r3, er3, h⟩ := bind_some h
  refine R_cSN1 [.int r1.1, .int r2.1] DX7_columnBehind_14 kzsX8_columnOf ml_RX7_113 ⟨Nat.le_of_ble_eq_true rfl, Nat.le_of_ble_eq_true rfl⟩ rfl (Nat.le_of_ble_eq_true rfl) (kX8_columnOf er3) ?_
  cases h
  exact R_ireturn rfl DX7_columnBehind_17
set_option maxRecDepth 8000 in
theorem kX7_factAtEnd {G : Gm} {x0 : Nat} {x1 : Int32} {x2 : Int32} {s : Hp} {w : Int32 × Hp} (h : fX7_factAtEnd x0 x1 x2 s = some w) : (s.2.2 x0).1 = 7 ∧ Call G MX7_factAtEnd [.ref x0, .int x1, .int x2] s (some (.int w.1), w.2) := by
  unfold fX7_factAtEnd at h
  obtain ⟨_, e0, h⟩ := bind_some h
  refine ⟨ck_some e0, Call.of_R pnRX7 (Nat.le_of_ble_eq_true rfl) ?_⟩
  clear e0
  show R G MX7_factAtEnd 0 [(0, .ref x0), (1, .int x1), (2, .int x2)] [] s (some (.int w.1), w.2)
  refine R_aload DX7_factAtEnd_0 0 rfl ?_
  refine R_iload DX7_factAtEnd_1 1 rfl ?_
  refine R_aload DX7_factAtEnd_2 0 rfl ?_
  obtain ⟨v1, ev1, h⟩ := bind_some h
  refine R_gR DX7_factAtEnd_3 fl_RX7_39 ev1 ?_
  obtain ⟨v2, ev2, h⟩ := bind_some h
  refine R_gI DX7_factAtEnd_6 fl_RX7_67 ev2 ?_
  refine R_constI DX7_factAtEnd_9 ci_1 ?_
  refine R_isub DX7_factAtEnd_10 ?_
  refine R_iload DX7_factAtEnd_11 2 rfl ?_
  obtain ⟨r3, er3, h⟩ := bind_some h
  refine R_cV1 [.int x1, .int (v2 - (iI 1)), .int x2] DX7_factAtEnd_12 kzvX7_factBehind ml_RX7_140 ⟨Nat.le_of_ble_eq_true rfl, Nat.le_of_ble_eq_true rfl⟩ rfl (Nat.le_of_ble_eq_true rfl) (kX7_factBehind er3) ?_
  cases h
  exact R_ireturn rfl DX7_factAtEnd_15
set_option maxRecDepth 8000 in
theorem kX7_columnAtEnd {G : Gm} {x0 : Nat} {x1 : Int32} {s : Hp} {w : Int32 × Hp} (h : fX7_columnAtEnd x0 x1 s = some w) : (s.2.2 x0).1 = 7 ∧ Call G MX7_columnAtEnd [.ref x0, .int x1] s (some (.int w.1), w.2) := by
  unfold fX7_columnAtEnd at h
  obtain ⟨_, e0, h⟩ := bind_some h
  refine ⟨ck_some e0, Call.of_R pnRX7 (Nat.le_of_ble_eq_true rfl) ?_⟩
  clear e0
  show R G MX7_columnAtEnd 0 [(0, .ref x0), (1, .int x1)] [] s (some (.int w.1), w.2)
  refine R_aload DX7_columnAtEnd_0 0 rfl ?_
  refine R_iload DX7_columnAtEnd_1 1 rfl ?_
  refine R_aload DX7_columnAtEnd_2 0 rfl ?_
  obtain ⟨v1, ev1, h⟩ := bind_some h
  refine R_gR DX7_columnAtEnd_3 fl_RX7_39 ev1 ?_
  obtain ⟨v2, ev2, h⟩ := bind_some h
  refine R_gI DX7_columnAtEnd_6 fl_RX7_67 ev2 ?_
  refine R_constI DX7_columnAtEnd_9 ci_1 ?_
  refine R_isub DX7_columnAtEnd_10 ?_
  obtain ⟨r3, er3, h⟩ := bind_some h
  refine R_cV1 [.int x1, .int (v2 - (iI 1))] DX7_columnAtEnd_11 kzvX7_columnBehind ml_RX7_144 ⟨Nat.le_of_ble_eq_true rfl, Nat.le_of_ble_eq_true rfl⟩ rfl (Nat.le_of_ble_eq_true rfl) (kX7_columnBehind er3) ?_
  cases h
  exact R_ireturn rfl DX7_columnAtEnd_14
set_option maxRecDepth 8000 in
theorem kX7_wantedAtEnd {G : Gm} {x0 : Nat} {x1 : Int32} {s : Hp} {w : Int32 × Hp} (h : fX7_wantedAtEnd x0 x1 s = some w) : (s.2.2 x0).1 = 7 ∧ Call G MX7_wantedAtEnd [.ref x0, .int x1] s (some (.int w.1), w.2) := by
  unfold fX7_wantedAtEnd at h
  obtain ⟨_, e0, h⟩ := bind_some h
  refine ⟨ck_some e0, Call.of_R pnRX7 (Nat.le_of_ble_eq_true rfl) ?_⟩
  clear e0
  show R G MX7_wantedAtEnd 0 [(0, .ref x0), (1, .int x1)] [] s (some (.int w.1), w.2)
  refine R_aload DX7_wantedAtEnd_0 0 rfl ?_
  obtain ⟨v1, ev1, h⟩ := bind_some h
  refine R_gR DX7_wantedAtEnd_1 fl_RX7_15 ev1 ?_
  refine R_aload DX7_wantedAtEnd_4 0 rfl ?_
  obtain ⟨v2, ev2, h⟩ := bind_some h
  refine R_gR DX7_wantedAtEnd_5 fl_RX7_39 ev2 ?_
  obtain ⟨v3, ev3, h⟩ := bind_some h
  refine R_gI DX7_wantedAtEnd_8 fl_RX7_67 ev3 ?_
  refine R_constI DX7_wantedAtEnd_11 ci_5 ?_
  refine R_imul DX7_wantedAtEnd_12 ?_
  refine R_iload DX7_wantedAtEnd_13 1 rfl ?_
  refine R_iadd DX7_wantedAtEnd_14 ?_
  obtain ⟨v4, ev4, h⟩ := bind_some h
  refine R_aI DX7_wantedAtEnd_15 ev4 ?_
  cases h
  exact R_ireturn rfl DX7_wantedAtEnd_16
set_option maxRecDepth 8000 in
theorem kX7_reasonAt {G : Gm} {x0 : Nat} {x1 : Int32} {x2 : Int32} {s : Hp} {w : Int32 × Hp} (h : fX7_reasonAt x0 x1 x2 s = some w) : (s.2.2 x0).1 = 7 ∧ Call G MX7_reasonAt [.ref x0, .int x1, .int x2] s (some (.int w.1), w.2) := by
  unfold fX7_reasonAt at h
  obtain ⟨_, e0, h⟩ := bind_some h
  refine ⟨ck_some e0, Call.of_R pnRX7 (Nat.le_of_ble_eq_true rfl) ?_⟩
  clear e0
  show R G MX7_reasonAt 0 [(0, .ref x0), (1, .int x1), (2, .int x2)] [] s (some (.int w.1), w.2)
  refine R_aload DX7_reasonAt_0 0 rfl ?_
  obtain ⟨v1, ev1, h⟩ := bind_some h
  refine R_gR DX7_reasonAt_1 fl_RX7_18 ev1 ?_
  refine R_iload DX7_reasonAt_4 1 rfl ?_
  refine R_constI DX7_reasonAt_5 ci_24 ?_
  refine R_imul DX7_reasonAt_7 ?_
  refine R_iload DX7_reasonAt_8 2 rfl ?_
  refine R_iadd DX7_reasonAt_9 ?_
  obtain ⟨v2, ev2, h⟩ := bind_some h
  refine R_aI DX7_reasonAt_10 ev2 ?_
  cases h
  exact R_ireturn rfl DX7_reasonAt_11
set_option maxRecDepth 8000 in
theorem kX7_isCarriedAt {G : Gm} {x0 : Nat} {x1 : Int32} {x2 : Int32} {s : Hp} {w : Int32 × Hp} (h : fX7_isCarriedAt x0 x1 x2 s = some w) : (s.2.2 x0).1 = 7 ∧ Call G MX7_isCarriedAt [.ref x0, .int x1, .int x2] s (some (.int w.1), w.2) := by
  unfold fX7_isCarriedAt at h
  obtain ⟨_, e0, h⟩ := bind_some h
  refine ⟨ck_some e0, Call.of_R pnRX7 (Nat.le_of_ble_eq_true rfl) ?_⟩
  clear e0
  show R G MX7_isCarriedAt 0 [(0, .ref x0), (1, .int x1), (2, .int x2)] [] s (some (.int w.1), w.2)
  refine R_aload DX7_isCarriedAt_0 0 rfl ?_
  obtain ⟨v1, ev1, h⟩ := bind_some h
  refine R_gR DX7_isCarriedAt_1 fl_RX7_21 ev1 ?_
  refine R_iload DX7_isCarriedAt_4 1 rfl ?_
  refine R_constI DX7_isCarriedAt_5 ci_24 ?_
  refine R_imul DX7_isCarriedAt_7 ?_
  refine R_iload DX7_isCarriedAt_8 2 rfl ?_
  refine R_iadd DX7_isCarriedAt_9 ?_
  obtain ⟨v2, ev2, h⟩ := bind_some h
  refine R_aZ DX7_isCarriedAt_10 ev2 ?_
  obtain ⟨_, ez, h⟩ := bind_some h
  cases h
  exact R_zreturn rfl DX7_isCarriedAt_11 (rZ_some ez)
set_option maxRecDepth 8000 in
theorem kX7_saleDoorAt {G : Gm} {x0 : Nat} {x1 : Int32} {x2 : Int32} {s : Hp} {w : Int32 × Hp} (h : fX7_saleDoorAt x0 x1 x2 s = some w) : (s.2.2 x0).1 = 7 ∧ Call G MX7_saleDoorAt [.ref x0, .int x1, .int x2] s (some (.int w.1), w.2) := by
  unfold fX7_saleDoorAt at h
  obtain ⟨_, e0, h⟩ := bind_some h
  refine ⟨ck_some e0, Call.of_R pnRX7 (Nat.le_of_ble_eq_true rfl) ?_⟩
  clear e0
  show R G MX7_saleDoorAt 0 [(0, .ref x0), (1, .int x1), (2, .int x2)] [] s (some (.int w.1), w.2)
  refine R_aload DX7_saleDoorAt_0 0 rfl ?_
  obtain ⟨v1, ev1, h⟩ := bind_some h
  refine R_gR DX7_saleDoorAt_1 fl_RX7_25 ev1 ?_
  refine R_iload DX7_saleDoorAt_4 1 rfl ?_
  refine R_constI DX7_saleDoorAt_5 ci_24 ?_
  refine R_imul DX7_saleDoorAt_7 ?_
  refine R_iload DX7_saleDoorAt_8 2 rfl ?_
  refine R_iadd DX7_saleDoorAt_9 ?_
  obtain ⟨v2, ev2, h⟩ := bind_some h
  refine R_aI DX7_saleDoorAt_10 ev2 ?_
  cases h
  exact R_ireturn rfl DX7_saleDoorAt_11
set_option maxRecDepth 8000 in
theorem tX7_moneyOfAll_l4 {G : Gm} {x0 : Nat} {o : Option Value × Hp} {a : Int32 × Int32 × Hp} {w : (Int32 × Int32 × Hp) ⊕ ((Int32 × Hp))} (h : fX7_moneyOfAll_l4 x0 a = some w) (hc : ∀ (q1 : Int32) (q2 : Int32) (qs : Hp), w = .inl (q1, q2, qs) → R G MX7_moneyOfAll 4 [(0, .ref x0), (1, .int q1), (2, .int q2)] [] qs o) (he0 : ∀ (q1 : Int32) (qs : Hp), w = .inr (q1, qs) → R G MX7_moneyOfAll 31 [(1, .int q1)] [] qs o) : R G MX7_moneyOfAll 4 [(0, .ref x0), (1, .int a.1), (2, .int a.2.1)] [] a.2.2 o := by
  unfold fX7_moneyOfAll_l4 at h
  refine R_iload DX7_moneyOfAll_4 2 rfl ?_
  refine R_aload DX7_moneyOfAll_5 0 rfl ?_
  obtain ⟨v1, ev1, h⟩ := bind_some h
  refine R_gR DX7_moneyOfAll_6 fl_RX7_39 ev1 ?_
  obtain ⟨v2, ev2, h⟩ := bind_some h
  refine R_gI DX7_moneyOfAll_9 fl_RX7_43 ev2 ?_
  by_cases c3 : v2 ≤ a.2.1
  · replace h := if_t h c3
    refine R_icmp_ge_t DX7_moneyOfAll_12 c3 ?_
    refine R.sub (L' := [(1, .int a.1)]) [1] rfl ?_
    cases h
    exact he0 _ _ rfl
  · replace h := if_f h c3
    refine R_icmp_ge_f DX7_moneyOfAll_12 c3 ?_
    refine R_iload DX7_moneyOfAll_15 1 rfl ?_
    refine R_aload DX7_moneyOfAll_16 0 rfl ?_
    refine R_iload DX7_moneyOfAll_17 2 rfl ?_
    refine R_constI DX7_moneyOfAll_18 ci_6 ?_
    obtain ⟨r4, er4, h⟩ := bind_some h
    refine R_cV1 [.int a.2.1, .int (iI 6)] DX7_moneyOfAll_20 kzvX7_factAtEnd ml_RX7_147 ⟨Nat.le_of_ble_eq_true rfl, Nat.le_of_ble_eq_true rfl⟩ rfl (Nat.le_of_ble_eq_true rfl) (kX7_factAtEnd er4) ?_
    refine R_iadd DX7_moneyOfAll_23 ?_
    obtain ⟨z5, ez5, h⟩ := lt_some h
    refine R_istoreE ez5 [(1, .int z5), (0, .ref x0), (2, .int a.2.1)] DX7_moneyOfAll_24 (by decide) rfl ?_
    refine R_iinc [(2, .int (a.2.1 + iI 1)), (1, .int z5), (0, .ref x0)] DX7_moneyOfAll_25 2 rfl (v := a.2.1 + iI 1) (by rfl) (by decide) rfl ?_
    refine R_goto DX7_moneyOfAll_28 ?_
    refine R.sub (L' := [(0, .ref x0), (1, .int z5), (2, .int (a.2.1 + iI 1))]) [2, 1, 0] rfl ?_
    cases h
    exact hc _ _ _ rfl
set_option maxRecDepth 8000 in
theorem kX7_moneyOfAll {G : Gm} {x0 : Nat} {s : Hp} {w : Int32 × Hp} (h : fX7_moneyOfAll x0 s = some w) : (s.2.2 x0).1 = 7 ∧ Call G MX7_moneyOfAll [.ref x0] s (some (.int w.1), w.2) := by
  unfold fX7_moneyOfAll at h
  obtain ⟨_, e0, h⟩ := bind_some h
  refine ⟨ck_some e0, Call.of_R pnRX7 (Nat.le_of_ble_eq_true rfl) ?_⟩
  clear e0
  show R G MX7_moneyOfAll 0 [(0, .ref x0)] [] s (some (.int w.1), w.2)
  refine R_constI DX7_moneyOfAll_0 ci_0 ?_
  refine R_istore [(1, .int (iI 0)), (0, .ref x0)] DX7_moneyOfAll_1 (by decide) rfl ?_
  refine R_constI DX7_moneyOfAll_2 ci_0 ?_
  refine R_istore [(2, .int (iI 0)), (1, .int (iI 0)), (0, .ref x0)] DX7_moneyOfAll_3 (by decide) rfl ?_
  refine R.sub (L' := [(0, .ref x0), (1, .int (iI 0)), (2, .int (iI 0))]) [2, 1, 0] rfl ?_
  obtain ⟨r6, hi, h⟩ := bind_some h
  have hE : (fun u4 : Int32 × Hp => R G MX7_moneyOfAll 31 [(1, .int u4.1)] [] u4.2 (some (.int w.1), w.2)) r6 → ∀ (q1 : Int32) (q2 : Int32) (qs : Hp), iter (fX7_moneyOfAll_l4 x0) FU (q1, q2, qs) = some r6 → R G MX7_moneyOfAll 4 [(0, .ref x0), (1, .int q1), (2, .int q2)] [] qs (some (.int w.1), w.2) := fun hX q1 q2 qs hj => loop_R (fX7_moneyOfAll_l4 x0) (fun p4 : Int32 × Int32 × Hp => R G MX7_moneyOfAll 4 [(0, .ref x0), (1, .int p4.1), (2, .int p4.2.1)] [] p4.2.2 (some (.int w.1), w.2)) (fun u4 : Int32 × Hp => R G MX7_moneyOfAll 31 [(1, .int u4.1)] [] u4.2 (some (.int w.1), w.2)) (fun a w hw hc he => tX7_moneyOfAll_l4 hw (fun q1 q2 qs e => hc (q1, q2, qs) e) (fun q1 qs e => he (q1, qs) e)) FU (q1, q2, qs) r6 hj hX
  refine hE ?_ _ _ _ hi
  clear hE hi
  refine R_iload DX7_moneyOfAll_31 0 rfl ?_
  cases h
  exact R_ireturn rfl DX7_moneyOfAll_32
set_option maxRecDepth 8000 in
theorem tX8_init_l98 {G : Gm} {x0 : Nat} {o : Option Value × Hp} {a : Int32 × Hp} {w : (Int32 × Hp) ⊕ ((Hp))} (h : fX8_init_l98 x0 a = some w) (hc : ∀ (q1 : Int32) (qs : Hp), w = .inl (q1, qs) → R G MX8_init 98 [(0, .ref x0), (1, .int q1)] [] qs o) (he0 : ∀ (qs : Hp), w = .inr qs → R G MX8_init 122 [(0, .ref x0)] [] qs o) : R G MX8_init 98 [(0, .ref x0), (1, .int a.1)] [] a.2 o := by
  unfold fX8_init_l98 at h
  refine R_iload DX8_init_98 1 rfl ?_
  refine R_constI DX8_init_99 ci_3 ?_
  by_cases c25 : (iI 3) ≤ a.1
  · replace h := if_t h c25
    refine R_icmp_ge_t DX8_init_100 c25 ?_
    refine R.sub (L' := [(0, .ref x0)]) [0] rfl ?_
    cases h
    exact he0 _ rfl
  · replace h := if_f h c25
    refine R_icmp_ge_f DX8_init_100 c25 ?_
    refine R_aload DX8_init_103 0 rfl ?_
    obtain ⟨v26, ev26, h⟩ := bind_some h
    refine R_gR DX8_init_104 fl_RX8_32 ev26 ?_
    refine R_iload DX8_init_107 1 rfl ?_
    refine R_new DX8_init_108 nc_RX8_30 ?_
    obtain ⟨s27, es27, h⟩ := lt_some h
    rw [← es27]
    refine R_dup DX8_init_111 rfl ?_
    obtain ⟨s28, es28, h⟩ := bind_some h
    refine R_cIN [] DX8_init_112 kziX6_init ml_RX8_46 ⟨Nat.le_of_ble_eq_true rfl, Nat.le_of_ble_eq_true rfl⟩ rfl (Nat.le_of_ble_eq_true rfl) (kX6_init es28) ?_
    obtain ⟨s29, es29, h⟩ := bind_some h
    refine R_sR rt24 DX8_init_115 es29 ?_
    refine R_iinc [(1, .int (a.1 + iI 1)), (0, .ref x0)] DX8_init_116 1 rfl (v := a.1 + iI 1) (by rfl) (by decide) rfl ?_
    refine R_goto DX8_init_119 ?_
    refine R.sub (L' := [(0, .ref x0), (1, .int (a.1 + iI 1))]) [1, 0] rfl ?_
    cases h
    exact hc _ _ rfl
set_option maxRecDepth 8000 in
theorem tX8_init_l124 {G : Gm} {x0 : Nat} {o : Option Value × Hp} {a : Int32 × Hp} {w : (Int32 × Hp) ⊕ ((Hp))} (h : fX8_init_l124 x0 a = some w) (hc : ∀ (q1 : Int32) (qs : Hp), w = .inl (q1, qs) → R G MX8_init 124 [(0, .ref x0), (1, .int q1)] [] qs o) (he0 : ∀ (qs : Hp), w = .inr qs → R G MX8_init 148 [] [] qs o) : R G MX8_init 124 [(0, .ref x0), (1, .int a.1)] [] a.2 o := by
  unfold fX8_init_l124 at h
  refine R_iload DX8_init_124 1 rfl ?_
  refine R_constI DX8_init_125 ci_4 ?_
  by_cases c31 : (iI 4) ≤ a.1
  · replace h := if_t h c31
    refine R_icmp_ge_t DX8_init_126 c31 ?_
    refine R.sub (L' := []) [] rfl ?_
    cases h
    exact he0 _ rfl
  · replace h := if_f h c31
    refine R_icmp_ge_f DX8_init_126 c31 ?_
    refine R_aload DX8_init_129 0 rfl ?_
    obtain ⟨v32, ev32, h⟩ := bind_some h
    refine R_gR DX8_init_130 fl_RX8_42 ev32 ?_
    refine R_iload DX8_init_133 1 rfl ?_
    refine R_new DX8_init_134 nc_RX8_40 ?_
    obtain ⟨s33, es33, h⟩ := lt_some h
    rw [← es33]
    refine R_dup DX8_init_137 rfl ?_
    obtain ⟨s34, es34, h⟩ := bind_some h
    refine R_cIN [] DX8_init_138 kziX5_init ml_RX8_58 ⟨Nat.le_of_ble_eq_true rfl, Nat.le_of_ble_eq_true rfl⟩ rfl (Nat.le_of_ble_eq_true rfl) (kX5_init es34) ?_
    obtain ⟨s35, es35, h⟩ := bind_some h
    refine R_sR rt25 DX8_init_141 es35 ?_
    refine R_iinc [(1, .int (a.1 + iI 1)), (0, .ref x0)] DX8_init_142 1 rfl (v := a.1 + iI 1) (by rfl) (by decide) rfl ?_
    refine R_goto DX8_init_145 ?_
    refine R.sub (L' := [(0, .ref x0), (1, .int (a.1 + iI 1))]) [1, 0] rfl ?_
    cases h
    exact hc _ _ rfl
set_option maxRecDepth 8000 in
theorem kX8_init {G : Gm} {x0 : Nat} {s : Hp} {w : Hp} (h : fX8_init x0 s = some w) : (s.2.2 x0).1 = 8 ∧ Call G MX8_init [.ref x0] s (none, w) := by
  unfold fX8_init at h
  obtain ⟨_, e0, h⟩ := bind_some h
  refine ⟨ck_some e0, Call.of_R pnRX8 (Nat.le_of_ble_eq_true rfl) ?_⟩
  clear e0
  show R G MX8_init 0 [(0, .ref x0)] [] s (none, w)
  refine R_aload DX8_init_0 0 rfl ?_
  refine R_objInit DX8_init_1 oi_RX8_1 ⟨Nat.le_of_ble_eq_true rfl, Nat.le_of_ble_eq_true rfl⟩ ?_
  refine R_aload DX8_init_4 0 rfl ?_
  refine R_constI DX8_init_5 ci_1600 ?_
  obtain ⟨s1, es1, h⟩ := bind_some h
  refine R_newa at22 aw22 DX8_init_8 es1 ?_
  obtain ⟨s2, es2, h⟩ := bind_some h
  refine R_pAF DX8_init_10 fl_RX8_9 ⟨rfl, _, rfl⟩ es2 ?_
  refine R_aload DX8_init_13 0 rfl ?_
  refine R_new DX8_init_14 nc_RX8_13 ?_
  obtain ⟨s3, es3, h⟩ := lt_some h
  rw [← es3]
  refine R_dup DX8_init_17 rfl ?_
  obtain ⟨s4, es4, h⟩ := bind_some h
  refine R_cIN [] DX8_init_18 kziX3_init ml_RX8_15 ⟨Nat.le_of_ble_eq_true rfl, Nat.le_of_ble_eq_true rfl⟩ rfl (Nat.le_of_ble_eq_true rfl) (kX3_init es4) ?_
  obtain ⟨s5, es5, h⟩ := bind_some h
  refine R_pRF DX8_init_21 fl_RX8_16 ⟨rfl, _, rfl⟩ es5 ?_
  refine R_aload DX8_init_24 0 rfl ?_
  refine R_new DX8_init_25 nc_RX8_20 ?_
  obtain ⟨s6, es6, h⟩ := lt_some h
  rw [← es6]
  refine R_dup DX8_init_28 rfl ?_
  obtain ⟨s7, es7, h⟩ := bind_some h
  refine R_cIN [] DX8_init_29 kziX7_init ml_RX8_22 ⟨Nat.le_of_ble_eq_true rfl, Nat.le_of_ble_eq_true rfl⟩ rfl (Nat.le_of_ble_eq_true rfl) (kX7_init es7) ?_
  obtain ⟨s8, es8, h⟩ := bind_some h
  refine R_pRF DX8_init_32 fl_RX8_23 ⟨rfl, _, rfl⟩ es8 ?_
  refine R_aload DX8_init_35 0 rfl ?_
  refine R_new DX8_init_36 nc_RX8_20 ?_
  obtain ⟨s9, es9, h⟩ := lt_some h
  rw [← es9]
  refine R_dup DX8_init_39 rfl ?_
  obtain ⟨s10, es10, h⟩ := bind_some h
  refine R_cIN [] DX8_init_40 kziX7_init ml_RX8_22 ⟨Nat.le_of_ble_eq_true rfl, Nat.le_of_ble_eq_true rfl⟩ rfl (Nat.le_of_ble_eq_true rfl) (kX7_init es10) ?_
  obtain ⟨s11, es11, h⟩ := bind_some h
  refine R_pRF DX8_init_43 fl_RX8_27 ⟨rfl, _, rfl⟩ es11 ?_
  refine R_aload DX8_init_46 0 rfl ?_
  refine R_constI DX8_init_47 ci_3 ?_
  obtain ⟨s12, es12, h⟩ := bind_some h
  refine R_newq rt24 ⟨_, rfl⟩ cl_RX8_30 DX8_init_48 es12 ?_
  obtain ⟨s13, es13, h⟩ := bind_some h
  refine R_pAF DX8_init_51 fl_RX8_32 ⟨rfl, _, rfl⟩ es13 ?_
  refine R_aload DX8_init_54 0 rfl ?_
  refine R_constI DX8_init_55 ci_3 ?_
  obtain ⟨s14, es14, h⟩ := bind_some h
  refine R_newa at23 aw23 DX8_init_56 es14 ?_
  obtain ⟨s15, es15, h⟩ := bind_some h
  refine R_pAF DX8_init_58 fl_RX8_36 ⟨rfl, _, rfl⟩ es15 ?_
  refine R_aload DX8_init_61 0 rfl ?_
  refine R_constI DX8_init_62 ci_4 ?_
  obtain ⟨s16, es16, h⟩ := bind_some h
  refine R_newq rt25 ⟨_, rfl⟩ cl_RX8_40 DX8_init_63 es16 ?_
  obtain ⟨s17, es17, h⟩ := bind_some h
  refine R_pAF DX8_init_66 fl_RX8_42 ⟨rfl, _, rfl⟩ es17 ?_
  refine R_aload DX8_init_69 0 rfl ?_
  refine R_new DX8_init_70 nc_RX8_30 ?_
  obtain ⟨s18, es18, h⟩ := lt_some h
  rw [← es18]
  refine R_dup DX8_init_73 rfl ?_
  obtain ⟨s19, es19, h⟩ := bind_some h
  refine R_cIN [] DX8_init_74 kziX6_init ml_RX8_46 ⟨Nat.le_of_ble_eq_true rfl, Nat.le_of_ble_eq_true rfl⟩ rfl (Nat.le_of_ble_eq_true rfl) (kX6_init es19) ?_
  obtain ⟨s20, es20, h⟩ := bind_some h
  refine R_pR DX8_init_77 fl_RX8_47 es20 ?_
  refine R_aload DX8_init_80 0 rfl ?_
  refine R_new DX8_init_81 nc_RX8_30 ?_
  obtain ⟨s21, es21, h⟩ := lt_some h
  rw [← es21]
  refine R_dup DX8_init_84 rfl ?_
  obtain ⟨s22, es22, h⟩ := bind_some h
  refine R_cIN [] DX8_init_85 kziX6_init ml_RX8_46 ⟨Nat.le_of_ble_eq_true rfl, Nat.le_of_ble_eq_true rfl⟩ rfl (Nat.le_of_ble_eq_true rfl) (kX6_init es22) ?_
  obtain ⟨s23, es23, h⟩ := bind_some h
  refine R_pR DX8_init_88 fl_RX8_51 es23 ?_
  refine R_aload DX8_init_91 0 rfl ?_
  refine R_constI DX8_init_92 ci_1 ?_
  obtain ⟨s24, es24, h⟩ := bind_some h
  refine R_pI DX8_init_93 fl_RX8_54 es24 ?_
  refine R_constI DX8_init_96 ci_0 ?_
  refine R_istore [(1, .int (iI 0)), (0, .ref x0)] DX8_init_97 (by decide) rfl ?_
  refine R.sub (L' := [(0, .ref x0), (1, .int (iI 0))]) [1, 0] rfl ?_
  obtain ⟨r30, hi, h⟩ := bind_some h
  have hE : (fun u98 : Hp => R G MX8_init 122 [(0, .ref x0)] [] u98 (none, w)) r30 → ∀ (q1 : Int32) (qs : Hp), iter (fX8_init_l98 x0) FU (q1, qs) = some r30 → R G MX8_init 98 [(0, .ref x0), (1, .int q1)] [] qs (none, w) := fun hX q1 qs hj => loop_R (fX8_init_l98 x0) (fun p98 : Int32 × Hp => R G MX8_init 98 [(0, .ref x0), (1, .int p98.1)] [] p98.2 (none, w)) (fun u98 : Hp => R G MX8_init 122 [(0, .ref x0)] [] u98 (none, w)) (fun a w hw hc he => tX8_init_l98 hw (fun q1 qs e => hc (q1, qs) e) (fun qs e => he qs e)) FU (q1, qs) r30 hj hX
  refine hE ?_ _ _ hi
  clear hE hi
  refine R_constI DX8_init_122 ci_0 ?_
  refine R_istore [(1, .int (iI 0)), (0, .ref x0)] DX8_init_123 (by decide) rfl ?_
  refine R.sub (L' := [(0, .ref x0), (1, .int (iI 0))]) [1, 0] rfl ?_
  obtain ⟨r36, hi, h⟩ := bind_some h
  have hE : (fun u124 : Hp => R G MX8_init 148 [] [] u124 (none, w)) r36 → ∀ (q1 : Int32) (qs : Hp), iter (fX8_init_l124 x0) FU (q1, qs) = some r36 → R G MX8_init 124 [(0, .ref x0), (1, .int q1)] [] qs (none, w) := fun hX q1 qs hj => loop_R (fX8_init_l124 x0) (fun p124 : Int32 × Hp => R G MX8_init 124 [(0, .ref x0), (1, .int p124.1)] [] p124.2 (none, w)) (fun u124 : Hp => R G MX8_init 148 [] [] u124 (none, w)) (fun a w hw hc he => tX8_init_l124 hw (fun q1 qs e => hc (q1, qs) e) (fun qs e => he qs e)) FU (q1, qs) r36 hj hX
  refine hE ?_ _ _ hi
  clear hE hi
  cases h
  exact R_return rfl DX8_init_148
set_option maxRecDepth 8000 in
theorem tX8_putBytes_l3 {G : Gm} {x0 : Nat} {x1 : Int32} {o : Option Value × Hp} {a : Int32 × Hp} {w : (Int32 × Hp) ⊕ ((Hp))} (h : fX8_putBytes_l3 x0 x1 a = some w) (hc : ∀ (q2 : Int32) (qs : Hp), w = .inl (q2, qs) → R G MX8_putBytes 3 [(0, .ref x0), (1, .int x1), (2, .int q2)] [] qs o) (he0 : ∀ (qs : Hp), w = .inr qs → R G MX8_putBytes 36 [] [] qs o) : R G MX8_putBytes 3 [(0, .ref x0), (1, .int x1), (2, .int a.1)] [] a.2 o := by
  unfold fX8_putBytes_l3 at h
  refine R_iload DX8_putBytes_3 2 rfl ?_
  by_cases c1 : a.1 < 0
  · replace h := if_t h c1
    refine R_if_lt_t DX8_putBytes_4 c1 ?_
    refine R.sub (L' := []) [] rfl ?_
    cases h
    exact he0 _ rfl
  · replace h := if_f h c1
    refine R_if_lt_f DX8_putBytes_4 c1 ?_
    refine R_aload DX8_putBytes_7 0 rfl ?_
    obtain ⟨v2, ev2, h⟩ := bind_some h
    refine R_gR DX8_putBytes_8 fl_RX8_9 ev2 ?_
    refine R_aload DX8_putBytes_11 0 rfl ?_
    obtain ⟨v3, ev3, h⟩ := bind_some h
    refine R_gI DX8_putBytes_12 fl_RX8_59 ev3 ?_
    refine R_iload DX8_putBytes_15 1 rfl ?_
    refine R_iload DX8_putBytes_16 2 rfl ?_
    refine R_ishr DX8_putBytes_17 ?_
    refine R_i2b DX8_putBytes_18 ?_
    obtain ⟨s4, es4, h⟩ := bind_some h
    refine R_sB DX8_putBytes_19 es4 ?_
    refine R_aload DX8_putBytes_20 0 rfl ?_
    refine R_dup DX8_putBytes_21 rfl ?_
    obtain ⟨v5, ev5, h⟩ := bind_some h
    refine R_gI DX8_putBytes_22 fl_RX8_59 ev5 ?_
    refine R_constI DX8_putBytes_25 ci_1 ?_
    refine R_iadd DX8_putBytes_26 ?_
    obtain ⟨s6, es6, h⟩ := bind_some h
    refine R_pI DX8_putBytes_27 fl_RX8_59 es6 ?_
    refine R_iinc [(2, .int (a.1 + iI (-8))), (0, .ref x0), (1, .int x1)] DX8_putBytes_30 2 rfl (v := a.1 + iI (-8)) (by rfl) (by decide) rfl ?_
    refine R_goto DX8_putBytes_33 ?_
    refine R.sub (L' := [(0, .ref x0), (1, .int x1), (2, .int (a.1 + iI (-8)))]) [1, 2, 0] rfl ?_
    cases h
    exact hc _ _ rfl
set_option maxRecDepth 8000 in
theorem kX8_putBytes {G : Gm} {x0 : Nat} {x1 : Int32} {s : Hp} {w : Hp} (h : fX8_putBytes x0 x1 s = some w) : (s.2.2 x0).1 = 8 ∧ Call G MX8_putBytes [.ref x0, .int x1] s (none, w) := by
  unfold fX8_putBytes at h
  obtain ⟨_, e0, h⟩ := bind_some h
  refine ⟨ck_some e0, Call.of_R pnRX8 (Nat.le_of_ble_eq_true rfl) ?_⟩
  clear e0
  show R G MX8_putBytes 0 [(0, .ref x0), (1, .int x1)] [] s (none, w)
  refine R_constI DX8_putBytes_0 ci_24 ?_
  refine R_istore [(2, .int (iI 24)), (0, .ref x0), (1, .int x1)] DX8_putBytes_2 (by decide) rfl ?_
  refine R.sub (L' := [(0, .ref x0), (1, .int x1), (2, .int (iI 24))]) [1, 2, 0] rfl ?_
  obtain ⟨r7, hi, h⟩ := bind_some h
  have hE : (fun u3 : Hp => R G MX8_putBytes 36 [] [] u3 (none, w)) r7 → ∀ (q2 : Int32) (qs : Hp), iter (fX8_putBytes_l3 x0 x1) FU (q2, qs) = some r7 → R G MX8_putBytes 3 [(0, .ref x0), (1, .int x1), (2, .int q2)] [] qs (none, w) := fun hX q2 qs hj => loop_R (fX8_putBytes_l3 x0 x1) (fun p3 : Int32 × Hp => R G MX8_putBytes 3 [(0, .ref x0), (1, .int x1), (2, .int p3.1)] [] p3.2 (none, w)) (fun u3 : Hp => R G MX8_putBytes 36 [] [] u3 (none, w)) (fun a w hw hc he => tX8_putBytes_l3 hw (fun q2 qs e => hc (q2, qs) e) (fun qs e => he qs e)) FU (q2, qs) r7 hj hX
  refine hE ?_ _ _ hi
  clear hE hi
  cases h
  exact R_return rfl DX8_putBytes_36
set_option maxRecDepth 8000 in
theorem kX8_feed {G : Gm} {x0 : Nat} {x1 : Int32} {x2 : Int32} {x3 : Int32} {x4 : Int32} {x5 : Int32} {s : Hp} {w : Int32 × Hp} (h : fX8_feed x0 x1 x2 x3 x4 x5 s = some w) : (s.2.2 x0).1 = 8 ∧ Call G MX8_feed [.ref x0, .int x1, .int x2, .int x3, .int x4, .int x5] s (some (.int w.1), w.2) := by
  unfold fX8_feed at h
  obtain ⟨_, e0, h⟩ := bind_some h
  refine ⟨ck_some e0, Call.of_R pnRX8 (Nat.le_of_ble_eq_true rfl) ?_⟩
  clear e0
  show R G MX8_feed 0 [(0, .ref x0), (1, .int x1), (2, .int x2), (3, .int x3), (4, .int x4), (5, .int x5)] [] s (some (.int w.1), w.2)
  refine R_aload DX8_feed_0 0 rfl ?_
  obtain ⟨v1, ev1, h⟩ := bind_some h
  refine R_gI DX8_feed_1 fl_RX8_59 ev1 ?_
  refine R_constI DX8_feed_4 ci_1580 ?_
  by_cases c2 : v1 ≤ (iI 1580)
  · replace h := if_t h c2
    refine R_icmp_le_t DX8_feed_7 c2 ?_
    refine R_aload DX8_feed_12 0 rfl ?_
    refine R_iload DX8_feed_13 1 rfl ?_
    obtain ⟨s3, es3, h⟩ := bind_some h
    refine R_cV0 [.int x1] DX8_feed_14 kzvX8_putBytes ml_RX8_62 ⟨Nat.le_of_ble_eq_true rfl, Nat.le_of_ble_eq_true rfl⟩ rfl (Nat.le_of_ble_eq_true rfl) (kX8_putBytes es3) ?_
    refine R_aload DX8_feed_17 0 rfl ?_
    refine R_iload DX8_feed_18 2 rfl ?_
    obtain ⟨s4, es4, h⟩ := bind_some h
    refine R_cV0 [.int x2] DX8_feed_19 kzvX8_putBytes ml_RX8_62 ⟨Nat.le_of_ble_eq_true rfl, Nat.le_of_ble_eq_true rfl⟩ rfl (Nat.le_of_ble_eq_true rfl) (kX8_putBytes es4) ?_
    refine R_aload DX8_feed_22 0 rfl ?_
    refine R_iload DX8_feed_23 3 rfl ?_
    obtain ⟨s5, es5, h⟩ := bind_some h
    refine R_cV0 [.int x3] DX8_feed_24 kzvX8_putBytes ml_RX8_62 ⟨Nat.le_of_ble_eq_true rfl, Nat.le_of_ble_eq_true rfl⟩ rfl (Nat.le_of_ble_eq_true rfl) (kX8_putBytes es5) ?_
    refine R_aload DX8_feed_27 0 rfl ?_
    refine R_iload DX8_feed_28 4 rfl ?_
    obtain ⟨s6, es6, h⟩ := bind_some h
    refine R_cV0 [.int x4] DX8_feed_30 kzvX8_putBytes ml_RX8_62 ⟨Nat.le_of_ble_eq_true rfl, Nat.le_of_ble_eq_true rfl⟩ rfl (Nat.le_of_ble_eq_true rfl) (kX8_putBytes es6) ?_
    refine R_aload DX8_feed_33 0 rfl ?_
    refine R_iload DX8_feed_34 5 rfl ?_
    obtain ⟨s7, es7, h⟩ := bind_some h
    refine R_cV0 [.int x5] DX8_feed_36 kzvX8_putBytes ml_RX8_62 ⟨Nat.le_of_ble_eq_true rfl, Nat.le_of_ble_eq_true rfl⟩ rfl (Nat.le_of_ble_eq_true rfl) (kX8_putBytes es7) ?_
    refine R_aload DX8_feed_39 0 rfl ?_
    obtain ⟨v8, ev8, h⟩ := bind_some h
    refine R_gI DX8_feed_40 fl_RX8_59 ev8 ?_
    cases h
    exact R_ireturn rfl DX8_feed_43
  · replace h := if_f h c2
    refine R_icmp_le_f DX8_feed_7 c2 ?_
    refine R_constI DX8_feed_10 ci_m1 ?_
    cases h
    exact R_ireturn rfl DX8_feed_11
set_option maxRecDepth 8000 in
theorem tX8_end_b12 {G : Gm} {s : Hp} {w : Int32 × Hp} (h : fX8_end_b12 s = some w) : R G MX8_end 12 [] [] s (some (.int w.1), w.2) := by
  unfold fX8_end_b12 at h
  refine R_constI DX8_end_12 ci_m1 ?_
  cases h
  exact R_ireturn rfl DX8_end_13
set_option maxRecDepth 8000 in
theorem kX8_end {G : Gm} {x0 : Nat} {x1 : Int32} {s : Hp} {w : Int32 × Hp} (h : fX8_end x0 x1 s = some w) : (s.2.2 x0).1 = 8 ∧ Call G MX8_end [.ref x0, .int x1] s (some (.int w.1), w.2) := by
  unfold fX8_end at h
  obtain ⟨_, e0, h⟩ := bind_some h
  refine ⟨ck_some e0, Call.of_R pnRX8 (Nat.le_of_ble_eq_true rfl) ?_⟩
  clear e0
  show R G MX8_end 0 [(0, .ref x0), (1, .int x1)] [] s (some (.int w.1), w.2)
  refine R_iload DX8_end_0 1 rfl ?_
  by_cases c1 : x1 < 0
  · replace h := if_t h c1
    refine R_if_lt_t DX8_end_1 c1 ?_
    refine R.sub (L' := []) [] rfl ?_
    exact tX8_end_b12 h
  · replace h := if_f h c1
    refine R_if_lt_f DX8_end_1 c1 ?_
    refine R_iload DX8_end_4 1 rfl ?_
    refine R_aload DX8_end_5 0 rfl ?_
    obtain ⟨v2, ev2, h⟩ := bind_some h
    refine R_gI DX8_end_6 fl_RX8_59 ev2 ?_
    by_cases c3 : x1 ≤ v2
    · replace h := if_t h c3
      refine R_icmp_le_t DX8_end_9 c3 ?_
      refine R_aload DX8_end_14 0 rfl ?_
      refine R_iload DX8_end_15 1 rfl ?_
      obtain ⟨s4, es4, h⟩ := bind_some h
      refine R_pI DX8_end_16 fl_RX8_59 es4 ?_
      refine R_iload DX8_end_19 1 rfl ?_
      cases h
      exact R_ireturn rfl DX8_end_20
    · replace h := if_f h c3
      refine R_icmp_le_f DX8_end_9 c3 ?_
      refine R.sub (L' := []) [] rfl ?_
      exact tX8_end_b12 h
set_option maxRecDepth 8000 in
theorem kX8_forgetAll {G : Gm} {x0 : Nat} {s : Hp} {w : Hp} (h : fX8_forgetAll x0 s = some w) : (s.2.2 x0).1 = 8 ∧ Call G MX8_forgetAll [.ref x0] s (none, w) := by
  unfold fX8_forgetAll at h
  obtain ⟨_, e0, h⟩ := bind_some h
  refine ⟨ck_some e0, Call.of_R pnRX8 (Nat.le_of_ble_eq_true rfl) ?_⟩
  clear e0
  show R G MX8_forgetAll 0 [(0, .ref x0)] [] s (none, w)
  refine R_aload DX8_forgetAll_0 0 rfl ?_
  refine R_constI DX8_forgetAll_1 ci_0 ?_
  obtain ⟨s1, es1, h⟩ := bind_some h
  refine R_pZ DX8_forgetAll_2 fl_RX8_132 es1 ?_
  refine R_aload DX8_forgetAll_5 0 rfl ?_
  refine R_dup DX8_forgetAll_6 rfl ?_
  obtain ⟨v2, ev2, h⟩ := bind_some h
  refine R_gI DX8_forgetAll_7 fl_RX8_54 ev2 ?_
  refine R_constI DX8_forgetAll_10 ci_1 ?_
  refine R_iadd DX8_forgetAll_11 ?_
  obtain ⟨s3, es3, h⟩ := bind_some h
  refine R_pI DX8_forgetAll_12 fl_RX8_54 es3 ?_
  cases h
  exact R_return rfl DX8_forgetAll_15
set_option maxRecDepth 8000 in
theorem kX8_valley {G : Gm} {x0 : Nat} {s : Hp} {w : Int32 × Hp} (h : fX8_valley (gK G) x0 s = some w) : (s.2.2 x0).1 = 8 ∧ Call G MX8_valley [.ref x0] s (some (.int w.1), w.2) := by
  unfold fX8_valley at h
  obtain ⟨_, e0, h⟩ := bind_some h
  refine ⟨ck_some e0, Call.of_R pnRX8 (Nat.le_of_ble_eq_true rfl) ?_⟩
  clear e0
  show R G MX8_valley 0 [(0, .ref x0)] [] s (some (.int w.1), w.2)
  refine R_aload DX8_valley_0 0 rfl ?_
  obtain ⟨v1, ev1, h⟩ := bind_some h
  refine R_gR DX8_valley_1 fl_RX8_16 ev1 ?_
  refine R_aload DX8_valley_4 0 rfl ?_
  obtain ⟨v2, ev2, h⟩ := bind_some h
  refine R_gR DX8_valley_5 fl_RX8_9 ev2 ?_
  refine R_aload DX8_valley_8 0 rfl ?_
  obtain ⟨v3, ev3, h⟩ := bind_some h
  refine R_gI DX8_valley_9 fl_RX8_59 ev3 ?_
  refine R_aload DX8_valley_12 0 rfl ?_
  obtain ⟨v4, ev4, h⟩ := bind_some h
  refine R_gR DX8_valley_13 fl_RX8_51 ev4 ?_
  obtain ⟨r5, er5, h⟩ := bind_some h
  refine R_cV1 [.ref v2, .int v3, .ref v4] DX8_valley_16 kzvX3_reads ml_RX8_66 ⟨Nat.le_of_ble_eq_true rfl, Nat.le_of_ble_eq_true rfl⟩ rfl (Nat.le_of_ble_eq_true rfl) (kX3_reads er5) ?_
  refine R_istore [(1, .int r5.1), (0, .ref x0)] DX8_valley_19 (by decide) rfl ?_
  refine R_aload DX8_valley_20 1 rfl ?_
  refine R_constI DX8_valley_21 ci_0 ?_
  obtain ⟨s6, es6, h⟩ := bind_some h
  refine R_pI DX8_valley_22 fl_RX8_59 es6 ?_
  refine R_iload DX8_valley_25 0 rfl ?_
  by_cases c7 : r5.1 = 0
  · replace h := if_t h c7
    refine R_if_ne_f DX8_valley_26 c7 ?_
    refine R_constI DX8_valley_29 ci_m4 ?_
    cases h
    exact R_ireturn rfl DX8_valley_31
  · replace h := if_f h c7
    refine R_if_ne_t DX8_valley_26 c7 ?_
    refine R_aload DX8_valley_32 1 rfl ?_
    obtain ⟨v8, ev8, h⟩ := bind_some h
    refine R_gR DX8_valley_33 fl_RX8_47 ev8 ?_
    refine R_astore [(2, .ref v8), (1, .int r5.1), (0, .ref x0)] DX8_valley_36 (by decide) rfl ?_
    refine R_aload DX8_valley_37 2 rfl ?_
    refine R_aload DX8_valley_38 2 rfl ?_
    obtain ⟨v9, ev9, h⟩ := bind_some h
    refine R_gR DX8_valley_39 fl_RX8_51 ev9 ?_
    obtain ⟨s10, es10, h⟩ := bind_some h
    refine R_pR DX8_valley_42 fl_RX8_47 es10 ?_
    refine R_aload DX8_valley_45 2 rfl ?_
    refine R_aload DX8_valley_46 0 rfl ?_
    obtain ⟨s11, es11, h⟩ := bind_some h
    refine R_pR DX8_valley_47 fl_RX8_51 es11 ?_
    refine R_aload DX8_valley_50 2 rfl ?_
    obtain ⟨s12, es12, h⟩ := bind_some h
    refine R_cV0 [] DX8_valley_51 kzvX8_forgetAll ml_RX8_70 ⟨Nat.le_of_ble_eq_true rfl, Nat.le_of_ble_eq_true rfl⟩ rfl (Nat.le_of_ble_eq_true rfl) (kX8_forgetAll es12) ?_
    refine R_aload DX8_valley_54 2 rfl ?_
    obtain ⟨v13, ev13, h⟩ := bind_some h
    refine R_gR DX8_valley_55 fl_RX8_47 ev13 ?_
    obtain ⟨v14, ev14, h⟩ := bind_some h
    refine R_gI DX8_valley_58 fl_RX8_73 ev14 ?_
    cases h
    exact R_ireturn rfl DX8_valley_61
set_option maxRecDepth 8000 in
theorem kX8_fault {G : Gm} {x0 : Nat} {x1 : Int32} {s : Hp} {w : Int32 × Hp} (h : fX8_fault x0 x1 s = some w) : (s.2.2 x0).1 = 8 ∧ Call G MX8_fault [.ref x0, .int x1] s (some (.int w.1), w.2) := by
  unfold fX8_fault at h
  obtain ⟨_, e0, h⟩ := bind_some h
  refine ⟨ck_some e0, Call.of_R pnRX8 (Nat.le_of_ble_eq_true rfl) ?_⟩
  clear e0
  show R G MX8_fault 0 [(0, .ref x0), (1, .int x1)] [] s (some (.int w.1), w.2)
  refine R_iload DX8_fault_0 1 rfl ?_
  by_cases c1 : x1 = 0
  · replace h := if_t h c1
    refine R_if_ne_f DX8_fault_1 c1 ?_
    refine R_aload DX8_fault_4 0 rfl ?_
    obtain ⟨v5, ev5, h⟩ := bind_some h
    refine R_gR DX8_fault_5 fl_RX8_16 ev5 ?_
    obtain ⟨v6, ev6, h⟩ := bind_some h
    refine R_gI DX8_fault_8 fl_RX8_76 ev6 ?_
    cases h
    exact R_ireturn rfl DX8_fault_11
  · replace h := if_f h c1
    refine R_if_ne_t DX8_fault_1 c1 ?_
    refine R_iload DX8_fault_12 1 rfl ?_
    refine R_constI DX8_fault_13 ci_1 ?_
    by_cases c2 : x1 = (iI 1)
    · replace h := if_t h c2
      refine R_icmp_ne_f DX8_fault_14 c2 ?_
      refine R_aload DX8_fault_17 0 rfl ?_
      obtain ⟨v3, ev3, h⟩ := bind_some h
      refine R_gR DX8_fault_18 fl_RX8_16 ev3 ?_
      obtain ⟨v4, ev4, h⟩ := bind_some h
      refine R_gI DX8_fault_21 fl_RX8_79 ev4 ?_
      refine R_goto DX8_fault_24 ?_
      cases h
      exact R_ireturn rfl DX8_fault_28
    · replace h := if_f h c2
      refine R_icmp_ne_t DX8_fault_14 c2 ?_
      refine R_constI DX8_fault_27 ci_m1 ?_
      cases h
      exact R_ireturn rfl DX8_fault_28
set_option maxRecDepth 8000 in
theorem tX8_wind_b22 {G : Gm} {s : Hp} {w : Int32 × Hp} (h : fX8_wind_b22 s = some w) : R G MX8_wind 22 [] [] s (some (.int w.1), w.2) := by
  unfold fX8_wind_b22 at h
  refine R_constI DX8_wind_22 ci_m2 ?_
  cases h
  exact R_ireturn rfl DX8_wind_24
set_option maxRecDepth 8000 in
theorem kX8_wind {G : Gm} {x0 : Nat} {x1 : Int32} {x2 : Int32} {s : Hp} {w : Int32 × Hp} (h : fX8_wind x0 x1 x2 s = some w) : (s.2.2 x0).1 = 8 ∧ Call G MX8_wind [.ref x0, .int x1, .int x2] s (some (.int w.1), w.2) := by
  unfold fX8_wind at h
  obtain ⟨_, e0, h⟩ := bind_some h
  refine ⟨ck_some e0, Call.of_R pnRX8 (Nat.le_of_ble_eq_true rfl) ?_⟩
  clear e0
  show R G MX8_wind 0 [(0, .ref x0), (1, .int x1), (2, .int x2)] [] s (some (.int w.1), w.2)
  refine R_aload DX8_wind_0 0 rfl ?_
  obtain ⟨v1, ev1, h⟩ := bind_some h
  refine R_gR DX8_wind_1 fl_RX8_47 ev1 ?_
  refine R_iload DX8_wind_4 1 rfl ?_
  obtain ⟨r2, er2, h⟩ := bind_some h
  refine R_cV1 [.int x1] DX8_wind_5 kzvX6_hasLayer ml_RX8_82 ⟨Nat.le_of_ble_eq_true rfl, Nat.le_of_ble_eq_true rfl⟩ rfl (Nat.le_of_ble_eq_true rfl) (kX6_hasLayer er2) ?_
  by_cases c3 : r2.1 = 0
  · replace h := if_t h c3
    refine R_if_eq_t DX8_wind_8 c3 ?_
    refine R.sub (L' := []) [] rfl ?_
    exact tX8_wind_b22 h
  · replace h := if_f h c3
    refine R_if_eq_f DX8_wind_8 c3 ?_
    refine R_aload DX8_wind_11 0 rfl ?_
    obtain ⟨v4, ev4, h⟩ := bind_some h
    refine R_gR DX8_wind_12 fl_RX8_47 ev4 ?_
    refine R_iload DX8_wind_15 2 rfl ?_
    obtain ⟨r5, er5, h⟩ := bind_some h
    refine R_cV1 [.int x2] DX8_wind_16 kzvX6_hasHour ml_RX8_86 ⟨Nat.le_of_ble_eq_true rfl, Nat.le_of_ble_eq_true rfl⟩ rfl (Nat.le_of_ble_eq_true rfl) (kX6_hasHour er5) ?_
    by_cases c6 : r5.1 = 0
    · replace h := if_t h c6
      refine R_if_ne_f DX8_wind_19 c6 ?_
      refine R.sub (L' := []) [] rfl ?_
      exact tX8_wind_b22 h
    · replace h := if_f h c6
      refine R_if_ne_t DX8_wind_19 c6 ?_
      refine R_aload DX8_wind_25 0 rfl ?_
      obtain ⟨v7, ev7, h⟩ := bind_some h
      refine R_gR DX8_wind_26 fl_RX8_47 ev7 ?_
      refine R_iload DX8_wind_29 1 rfl ?_
      refine R_iload DX8_wind_30 2 rfl ?_
      obtain ⟨r8, er8, h⟩ := bind_some h
      refine R_cV1 [.int x1, .int x2] DX8_wind_31 kzvX6_windAt ml_RX8_89 ⟨Nat.le_of_ble_eq_true rfl, Nat.le_of_ble_eq_true rfl⟩ rfl (Nat.le_of_ble_eq_true rfl) (kX6_windAt er8) ?_
      cases h
      exact R_ireturn rfl DX8_wind_34
set_option maxRecDepth 8000 in
theorem tX8_isWind_b13 {G : Gm} {s : Hp} {w : Int32 × Hp} (h : fX8_isWind_b13 s = some w) : R G MX8_isWind 13 [] [] s (some (.int w.1), w.2) := by
  unfold fX8_isWind_b13 at h
  refine R_constI DX8_isWind_13 ci_0 ?_
  cases h
  exact R_zreturn rfl DX8_isWind_14 (by decide)
set_option maxRecDepth 8000 in
theorem kX8_isWind {G : Gm} {x0 : Int32} {s : Hp} {w : Int32 × Hp} (h : fX8_isWind x0 s = some w) : Call G MX8_isWind [.int x0] s (some (.int w.1), w.2) := by
  unfold fX8_isWind at h
  refine Call.of_R pnRX8 (Nat.le_of_ble_eq_true rfl) ?_
  show R G MX8_isWind 0 [(0, .int x0)] [] s (some (.int w.1), w.2)
  refine R_iload DX8_isWind_0 0 rfl ?_
  by_cases c1 : x0 < 0
  · replace h := if_t h c1
    refine R_if_lt_t DX8_isWind_1 c1 ?_
    refine R.sub (L' := []) [] rfl ?_
    exact tX8_isWind_b13 h
  · replace h := if_f h c1
    refine R_if_lt_f DX8_isWind_1 c1 ?_
    refine R_iload DX8_isWind_4 0 rfl ?_
    refine R_constI DX8_isWind_5 ci_5 ?_
    by_cases c2 : (iI 5) ≤ x0
    · replace h := if_t h c2
      refine R_icmp_ge_t DX8_isWind_6 c2 ?_
      refine R.sub (L' := []) [] rfl ?_
      exact tX8_isWind_b13 h
    · replace h := if_f h c2
      refine R_icmp_ge_f DX8_isWind_6 c2 ?_
      refine R_constI DX8_isWind_9 ci_1 ?_
      refine R_goto DX8_isWind_10 ?_
      cases h
      exact R_zreturn rfl DX8_isWind_14 (by decide)
set_option maxRecDepth 8000 in
theorem tX8_often_b18 {G : Gm} {s : Hp} {w : Int32 × Hp} (h : fX8_often_b18 s = some w) : R G MX8_often 18 [] [] s (some (.int w.1), w.2) := by
  unfold fX8_often_b18 at h
  refine R_constI DX8_often_18 ci_m2 ?_
  cases h
  exact R_ireturn rfl DX8_often_20
set_option maxRecDepth 8000 in
theorem tX8_often_b58 {G : Gm} {x0 : Nat} {x1 : Int32} {x2 : Int32} {x4 : Int32} {y0 : Int32} {y1 : Int32} {s : Hp} {o : Option Value × Hp} {w : (Int32 × Int32 × Hp) ⊕ ((Int32 × Hp))} (h : fX8_often_b58 x0 x1 x2 x4 y0 y1 s = some w) (hc : ∀ (q3 : Int32) (q4 : Int32) (qs : Hp), w = .inl (q3, q4, qs) → R G MX8_often 26 [(0, .ref x0), (1, .int x1), (2, .int x2), (3, .int q3), (4, .int q4)] [] qs o) (he0 : ∀ (q3 : Int32) (qs : Hp), w = .inr (q3, qs) → R G MX8_often 66 [(3, .int q3)] [] qs o) : R G MX8_often 58 [(0, .ref x0), (1, .int x1), (2, .int x2), (4, .int x4)] [.int y1, .int y0] s o := by
  unfold fX8_often_b58 at h
  refine R_iadd DX8_often_58 ?_
  obtain ⟨z12, ez12, h⟩ := lt_some h
  refine R_istoreE ez12 [(3, .int z12), (0, .ref x0), (1, .int x1), (2, .int x2), (4, .int x4)] DX8_often_59 (by decide) rfl ?_
  refine R_iinc [(4, .int (x4 + iI 1)), (3, .int z12), (0, .ref x0), (1, .int x1), (2, .int x2)] DX8_often_60 4 rfl (v := x4 + iI 1) (by rfl) (by decide) rfl ?_
  refine R_goto DX8_often_63 ?_
  refine R.sub (L' := [(0, .ref x0), (1, .int x1), (2, .int x2), (3, .int z12), (4, .int (x4 + iI 1))]) [2, 3, 4, 1, 0] rfl ?_
  cases h
  exact hc _ _ _ rfl
set_option maxRecDepth 8000 in
theorem tX8_often_l26 {G : Gm} {x0 : Nat} {x1 : Int32} {x2 : Int32} {o : Option Value × Hp} {a : Int32 × Int32 × Hp} {w : (Int32 × Int32 × Hp) ⊕ ((Int32 × Hp))} (h : fX8_often_l26 x0 x1 x2 a = some w) (hc : ∀ (q3 : Int32) (q4 : Int32) (qs : Hp), w = .inl (q3, q4, qs) → R G MX8_often 26 [(0, .ref x0), (1, .int x1), (2, .int x2), (3, .int q3), (4, .int q4)] [] qs o) (he0 : ∀ (q3 : Int32) (qs : Hp), w = .inr (q3, qs) → R G MX8_often 66 [(3, .int q3)] [] qs o) : R G MX8_often 26 [(0, .ref x0), (1, .int x1), (2, .int x2), (3, .int a.1), (4, .int a.2.1)] [] a.2.2 o := by
  unfold fX8_often_l26 at h
  refine R_iload DX8_often_26 4 rfl ?_
  refine R_aload DX8_often_28 0 rfl ?_
  obtain ⟨v6, ev6, h⟩ := bind_some h
  refine R_gR DX8_often_29 fl_RX8_47 ev6 ?_
  obtain ⟨v7, ev7, h⟩ := bind_some h
  refine R_gI DX8_often_32 fl_RX8_96 ev7 ?_
  by_cases c8 : v7 ≤ a.2.1
  · replace h := if_t h c8
    refine R_icmp_ge_t DX8_often_35 c8 ?_
    refine R.sub (L' := [(3, .int a.1)]) [3] rfl ?_
    cases h
    exact he0 _ _ rfl
  · replace h := if_f h c8
    refine R_icmp_ge_f DX8_often_35 c8 ?_
    refine R_iload DX8_often_38 3 rfl ?_
    refine R_aload DX8_often_39 0 rfl ?_
    obtain ⟨v9, ev9, h⟩ := bind_some h
    refine R_gR DX8_often_40 fl_RX8_47 ev9 ?_
    refine R_iload DX8_often_43 1 rfl ?_
    refine R_iload DX8_often_44 4 rfl ?_
    obtain ⟨r10, er10, h⟩ := bind_some h
    refine R_cV1 [.int x1, .int a.2.1] DX8_often_46 kzvX6_windAt ml_RX8_89 ⟨Nat.le_of_ble_eq_true rfl, Nat.le_of_ble_eq_true rfl⟩ rfl (Nat.le_of_ble_eq_true rfl) (kX6_windAt er10) ?_
    refine R_iload DX8_often_49 2 rfl ?_
    by_cases c11 : r10.1 = x2
    · replace h := if_t h c11
      refine R_icmp_ne_f DX8_often_50 c11 ?_
      refine R_constI DX8_often_53 ci_1 ?_
      refine R_goto DX8_often_54 ?_
      refine R.sub (L' := [(0, .ref x0), (1, .int x1), (2, .int x2), (4, .int a.2.1)]) [0, 1, 2, 4] rfl ?_
      exact tX8_often_b58 h hc he0
    · replace h := if_f h c11
      refine R_icmp_ne_t DX8_often_50 c11 ?_
      refine R_constI DX8_often_57 ci_0 ?_
      refine R.sub (L' := [(0, .ref x0), (1, .int x1), (2, .int x2), (4, .int a.2.1)]) [0, 1, 2, 4] rfl ?_
      exact tX8_often_b58 h hc he0
set_option maxRecDepth 8000 in
theorem kX8_often {G : Gm} {x0 : Nat} {x1 : Int32} {x2 : Int32} {s : Hp} {w : Int32 × Hp} (h : fX8_often x0 x1 x2 s = some w) : (s.2.2 x0).1 = 8 ∧ Call G MX8_often [.ref x0, .int x1, .int x2] s (some (.int w.1), w.2) := by
  unfold fX8_often at h
  obtain ⟨_, e0, h⟩ := bind_some h
  refine ⟨ck_some e0, Call.of_R pnRX8 (Nat.le_of_ble_eq_true rfl) ?_⟩
  clear e0
  show R G MX8_often 0 [(0, .ref x0), (1, .int x1), (2, .int x2)] [] s (some (.int w.1), w.2)
  refine R_aload DX8_often_0 0 rfl ?_
  obtain ⟨v1, ev1, h⟩ := bind_some h
  refine R_gR DX8_often_1 fl_RX8_47 ev1 ?_
  refine R_iload DX8_often_4 1 rfl ?_
  obtain ⟨r2, er2, h⟩ := bind_some h
  refine R_cV1 [.int x1] DX8_often_5 kzvX6_hasLayer ml_RX8_82 ⟨Nat.le_of_ble_eq_true rfl, Nat.le_of_ble_eq_true rfl⟩ rfl (Nat.le_of_ble_eq_true rfl) (kX6_hasLayer er2) ?_
  by_cases c3 : r2.1 = 0
  · replace h := if_t h c3
    refine R_if_eq_t DX8_often_8 c3 ?_
    refine R.sub (L' := []) [] rfl ?_
    exact tX8_often_b18 h
  · replace h := if_f h c3
    refine R_if_eq_f DX8_often_8 c3 ?_
    refine R_iload DX8_often_11 2 rfl ?_
    obtain ⟨r4, er4, h⟩ := bind_some h
    refine R_cS1 [.int x2] DX8_often_12 kzsX8_isWind ml_RX8_93 ⟨Nat.le_of_ble_eq_true rfl, Nat.le_of_ble_eq_true rfl⟩ rfl (Nat.le_of_ble_eq_true rfl) (kX8_isWind er4) ?_
    by_cases c5 : r4.1 = 0
    · replace h := if_t h c5
      refine R_if_ne_f DX8_often_15 c5 ?_
      refine R.sub (L' := []) [] rfl ?_
      exact tX8_often_b18 h
    · replace h := if_f h c5
      refine R_if_ne_t DX8_often_15 c5 ?_
      refine R_constI DX8_often_21 ci_0 ?_
      refine R_istore [(3, .int (iI 0)), (0, .ref x0), (1, .int x1), (2, .int x2)] DX8_often_22 (by decide) rfl ?_
      refine R_constI DX8_often_23 ci_0 ?_
      refine R_istore [(4, .int (iI 0)), (3, .int (iI 0)), (0, .ref x0), (1, .int x1), (2, .int x2)] DX8_often_24 (by decide) rfl ?_
      refine R.sub (L' := [(0, .ref x0), (1, .int x1), (2, .int x2), (3, .int (iI 0)), (4, .int (iI 0))]) [2, 3, 4, 1, 0] rfl ?_
      obtain ⟨r13, hi, h⟩ := bind_some h
      have hE : (fun u26 : Int32 × Hp => R G MX8_often 66 [(3, .int u26.1)] [] u26.2 (some (.int w.1), w.2)) r13 → ∀ (q3 : Int32) (q4 : Int32) (qs : Hp), iter (fX8_often_l26 x0 x1 x2) FU (q3, q4, qs) = some r13 → R G MX8_often 26 [(0, .ref x0), (1, .int x1), (2, .int x2), (3, .int q3), (4, .int q4)] [] qs (some (.int w.1), w.2) := fun hX q3 q4 qs hj => loop_R (fX8_often_l26 x0 x1 x2) (fun p26 : Int32 × Int32 × Hp => R G MX8_often 26 [(0, .ref x0), (1, .int x1), (2, .int x2), (3, .int p26.1), (4, .int p26.2.1)] [] p26.2.2 (some (.int w.1), w.2)) (fun u26 : Int32 × Hp => R G MX8_often 66 [(3, .int u26.1)] [] u26.2 (some (.int w.1), w.2)) (fun a w hw hc he => tX8_often_l26 hw (fun q3 q4 qs e => hc (q3, q4, qs) e) (fun q3 qs e => he (q3, qs) e)) FU (q3, q4, qs) r13 hj hX
      refine hE ?_ _ _ _ hi
      clear hE hi
      refine R_iload DX8_often_66 0 rfl ?_
      cases h
      exact R_ireturn rfl DX8_often_67
set_option maxRecDepth 8000 in
theorem tX8_shop_b21 {G : Gm} {s : Hp} {w : Int32 × Hp} (h : fX8_shop_b21 s = some w) : R G MX8_shop 21 [] [] s (some (.int w.1), w.2) := by
  unfold fX8_shop_b21 at h
  refine R_constI DX8_shop_21 ci_m2 ?_
  cases h
  exact R_ireturn rfl DX8_shop_23
set_option maxRecDepth 8000 in
theorem kX8_shop {G : Gm} {x0 : Nat} {x1 : Int32} {x2 : Int32} {s : Hp} {w : Int32 × Hp} (h : fX8_shop x0 x1 x2 s = some w) : (s.2.2 x0).1 = 8 ∧ Call G MX8_shop [.ref x0, .int x1, .int x2] s (some (.int w.1), w.2) := by
  unfold fX8_shop at h
  obtain ⟨_, e0, h⟩ := bind_some h
  refine ⟨ck_some e0, Call.of_R pnRX8 (Nat.le_of_ble_eq_true rfl) ?_⟩
  clear e0
  show R G MX8_shop 0 [(0, .ref x0), (1, .int x1), (2, .int x2)] [] s (some (.int w.1), w.2)
  refine R_aload DX8_shop_0 0 rfl ?_
  obtain ⟨v1, ev1, h⟩ := bind_some h
  refine R_gR DX8_shop_1 fl_RX8_47 ev1 ?_
  refine R_iload DX8_shop_4 1 rfl ?_
  obtain ⟨r2, er2, h⟩ := bind_some h
  refine R_cV1 [.int x1] DX8_shop_5 kzvX6_hasShop ml_RX8_99 ⟨Nat.le_of_ble_eq_true rfl, Nat.le_of_ble_eq_true rfl⟩ rfl (Nat.le_of_ble_eq_true rfl) (kX6_hasShop er2) ?_
  by_cases c3 : r2.1 = 0
  · replace h := if_t h c3
    refine R_if_eq_t DX8_shop_8 c3 ?_
    refine R.sub (L' := []) [] rfl ?_
    exact tX8_shop_b21 h
  · replace h := if_f h c3
    refine R_if_eq_f DX8_shop_8 c3 ?_
    refine R_iload DX8_shop_11 2 rfl ?_
    by_cases c4 : x2 < 0
    · replace h := if_t h c4
      refine R_if_lt_t DX8_shop_12 c4 ?_
      refine R.sub (L' := []) [] rfl ?_
      exact tX8_shop_b21 h
    · replace h := if_f h c4
      refine R_if_lt_f DX8_shop_12 c4 ?_
      refine R_iload DX8_shop_15 2 rfl ?_
      refine R_constI DX8_shop_16 ci_6 ?_
      by_cases c5 : x2 < (iI 6)
      · replace h := if_t h c5
        refine R_icmp_lt_t DX8_shop_18 c5 ?_
        refine R_aload DX8_shop_24 0 rfl ?_
        obtain ⟨v6, ev6, h⟩ := bind_some h
        refine R_gR DX8_shop_25 fl_RX8_47 ev6 ?_
        refine R_iload DX8_shop_28 1 rfl ?_
        refine R_iload DX8_shop_29 2 rfl ?_
        obtain ⟨r7, er7, h⟩ := bind_some h
        refine R_cV1 [.int x1, .int x2] DX8_shop_30 kzvX6_shopFact ml_RX8_102 ⟨Nat.le_of_ble_eq_true rfl, Nat.le_of_ble_eq_true rfl⟩ rfl (Nat.le_of_ble_eq_true rfl) (kX6_shopFact er7) ?_
        cases h
        exact R_ireturn rfl DX8_shop_33
      · replace h := if_f h c5
        refine R_icmp_lt_f DX8_shop_18 c5 ?_
        refine R.sub (L' := []) [] rfl ?_
        exact tX8_shop_b21 h
set_option maxRecDepth 8000 in
theorem tX8_flown_b33 {G : Gm} {x0 : Nat} {s : Hp} {w : Nat × Hp} (h : fX8_flown_b33 x0 s = some w) : R G MX8_flown 33 [(0, .ref x0)] [] s (some (.ref w.1), w.2) := by
  unfold fX8_flown_b33 at h
  refine R_aload DX8_flown_33 0 rfl ?_
  obtain ⟨v3, ev3, h⟩ := bind_some h
  refine R_gR DX8_flown_34 fl_RX8_23 ev3 ?_
  cases h
  exact R_areturn rfl DX8_flown_37
set_option maxRecDepth 8000 in
theorem kX8_flown {G : Gm} {x0 : Nat} {s : Hp} {w : Nat × Hp} (h : fX8_flown x0 s = some w) : (s.2.2 x0).1 = 8 ∧ Call G MX8_flown [.ref x0] s (some (.ref w.1), w.2) := by
  unfold fX8_flown at h
  obtain ⟨_, e0, h⟩ := bind_some h
  refine ⟨ck_some e0, Call.of_R pnRX8 (Nat.le_of_ble_eq_true rfl) ?_⟩
  clear e0
  show R G MX8_flown 0 [(0, .ref x0)] [] s (some (.ref w.1), w.2)
  refine R_aload DX8_flown_0 0 rfl ?_
  obtain ⟨v1, ev1, h⟩ := bind_some h
  refine R_gI DX8_flown_1 fl_RX8_132 ev1 ?_
  by_cases c2 : v1 = 0
  · replace h := if_t h c2
    refine R_if_ne_f DX8_flown_4 c2 ?_
    refine R_aload DX8_flown_7 0 rfl ?_
    obtain ⟨v4, ev4, h⟩ := bind_some h
    refine R_gR DX8_flown_8 fl_RX8_23 ev4 ?_
    refine R_aload DX8_flown_11 0 rfl ?_
    obtain ⟨v5, ev5, h⟩ := bind_some h
    refine R_gR DX8_flown_12 fl_RX8_47 ev5 ?_
    refine R_constI DX8_flown_15 ci_0 ?_
    refine R_constI DX8_flown_16 ci_0 ?_
    obtain ⟨s6, es6, h⟩ := bind_some h
    refine R_cV0 [.ref v5, .int (iI 0), .int (iI 0)] DX8_flown_17 kzvX7_begin ml_RX8_350 ⟨Nat.le_of_ble_eq_true rfl, Nat.le_of_ble_eq_true rfl⟩ rfl (Nat.le_of_ble_eq_true rfl) (kX7_begin es6) ?_
    refine R_aload DX8_flown_20 0 rfl ?_
    obtain ⟨v7, ev7, h⟩ := bind_some h
    refine R_gR DX8_flown_21 fl_RX8_23 ev7 ?_
    refine R_constI DX8_flown_24 ci_0 ?_
    obtain ⟨s8, es8, h⟩ := bind_some h
    refine R_cV0 [.int (iI 0)] DX8_flown_25 kzvX7_flyFrom ml_RX8_354 ⟨Nat.le_of_ble_eq_true rfl, Nat.le_of_ble_eq_true rfl⟩ rfl (Nat.le_of_ble_eq_true rfl) (kX7_flyFrom es8) ?_
    refine R_aload DX8_flown_28 0 rfl ?_
    refine R_constI DX8_flown_29 ci_1 ?_
    obtain ⟨s9, es9, h⟩ := bind_some h
    refine R_pZ DX8_flown_30 fl_RX8_132 es9 ?_
    exact tX8_flown_b33 h
  · replace h := if_f h c2
    refine R_if_ne_t DX8_flown_4 c2 ?_
    exact tX8_flown_b33 h
set_option maxRecDepth 8000 in
theorem tX8_door_b20 {G : Gm} {s : Hp} {w : Int32 × Hp} (h : fX8_door_b20 s = some w) : R G MX8_door 20 [] [] s (some (.int w.1), w.2) := by
  unfold fX8_door_b20 at h
  refine R_constI DX8_door_20 ci_m2 ?_
  cases h
  exact R_ireturn rfl DX8_door_22
set_option maxRecDepth 8000 in
theorem kX8_door {G : Gm} {x0 : Nat} {x1 : Int32} {x2 : Int32} {s : Hp} {w : Int32 × Hp} (h : fX8_door x0 x1 x2 s = some w) : (s.2.2 x0).1 = 8 ∧ Call G MX8_door [.ref x0, .int x1, .int x2] s (some (.int w.1), w.2) := by
  unfold fX8_door at h
  obtain ⟨_, e0, h⟩ := bind_some h
  refine ⟨ck_some e0, Call.of_R pnRX8 (Nat.le_of_ble_eq_true rfl) ?_⟩
  clear e0
  show R G MX8_door 0 [(0, .ref x0), (1, .int x1), (2, .int x2)] [] s (some (.int w.1), w.2)
  refine R_aload DX8_door_0 0 rfl ?_
  obtain ⟨v1, ev1, h⟩ := bind_some h
  refine R_gR DX8_door_1 fl_RX8_47 ev1 ?_
  refine R_iload DX8_door_4 1 rfl ?_
  obtain ⟨r2, er2, h⟩ := bind_some h
  refine R_cV1 [.int x1] DX8_door_5 kzvX6_hasDoor ml_RX8_105 ⟨Nat.le_of_ble_eq_true rfl, Nat.le_of_ble_eq_true rfl⟩ rfl (Nat.le_of_ble_eq_true rfl) (kX6_hasDoor er2) ?_
  by_cases c3 : r2.1 = 0
  · replace h := if_t h c3
    refine R_if_eq_t DX8_door_8 c3 ?_
    refine R.sub (L' := []) [] rfl ?_
    exact tX8_door_b20 h
  · replace h := if_f h c3
    refine R_if_eq_f DX8_door_8 c3 ?_
    refine R_iload DX8_door_11 2 rfl ?_
    by_cases c4 : x2 < 0
    · replace h := if_t h c4
      refine R_if_lt_t DX8_door_12 c4 ?_
      refine R.sub (L' := []) [] rfl ?_
      exact tX8_door_b20 h
    · replace h := if_f h c4
      refine R_if_lt_f DX8_door_12 c4 ?_
      refine R_iload DX8_door_15 2 rfl ?_
      refine R_constI DX8_door_16 ci_3 ?_
      by_cases c5 : x2 ≤ (iI 3)
      · replace h := if_t h c5
        refine R_icmp_le_t DX8_door_17 c5 ?_
        refine R_iload DX8_door_23 2 rfl ?_
        refine R_constI DX8_door_24 ci_3 ?_
        by_cases c6 : x2 = (iI 3)
        · replace h := if_t h c6
          refine R_icmp_ne_f DX8_door_25 c6 ?_
          refine R_aload DX8_door_28 0 rfl ?_
          obtain ⟨r9, er9, h⟩ := bind_some h
          refine R_cV1 [] DX8_door_29 kzvX8_flown ml_RX8_108 ⟨Nat.le_of_ble_eq_true rfl, Nat.le_of_ble_eq_true rfl⟩ rfl (Nat.le_of_ble_eq_true rfl) (kX8_flown er9) ?_
          refine R_iload DX8_door_32 1 rfl ?_
          obtain ⟨r10, er10, h⟩ := bind_some h
          refine R_cV1 [.int x1] DX8_door_33 kzvX7_wantedAtEnd ml_RX8_112 ⟨Nat.le_of_ble_eq_true rfl, Nat.le_of_ble_eq_true rfl⟩ rfl (Nat.le_of_ble_eq_true rfl) (kX7_wantedAtEnd er10) ?_
          refine R_goto DX8_door_36 ?_
          cases h
          exact R_ireturn rfl DX8_door_48
        · replace h := if_f h c6
          refine R_icmp_ne_t DX8_door_25 c6 ?_
          refine R_aload DX8_door_39 0 rfl ?_
          obtain ⟨v7, ev7, h⟩ := bind_some h
          refine R_gR DX8_door_40 fl_RX8_47 ev7 ?_
          refine R_iload DX8_door_43 1 rfl ?_
          refine R_iload DX8_door_44 2 rfl ?_
          obtain ⟨r8, er8, h⟩ := bind_some h
          refine R_cV1 [.int x1, .int x2] DX8_door_45 kzvX6_doorFact ml_RX8_116 ⟨Nat.le_of_ble_eq_true rfl, Nat.le_of_ble_eq_true rfl⟩ rfl (Nat.le_of_ble_eq_true rfl) (kX6_doorFact er8) ?_
          cases h
          exact R_ireturn rfl DX8_door_48
      · replace h := if_f h c5
        refine R_icmp_le_f DX8_door_17 c5 ?_
        refine R.sub (L' := []) [] rfl ?_
        exact tX8_door_b20 h
set_option maxRecDepth 8000 in
theorem tX8_hasShopHour_b26 {G : Gm} {s : Hp} {w : Int32 × Hp} (h : fX8_hasShopHour_b26 s = some w) : R G MX8_hasShopHour 26 [] [] s (some (.int w.1), w.2) := by
  unfold fX8_hasShopHour_b26 at h
  refine R_constI DX8_hasShopHour_26 ci_0 ?_
  cases h
  exact R_zreturn rfl DX8_hasShopHour_27 (by decide)
set_option maxRecDepth 8000 in
theorem kX8_hasShopHour {G : Gm} {x0 : Nat} {x1 : Int32} {x2 : Int32} {s : Hp} {w : Int32 × Hp} (h : fX8_hasShopHour x0 x1 x2 s = some w) : (s.2.2 x0).1 = 8 ∧ Call G MX8_hasShopHour [.ref x0, .int x1, .int x2] s (some (.int w.1), w.2) := by
  unfold fX8_hasShopHour at h
  obtain ⟨_, e0, h⟩ := bind_some h
  refine ⟨ck_some e0, Call.of_R pnRX8 (Nat.le_of_ble_eq_true rfl) ?_⟩
  clear e0
  show R G MX8_hasShopHour 0 [(0, .ref x0), (1, .int x1), (2, .int x2)] [] s (some (.int w.1), w.2)
  refine R_aload DX8_hasShopHour_0 0 rfl ?_
  obtain ⟨v1, ev1, h⟩ := bind_some h
  refine R_gR DX8_hasShopHour_1 fl_RX8_47 ev1 ?_
  refine R_iload DX8_hasShopHour_4 1 rfl ?_
  obtain ⟨r2, er2, h⟩ := bind_some h
  refine R_cV1 [.int x1] DX8_hasShopHour_5 kzvX6_hasShop ml_RX8_99 ⟨Nat.le_of_ble_eq_true rfl, Nat.le_of_ble_eq_true rfl⟩ rfl (Nat.le_of_ble_eq_true rfl) (kX6_hasShop er2) ?_
  by_cases c3 : r2.1 = 0
  · replace h := if_t h c3
    refine R_if_eq_t DX8_hasShopHour_8 c3 ?_
    refine R.sub (L' := []) [] rfl ?_
    exact tX8_hasShopHour_b26 h
  · replace h := if_f h c3
    refine R_if_eq_f DX8_hasShopHour_8 c3 ?_
    refine R_aload DX8_hasShopHour_11 0 rfl ?_
    obtain ⟨v4, ev4, h⟩ := bind_some h
    refine R_gR DX8_hasShopHour_12 fl_RX8_47 ev4 ?_
    refine R_iload DX8_hasShopHour_15 2 rfl ?_
    obtain ⟨r5, er5, h⟩ := bind_some h
    refine R_cV1 [.int x2] DX8_hasShopHour_16 kzvX6_hasHour ml_RX8_86 ⟨Nat.le_of_ble_eq_true rfl, Nat.le_of_ble_eq_true rfl⟩ rfl (Nat.le_of_ble_eq_true rfl) (kX6_hasHour er5) ?_
    by_cases c6 : r5.1 = 0
    · replace h := if_t h c6
      refine R_if_eq_t DX8_hasShopHour_19 c6 ?_
      refine R.sub (L' := []) [] rfl ?_
      exact tX8_hasShopHour_b26 h
    · replace h := if_f h c6
      refine R_if_eq_f DX8_hasShopHour_19 c6 ?_
      refine R_constI DX8_hasShopHour_22 ci_1 ?_
      refine R_goto DX8_hasShopHour_23 ?_
      cases h
      exact R_zreturn rfl DX8_hasShopHour_27 (by decide)
set_option maxRecDepth 8000 in
theorem kX8_act {G : Gm} {x0 : Nat} {x1 : Int32} {x2 : Int32} {s : Hp} {w : Int32 × Hp} (h : fX8_act x0 x1 x2 s = some w) : (s.2.2 x0).1 = 8 ∧ Call G MX8_act [.ref x0, .int x1, .int x2] s (some (.int w.1), w.2) := by
  unfold fX8_act at h
  obtain ⟨_, e0, h⟩ := bind_some h
  refine ⟨ck_some e0, Call.of_R pnRX8 (Nat.le_of_ble_eq_true rfl) ?_⟩
  clear e0
  show R G MX8_act 0 [(0, .ref x0), (1, .int x1), (2, .int x2)] [] s (some (.int w.1), w.2)
  refine R_aload DX8_act_0 0 rfl ?_
  refine R_iload DX8_act_1 1 rfl ?_
  refine R_iload DX8_act_2 2 rfl ?_
  obtain ⟨r1, er1, h⟩ := bind_some h
  refine R_cV1 [.int x1, .int x2] DX8_act_3 kzvX8_hasShopHour ml_RX8_119 ⟨Nat.le_of_ble_eq_true rfl, Nat.le_of_ble_eq_true rfl⟩ rfl (Nat.le_of_ble_eq_true rfl) (kX8_hasShopHour er1) ?_
  by_cases c2 : r1.1 = 0
  · replace h := if_t h c2
    refine R_if_eq_t DX8_act_6 c2 ?_
    refine R_constI DX8_act_21 ci_m2 ?_
    cases h
    exact R_ireturn rfl DX8_act_23
  · replace h := if_f h c2
    refine R_if_eq_f DX8_act_6 c2 ?_
    refine R_aload DX8_act_9 0 rfl ?_
    obtain ⟨v3, ev3, h⟩ := bind_some h
    refine R_gR DX8_act_10 fl_RX8_47 ev3 ?_
    refine R_iload DX8_act_13 1 rfl ?_
    refine R_iload DX8_act_14 2 rfl ?_
    obtain ⟨r4, er4, h⟩ := bind_some h
    refine R_cV1 [.int x1, .int x2] DX8_act_15 kzvX6_actAt ml_RX8_123 ⟨Nat.le_of_ble_eq_true rfl, Nat.le_of_ble_eq_true rfl⟩ rfl (Nat.le_of_ble_eq_true rfl) (kX6_actAt er4) ?_
    refine R_goto DX8_act_18 ?_
    cases h
    exact R_ireturn rfl DX8_act_23
set_option maxRecDepth 8000 in
theorem tX8_isAct_b13 {G : Gm} {s : Hp} {w : Int32 × Hp} (h : fX8_isAct_b13 s = some w) : R G MX8_isAct 13 [] [] s (some (.int w.1), w.2) := by
  unfold fX8_isAct_b13 at h
  refine R_constI DX8_isAct_13 ci_0 ?_
  cases h
  exact R_zreturn rfl DX8_isAct_14 (by decide)
set_option maxRecDepth 8000 in
theorem kX8_isAct {G : Gm} {x0 : Int32} {s : Hp} {w : Int32 × Hp} (h : fX8_isAct x0 s = some w) : Call G MX8_isAct [.int x0] s (some (.int w.1), w.2) := by
  unfold fX8_isAct at h
  refine Call.of_R pnRX8 (Nat.le_of_ble_eq_true rfl) ?_
  show R G MX8_isAct 0 [(0, .int x0)] [] s (some (.int w.1), w.2)
  refine R_iload DX8_isAct_0 0 rfl ?_
  by_cases c1 : x0 < 0
  · replace h := if_t h c1
    refine R_if_lt_t DX8_isAct_1 c1 ?_
    refine R.sub (L' := []) [] rfl ?_
    exact tX8_isAct_b13 h
  · replace h := if_f h c1
    refine R_if_lt_f DX8_isAct_1 c1 ?_
    refine R_iload DX8_isAct_4 0 rfl ?_
    refine R_constI DX8_isAct_5 ci_3 ?_
    by_cases c2 : (iI 3) ≤ x0
    · replace h := if_t h c2
      refine R_icmp_ge_t DX8_isAct_6 c2 ?_
      refine R.sub (L' := []) [] rfl ?_
      exact tX8_isAct_b13 h
    · replace h := if_f h c2
      refine R_icmp_ge_f DX8_isAct_6 c2 ?_
      refine R_constI DX8_isAct_9 ci_1 ?_
      refine R_goto DX8_isAct_10 ?_
      cases h
      exact R_zreturn rfl DX8_isAct_14 (by decide)
set_option maxRecDepth 8000 in
theorem tX8_plan_b16 {G : Gm} {s : Hp} {w : Int32 × Hp} (h : fX8_plan_b16 s = some w) : R G MX8_plan 16 [] [] s (some (.int w.1), w.2) := by
  unfold fX8_plan_b16 at h
  refine R_constI DX8_plan_16 ci_m2 ?_
  cases h
  exact R_ireturn rfl DX8_plan_18
set_option maxRecDepth 8000 in
theorem kX8_plan {G : Gm} {x0 : Nat} {x1 : Int32} {x2 : Int32} {x3 : Int32} {s : Hp} {w : Int32 × Hp} (h : fX8_plan x0 x1 x2 x3 s = some w) : (s.2.2 x0).1 = 8 ∧ Call G MX8_plan [.ref x0, .int x1, .int x2, .int x3] s (some (.int w.1), w.2) := by
  unfold fX8_plan at h
  obtain ⟨_, e0, h⟩ := bind_some h
  refine ⟨ck_some e0, Call.of_R pnRX8 (Nat.le_of_ble_eq_true rfl) ?_⟩
  clear e0
  show R G MX8_plan 0 [(0, .ref x0), (1, .int x1), (2, .int x2), (3, .int x3)] [] s (some (.int w.1), w.2)
  refine R_aload DX8_plan_0 0 rfl ?_
  refine R_iload DX8_plan_1 1 rfl ?_
  refine R_iload DX8_plan_2 2 rfl ?_
  obtain ⟨r1, er1, h⟩ := bind_some h
  refine R_cV1 [.int x1, .int x2] DX8_plan_3 kzvX8_hasShopHour ml_RX8_119 ⟨Nat.le_of_ble_eq_true rfl, Nat.le_of_ble_eq_true rfl⟩ rfl (Nat.le_of_ble_eq_true rfl) (kX8_hasShopHour er1) ?_
  by_cases c2 : r1.1 = 0
  · replace h := if_t h c2
    refine R_if_eq_t DX8_plan_6 c2 ?_
    refine R.sub (L' := []) [] rfl ?_
    exact tX8_plan_b16 h
  · replace h := if_f h c2
    refine R_if_eq_f DX8_plan_6 c2 ?_
    refine R_iload DX8_plan_9 3 rfl ?_
    obtain ⟨r3, er3, h⟩ := bind_some h
    refine R_cS1 [.int x3] DX8_plan_10 kzsX8_isAct ml_RX8_126 ⟨Nat.le_of_ble_eq_true rfl, Nat.le_of_ble_eq_true rfl⟩ rfl (Nat.le_of_ble_eq_true rfl) (kX8_isAct er3) ?_
    by_cases c4 : r3.1 = 0
    · replace h := if_t h c4
      refine R_if_ne_f DX8_plan_13 c4 ?_
      refine R.sub (L' := []) [] rfl ?_
      exact tX8_plan_b16 h
    · replace h := if_f h c4
      refine R_if_ne_t DX8_plan_13 c4 ?_
      refine R_aload DX8_plan_19 0 rfl ?_
      obtain ⟨v5, ev5, h⟩ := bind_some h
      refine R_gR DX8_plan_20 fl_RX8_47 ev5 ?_
      obtain ⟨v6, ev6, h⟩ := bind_some h
      refine R_gI DX8_plan_23 fl_RX8_129 ev6 ?_
      refine R_constI DX8_plan_26 ci_60 ?_
      by_cases c7 : v6 < (iI 60)
      · replace h := if_t h c7
        refine R_icmp_lt_t DX8_plan_28 c7 ?_
        refine R_aload DX8_plan_34 0 rfl ?_
        refine R_constI DX8_plan_35 ci_0 ?_
        obtain ⟨s8, es8, h⟩ := bind_some h
        refine R_pZ DX8_plan_36 fl_RX8_132 es8 ?_
        refine R_aload DX8_plan_39 0 rfl ?_
        obtain ⟨v9, ev9, h⟩ := bind_some h
        refine R_gR DX8_plan_40 fl_RX8_47 ev9 ?_
        refine R_iload DX8_plan_43 1 rfl ?_
        refine R_iload DX8_plan_44 2 rfl ?_
        refine R_iload DX8_plan_45 3 rfl ?_
        obtain ⟨r10, er10, h⟩ := bind_some h
        refine R_cV1 [.int x1, .int x2, .int x3] DX8_plan_46 kzvX6_change ml_RX8_136 ⟨Nat.le_of_ble_eq_true rfl, Nat.le_of_ble_eq_true rfl⟩ rfl (Nat.le_of_ble_eq_true rfl) (kX6_change er10) ?_
        cases h
        exact R_ireturn rfl DX8_plan_49
      · replace h := if_f h c7
        refine R_icmp_lt_f DX8_plan_28 c7 ?_
        refine R_constI DX8_plan_31 ci_m5 ?_
        cases h
        exact R_ireturn rfl DX8_plan_33
set_option maxRecDepth 8000 in
theorem kX8_undo {G : Gm} {x0 : Nat} {s : Hp} {w : Int32 × Hp} (h : fX8_undo x0 s = some w) : (s.2.2 x0).1 = 8 ∧ Call G MX8_undo [.ref x0] s (some (.int w.1), w.2) := by
  unfold fX8_undo at h
  obtain ⟨_, e0, h⟩ := bind_some h
  refine ⟨ck_some e0, Call.of_R pnRX8 (Nat.le_of_ble_eq_true rfl) ?_⟩
  clear e0
  show R G MX8_undo 0 [(0, .ref x0)] [] s (some (.int w.1), w.2)
  refine R_aload DX8_undo_0 0 rfl ?_
  obtain ⟨v1, ev1, h⟩ := bind_some h
  refine R_gR DX8_undo_1 fl_RX8_47 ev1 ?_
  obtain ⟨r2, er2, h⟩ := bind_some h
  refine R_cV1 [] DX8_undo_4 kzvX6_stands ml_RX8_140 ⟨Nat.le_of_ble_eq_true rfl, Nat.le_of_ble_eq_true rfl⟩ rfl (Nat.le_of_ble_eq_true rfl) (kX6_stands er2) ?_
  by_cases c3 : r2.1 = 0
  · replace h := if_t h c3
    refine R_if_ne_f DX8_undo_7 c3 ?_
    refine R_constI DX8_undo_10 ci_m2 ?_
    cases h
    exact R_ireturn rfl DX8_undo_12
  · replace h := if_f h c3
    refine R_if_ne_t DX8_undo_7 c3 ?_
    refine R_aload DX8_undo_13 0 rfl ?_
    obtain ⟨v4, ev4, h⟩ := bind_some h
    refine R_gR DX8_undo_14 fl_RX8_47 ev4 ?_
    obtain ⟨v5, ev5, h⟩ := bind_some h
    refine R_gI DX8_undo_17 fl_RX8_129 ev5 ?_
    by_cases c6 : 0 < v5
    · replace h := if_t h c6
      refine R_if_gt_t DX8_undo_20 c6 ?_
      refine R_aload DX8_undo_26 0 rfl ?_
      refine R_constI DX8_undo_27 ci_0 ?_
      obtain ⟨s7, es7, h⟩ := bind_some h
      refine R_pZ DX8_undo_28 fl_RX8_132 es7 ?_
      refine R_aload DX8_undo_31 0 rfl ?_
      obtain ⟨v8, ev8, h⟩ := bind_some h
      refine R_gR DX8_undo_32 fl_RX8_47 ev8 ?_
      obtain ⟨s9, es9, h⟩ := bind_some h
      refine R_cV0 [] DX8_undo_35 kzvX6_takeBack ml_RX8_144 ⟨Nat.le_of_ble_eq_true rfl, Nat.le_of_ble_eq_true rfl⟩ rfl (Nat.le_of_ble_eq_true rfl) (kX6_takeBack es9) ?_
      refine R_aload DX8_undo_38 0 rfl ?_
      obtain ⟨v10, ev10, h⟩ := bind_some h
      refine R_gR DX8_undo_39 fl_RX8_47 ev10 ?_
      obtain ⟨v11, ev11, h⟩ := bind_some h
      refine R_gI DX8_undo_42 fl_RX8_129 ev11 ?_
      cases h
      exact R_ireturn rfl DX8_undo_45
    · replace h := if_f h c6
      refine R_if_gt_f DX8_undo_20 c6 ?_
      refine R_constI DX8_undo_23 ci_m5 ?_
      cases h
      exact R_ireturn rfl DX8_undo_25
set_option maxRecDepth 8000 in
theorem tX8_changed_b19 {G : Gm} {s : Hp} {w : Int32 × Hp} (h : fX8_changed_b19 s = some w) : R G MX8_changed 19 [] [] s (some (.int w.1), w.2) := by
  unfold fX8_changed_b19 at h
  refine R_constI DX8_changed_19 ci_m2 ?_
  cases h
  exact R_ireturn rfl DX8_changed_21
set_option maxRecDepth 8000 in
theorem tX8_changed_b37 {G : Gm} {s : Hp} {w : Int32 × Hp} (h : fX8_changed_b37 s = some w) : R G MX8_changed 37 [] [] s (some (.int w.1), w.2) := by
  unfold fX8_changed_b37 at h
  refine R_constI DX8_changed_37 ci_m1 ?_
  refine R_goto DX8_changed_38 ?_
  cases h
  exact R_ireturn rfl DX8_changed_50
set_option maxRecDepth 8000 in
theorem kX8_changed {G : Gm} {x0 : Nat} {x1 : Int32} {x2 : Int32} {s : Hp} {w : Int32 × Hp} (h : fX8_changed x0 x1 x2 s = some w) : (s.2.2 x0).1 = 8 ∧ Call G MX8_changed [.ref x0, .int x1, .int x2] s (some (.int w.1), w.2) := by
  unfold fX8_changed at h
  obtain ⟨_, e0, h⟩ := bind_some h
  refine ⟨ck_some e0, Call.of_R pnRX8 (Nat.le_of_ble_eq_true rfl) ?_⟩
  clear e0
  show R G MX8_changed 0 [(0, .ref x0), (1, .int x1), (2, .int x2)] [] s (some (.int w.1), w.2)
  refine R_aload DX8_changed_0 0 rfl ?_
  obtain ⟨v1, ev1, h⟩ := bind_some h
  refine R_gR DX8_changed_1 fl_RX8_47 ev1 ?_
  obtain ⟨r2, er2, h⟩ := bind_some h
  refine R_cV1 [] DX8_changed_4 kzvX6_stands ml_RX8_140 ⟨Nat.le_of_ble_eq_true rfl, Nat.le_of_ble_eq_true rfl⟩ rfl (Nat.le_of_ble_eq_true rfl) (kX6_stands er2) ?_
  by_cases c3 : r2.1 = 0
  · replace h := if_t h c3
    refine R_if_eq_t DX8_changed_7 c3 ?_
    refine R.sub (L' := []) [] rfl ?_
    exact tX8_changed_b19 h
  · replace h := if_f h c3
    refine R_if_eq_f DX8_changed_7 c3 ?_
    refine R_iload DX8_changed_10 2 rfl ?_
    by_cases c4 : x2 < 0
    · replace h := if_t h c4
      refine R_if_lt_t DX8_changed_11 c4 ?_
      refine R.sub (L' := []) [] rfl ?_
      exact tX8_changed_b19 h
    · replace h := if_f h c4
      refine R_if_lt_f DX8_changed_11 c4 ?_
      refine R_iload DX8_changed_14 2 rfl ?_
      refine R_constI DX8_changed_15 ci_4 ?_
      by_cases c5 : x2 < (iI 4)
      · replace h := if_t h c5
        refine R_icmp_lt_t DX8_changed_16 c5 ?_
        refine R_iload DX8_changed_22 1 rfl ?_
        by_cases c6 : x1 < 0
        · replace h := if_t h c6
          refine R_if_lt_t DX8_changed_23 c6 ?_
          refine R.sub (L' := []) [] rfl ?_
          exact tX8_changed_b37 h
        · replace h := if_f h c6
          refine R_if_lt_f DX8_changed_23 c6 ?_
          refine R_iload DX8_changed_26 1 rfl ?_
          refine R_aload DX8_changed_27 0 rfl ?_
          obtain ⟨v7, ev7, h⟩ := bind_some h
          refine R_gR DX8_changed_28 fl_RX8_47 ev7 ?_
          obtain ⟨v8, ev8, h⟩ := bind_some h
          refine R_gI DX8_changed_31 fl_RX8_129 ev8 ?_
          by_cases c9 : x1 < v8
          · replace h := if_t h c9
            refine R_icmp_lt_t DX8_changed_34 c9 ?_
            refine R_aload DX8_changed_41 0 rfl ?_
            obtain ⟨v10, ev10, h⟩ := bind_some h
            refine R_gR DX8_changed_42 fl_RX8_47 ev10 ?_
            refine R_iload DX8_changed_45 1 rfl ?_
            refine R_iload DX8_changed_46 2 rfl ?_
            obtain ⟨r11, er11, h⟩ := bind_some h
            refine R_cV1 [.int x1, .int x2] DX8_changed_47 kzvX6_changeFact ml_RX8_147 ⟨Nat.le_of_ble_eq_true rfl, Nat.le_of_ble_eq_true rfl⟩ rfl (Nat.le_of_ble_eq_true rfl) (kX6_changeFact er11) ?_
            cases h
            exact R_ireturn rfl DX8_changed_50
          · replace h := if_f h c9
            refine R_icmp_lt_f DX8_changed_34 c9 ?_
            refine R.sub (L' := []) [] rfl ?_
            exact tX8_changed_b37 h
      · replace h := if_f h c5
        refine R_icmp_lt_f DX8_changed_16 c5 ?_
        refine R.sub (L' := []) [] rfl ?_
        exact tX8_changed_b19 h
set_option maxRecDepth 8000 in
theorem tX8_where_b19 {G : Gm} {s : Hp} {w : Int32 × Hp} (h : fX8_where_b19 s = some w) : R G MX8_where 19 [] [] s (some (.int w.1), w.2) := by
  unfold fX8_where_b19 at h
  refine R_constI DX8_where_19 ci_m2 ?_
  cases h
  exact R_ireturn rfl DX8_where_21
set_option maxRecDepth 8000 in
theorem kX8_where {G : Gm} {x0 : Nat} {x1 : Int32} {x2 : Int32} {x3 : Int32} {s : Hp} {w : Int32 × Hp} (h : fX8_where x0 x1 x2 x3 s = some w) : (s.2.2 x0).1 = 8 ∧ Call G MX8_where [.ref x0, .int x1, .int x2, .int x3] s (some (.int w.1), w.2) := by
  unfold fX8_where at h
  obtain ⟨_, e0, h⟩ := bind_some h
  refine ⟨ck_some e0, Call.of_R pnRX8 (Nat.le_of_ble_eq_true rfl) ?_⟩
  clear e0
  show R G MX8_where 0 [(0, .ref x0), (1, .int x1), (2, .int x2), (3, .int x3)] [] s (some (.int w.1), w.2)
  refine R_aload DX8_where_0 0 rfl ?_
  refine R_iload DX8_where_1 1 rfl ?_
  refine R_iload DX8_where_2 2 rfl ?_
  obtain ⟨r1, er1, h⟩ := bind_some h
  refine R_cV1 [.int x1, .int x2] DX8_where_3 kzvX8_hasShopHour ml_RX8_119 ⟨Nat.le_of_ble_eq_true rfl, Nat.le_of_ble_eq_true rfl⟩ rfl (Nat.le_of_ble_eq_true rfl) (kX8_hasShopHour er1) ?_
  by_cases c2 : r1.1 = 0
  · replace h := if_t h c2
    refine R_if_eq_t DX8_where_6 c2 ?_
    refine R.sub (L' := []) [] rfl ?_
    exact tX8_where_b19 h
  · replace h := if_f h c2
    refine R_if_eq_f DX8_where_6 c2 ?_
    refine R_iload DX8_where_9 3 rfl ?_
    by_cases c3 : x3 < 0
    · replace h := if_t h c3
      refine R_if_lt_t DX8_where_10 c3 ?_
      refine R.sub (L' := []) [] rfl ?_
      exact tX8_where_b19 h
    · replace h := if_f h c3
      refine R_if_lt_f DX8_where_10 c3 ?_
      refine R_iload DX8_where_13 3 rfl ?_
      refine R_constI DX8_where_14 ci_7 ?_
      by_cases c4 : x3 < (iI 7)
      · replace h := if_t h c4
        refine R_icmp_lt_t DX8_where_16 c4 ?_
        refine R_aload DX8_where_22 0 rfl ?_
        obtain ⟨r5, er5, h⟩ := bind_some h
        refine R_cV1 [] DX8_where_23 kzvX8_flown ml_RX8_108 ⟨Nat.le_of_ble_eq_true rfl, Nat.le_of_ble_eq_true rfl⟩ rfl (Nat.le_of_ble_eq_true rfl) (kX8_flown er5) ?_
        refine R_iload DX8_where_26 1 rfl ?_
        refine R_iload DX8_where_27 2 rfl ?_
        refine R_iload DX8_where_28 3 rfl ?_
        obtain ⟨r6, er6, h⟩ := bind_some h
        refine R_cV1 [.int x1, .int x2, .int x3] DX8_where_29 kzvX7_factBehind ml_RX8_150 ⟨Nat.le_of_ble_eq_true rfl, Nat.le_of_ble_eq_true rfl⟩ rfl (Nat.le_of_ble_eq_true rfl) (kX7_factBehind er6) ?_
        cases h
        exact R_ireturn rfl DX8_where_32
      · replace h := if_f h c4
        refine R_icmp_lt_f DX8_where_16 c4 ?_
        refine R.sub (L' := []) [] rfl ?_
        exact tX8_where_b19 h
set_option maxRecDepth 8000 in
theorem kX8_why {G : Gm} {x0 : Nat} {x1 : Int32} {x2 : Int32} {s : Hp} {w : Int32 × Hp} (h : fX8_why x0 x1 x2 s = some w) : (s.2.2 x0).1 = 8 ∧ Call G MX8_why [.ref x0, .int x1, .int x2] s (some (.int w.1), w.2) := by
  unfold fX8_why at h
  obtain ⟨_, e0, h⟩ := bind_some h
  refine ⟨ck_some e0, Call.of_R pnRX8 (Nat.le_of_ble_eq_true rfl) ?_⟩
  clear e0
  show R G MX8_why 0 [(0, .ref x0), (1, .int x1), (2, .int x2)] [] s (some (.int w.1), w.2)
  refine R_aload DX8_why_0 0 rfl ?_
  refine R_iload DX8_why_1 1 rfl ?_
  refine R_iload DX8_why_2 2 rfl ?_
  obtain ⟨r1, er1, h⟩ := bind_some h
  refine R_cV1 [.int x1, .int x2] DX8_why_3 kzvX8_hasShopHour ml_RX8_119 ⟨Nat.le_of_ble_eq_true rfl, Nat.le_of_ble_eq_true rfl⟩ rfl (Nat.le_of_ble_eq_true rfl) (kX8_hasShopHour er1) ?_
  by_cases c2 : r1.1 = 0
  · replace h := if_t h c2
    refine R_if_eq_t DX8_why_6 c2 ?_
    refine R_constI DX8_why_21 ci_m2 ?_
    cases h
    exact R_ireturn rfl DX8_why_23
  · replace h := if_f h c2
    refine R_if_eq_f DX8_why_6 c2 ?_
    refine R_aload DX8_why_9 0 rfl ?_
    obtain ⟨r3, er3, h⟩ := bind_some h
    refine R_cV1 [] DX8_why_10 kzvX8_flown ml_RX8_108 ⟨Nat.le_of_ble_eq_true rfl, Nat.le_of_ble_eq_true rfl⟩ rfl (Nat.le_of_ble_eq_true rfl) (kX8_flown er3) ?_
    refine R_iload DX8_why_13 1 rfl ?_
    refine R_iload DX8_why_14 2 rfl ?_
    obtain ⟨r4, er4, h⟩ := bind_some h
    refine R_cV1 [.int x1, .int x2] DX8_why_15 kzvX7_reasonAt ml_RX8_153 ⟨Nat.le_of_ble_eq_true rfl, Nat.le_of_ble_eq_true rfl⟩ rfl (Nat.le_of_ble_eq_true rfl) (kX7_reasonAt er4) ?_
    refine R_goto DX8_why_18 ?_
    cases h
    exact R_ireturn rfl DX8_why_23
set_option maxRecDepth 8000 in
theorem tX8_vain_b52 {G : Gm} {x0 : Nat} {x1 : Int32} {x2 : Nat} {x4 : Int32} {y0 : Int32} {y1 : Int32} {s : Hp} {o : Option Value × Hp} {w : (Int32 × Int32 × Hp) ⊕ ((Int32 × Hp))} (h : fX8_vain_b52 x0 x1 x2 x4 y0 y1 s = some w) (hc : ∀ (q3 : Int32) (q4 : Int32) (qs : Hp), w = .inl (q3, q4, qs) → R G MX8_vain 24 [(0, .ref x0), (1, .int x1), (2, .ref x2), (3, .int q3), (4, .int q4)] [] qs o) (he0 : ∀ (q3 : Int32) (qs : Hp), w = .inr (q3, qs) → R G MX8_vain 60 [(3, .int q3)] [] qs o) : R G MX8_vain 52 [(0, .ref x0), (1, .int x1), (2, .ref x2), (4, .int x4)] [.int y1, .int y0] s o := by
  unfold fX8_vain_b52 at h
  refine R_iadd DX8_vain_52 ?_
  obtain ⟨z10, ez10, h⟩ := lt_some h
  refine R_istoreE ez10 [(3, .int z10), (0, .ref x0), (1, .int x1), (2, .ref x2), (4, .int x4)] DX8_vain_53 (by decide) rfl ?_
  refine R_iinc [(4, .int (x4 + iI 1)), (3, .int z10), (0, .ref x0), (1, .int x1), (2, .ref x2)] DX8_vain_54 4 rfl (v := x4 + iI 1) (by rfl) (by decide) rfl ?_
  refine R_goto DX8_vain_57 ?_
  refine R.sub (L' := [(0, .ref x0), (1, .int x1), (2, .ref x2), (3, .int z10), (4, .int (x4 + iI 1))]) [2, 3, 4, 1, 0] rfl ?_
  cases h
  exact hc _ _ _ rfl
set_option maxRecDepth 8000 in
theorem tX8_vain_l24 {G : Gm} {x0 : Nat} {x1 : Int32} {x2 : Nat} {o : Option Value × Hp} {a : Int32 × Int32 × Hp} {w : (Int32 × Int32 × Hp) ⊕ ((Int32 × Hp))} (h : fX8_vain_l24 x0 x1 x2 a = some w) (hc : ∀ (q3 : Int32) (q4 : Int32) (qs : Hp), w = .inl (q3, q4, qs) → R G MX8_vain 24 [(0, .ref x0), (1, .int x1), (2, .ref x2), (3, .int q3), (4, .int q4)] [] qs o) (he0 : ∀ (q3 : Int32) (qs : Hp), w = .inr (q3, qs) → R G MX8_vain 60 [(3, .int q3)] [] qs o) : R G MX8_vain 24 [(0, .ref x0), (1, .int x1), (2, .ref x2), (3, .int a.1), (4, .int a.2.1)] [] a.2.2 o := by
  unfold fX8_vain_l24 at h
  refine R_iload DX8_vain_24 4 rfl ?_
  refine R_aload DX8_vain_26 0 rfl ?_
  obtain ⟨v5, ev5, h⟩ := bind_some h
  refine R_gR DX8_vain_27 fl_RX8_47 ev5 ?_
  obtain ⟨v6, ev6, h⟩ := bind_some h
  refine R_gI DX8_vain_30 fl_RX8_96 ev6 ?_
  by_cases c7 : v6 ≤ a.2.1
  · replace h := if_t h c7
    refine R_icmp_ge_t DX8_vain_33 c7 ?_
    refine R.sub (L' := [(3, .int a.1)]) [3] rfl ?_
    cases h
    exact he0 _ _ rfl
  · replace h := if_f h c7
    refine R_icmp_ge_f DX8_vain_33 c7 ?_
    refine R_iload DX8_vain_36 3 rfl ?_
    refine R_aload DX8_vain_37 2 rfl ?_
    refine R_iload DX8_vain_38 1 rfl ?_
    refine R_iload DX8_vain_39 4 rfl ?_
    obtain ⟨r8, er8, h⟩ := bind_some h
    refine R_cV1 [.int x1, .int a.2.1] DX8_vain_41 kzvX7_reasonAt ml_RX8_153 ⟨Nat.le_of_ble_eq_true rfl, Nat.le_of_ble_eq_true rfl⟩ rfl (Nat.le_of_ble_eq_true rfl) (kX7_reasonAt er8) ?_
    by_cases c9 : r8.1 = 0
    · replace h := if_t h c9
      refine R_if_eq_t DX8_vain_44 c9 ?_
      refine R_constI DX8_vain_51 ci_0 ?_
      refine R.sub (L' := [(0, .ref x0), (1, .int x1), (2, .ref x2), (4, .int a.2.1)]) [0, 1, 2, 4] rfl ?_
      exact tX8_vain_b52 h hc he0
    · replace h := if_f h c9
      refine R_if_eq_f DX8_vain_44 c9 ?_
      refine R_constI DX8_vain_47 ci_1 ?_
      refine R_goto DX8_vain_48 ?_
      refine R.sub (L' := [(0, .ref x0), (1, .int x1), (2, .ref x2), (4, .int a.2.1)]) [0, 1, 2, 4] rfl ?_
      exact tX8_vain_b52 h hc he0
set_option maxRecDepth 8000 in
theorem kX8_vain {G : Gm} {x0 : Nat} {x1 : Int32} {s : Hp} {w : Int32 × Hp} (h : fX8_vain x0 x1 s = some w) : (s.2.2 x0).1 = 8 ∧ Call G MX8_vain [.ref x0, .int x1] s (some (.int w.1), w.2) := by
  unfold fX8_vain at h
  obtain ⟨_, e0, h⟩ := bind_some h
  refine ⟨ck_some e0, Call.of_R pnRX8 (Nat.le_of_ble_eq_true rfl) ?_⟩
  clear e0
  show R G MX8_vain 0 [(0, .ref x0), (1, .int x1)] [] s (some (.int w.1), w.2)
  refine R_aload DX8_vain_0 0 rfl ?_
  obtain ⟨v1, ev1, h⟩ := bind_some h
  refine R_gR DX8_vain_1 fl_RX8_47 ev1 ?_
  refine R_iload DX8_vain_4 1 rfl ?_
  obtain ⟨r2, er2, h⟩ := bind_some h
  refine R_cV1 [.int x1] DX8_vain_5 kzvX6_hasShop ml_RX8_99 ⟨Nat.le_of_ble_eq_true rfl, Nat.le_of_ble_eq_true rfl⟩ rfl (Nat.le_of_ble_eq_true rfl) (kX6_hasShop er2) ?_
  by_cases c3 : r2.1 = 0
  · replace h := if_t h c3
    refine R_if_ne_f DX8_vain_8 c3 ?_
    refine R_constI DX8_vain_11 ci_m2 ?_
    cases h
    exact R_ireturn rfl DX8_vain_13
  · replace h := if_f h c3
    refine R_if_ne_t DX8_vain_8 c3 ?_
    refine R_aload DX8_vain_14 0 rfl ?_
    obtain ⟨r4, er4, h⟩ := bind_some h
    refine R_cV1 [] DX8_vain_15 kzvX8_flown ml_RX8_108 ⟨Nat.le_of_ble_eq_true rfl, Nat.le_of_ble_eq_true rfl⟩ rfl (Nat.le_of_ble_eq_true rfl) (kX8_flown er4) ?_
    refine R_astore [(2, .ref r4.1), (0, .ref x0), (1, .int x1)] DX8_vain_18 (by decide) rfl ?_
    refine R_constI DX8_vain_19 ci_0 ?_
    refine R_istore [(3, .int (iI 0)), (2, .ref r4.1), (0, .ref x0), (1, .int x1)] DX8_vain_20 (by decide) rfl ?_
    refine R_constI DX8_vain_21 ci_0 ?_
    refine R_istore [(4, .int (iI 0)), (3, .int (iI 0)), (2, .ref r4.1), (0, .ref x0), (1, .int x1)] DX8_vain_22 (by decide) rfl ?_
    refine R.sub (L' := [(0, .ref x0), (1, .int x1), (2, .ref r4.1), (3, .int (iI 0)), (4, .int (iI 0))]) [3, 4, 2, 1, 0] rfl ?_
    obtain ⟨r11, hi, h⟩ := bind_some h
    have hE : (fun u24 : Int32 × Hp => R G MX8_vain 60 [(3, .int u24.1)] [] u24.2 (some (.int w.1), w.2)) r11 → ∀ (q3 : Int32) (q4 : Int32) (qs : Hp), iter (fX8_vain_l24 x0 x1 r4.1) FU (q3, q4, qs) = some r11 → R G MX8_vain 24 [(0, .ref x0), (1, .int x1), (2, .ref r4.1), (3, .int q3), (4, .int q4)] [] qs (some (.int w.1), w.2) := fun hX q3 q4 qs hj => loop_R (fX8_vain_l24 x0 x1 r4.1) (fun p24 : Int32 × Int32 × Hp => R G MX8_vain 24 [(0, .ref x0), (1, .int x1), (2, .ref r4.1), (3, .int p24.1), (4, .int p24.2.1)] [] p24.2.2 (some (.int w.1), w.2)) (fun u24 : Int32 × Hp => R G MX8_vain 60 [(3, .int u24.1)] [] u24.2 (some (.int w.1), w.2)) (fun a w hw hc he => tX8_vain_l24 hw (fun q3 q4 qs e => hc (q3, q4, qs) e) (fun q3 qs e => he (q3, qs) e)) FU (q3, q4, qs) r11 hj hX
    refine hE ?_ _ _ _ hi
    clear hE hi
    refine R_iload DX8_vain_60 0 rfl ?_
    cases h
    exact R_ireturn rfl DX8_vain_61
set_option maxRecDepth 8000 in
theorem kX8_blown {G : Gm} {x0 : Nat} {x1 : Int32} {x2 : Int32} {s : Hp} {w : Int32 × Hp} (h : fX8_blown x0 x1 x2 s = some w) : (s.2.2 x0).1 = 8 ∧ Call G MX8_blown [.ref x0, .int x1, .int x2] s (some (.int w.1), w.2) := by
  unfold fX8_blown at h
  obtain ⟨_, e0, h⟩ := bind_some h
  refine ⟨ck_some e0, Call.of_R pnRX8 (Nat.le_of_ble_eq_true rfl) ?_⟩
  clear e0
  show R G MX8_blown 0 [(0, .ref x0), (1, .int x1), (2, .int x2)] [] s (some (.int w.1), w.2)
  refine R_aload DX8_blown_0 0 rfl ?_
  refine R_iload DX8_blown_1 1 rfl ?_
  refine R_iload DX8_blown_2 2 rfl ?_
  obtain ⟨r1, er1, h⟩ := bind_some h
  refine R_cV1 [.int x1, .int x2] DX8_blown_3 kzvX8_hasShopHour ml_RX8_119 ⟨Nat.le_of_ble_eq_true rfl, Nat.le_of_ble_eq_true rfl⟩ rfl (Nat.le_of_ble_eq_true rfl) (kX8_hasShopHour er1) ?_
  by_cases c2 : r1.1 = 0
  · replace h := if_t h c2
    refine R_if_ne_f DX8_blown_6 c2 ?_
    refine R_constI DX8_blown_9 ci_m2 ?_
    cases h
    exact R_ireturn rfl DX8_blown_11
  · replace h := if_f h c2
    refine R_if_ne_t DX8_blown_6 c2 ?_
    refine R_aload DX8_blown_12 0 rfl ?_
    obtain ⟨r3, er3, h⟩ := bind_some h
    refine R_cV1 [] DX8_blown_13 kzvX8_flown ml_RX8_108 ⟨Nat.le_of_ble_eq_true rfl, Nat.le_of_ble_eq_true rfl⟩ rfl (Nat.le_of_ble_eq_true rfl) (kX8_flown er3) ?_
    refine R_iload DX8_blown_16 1 rfl ?_
    refine R_iload DX8_blown_17 2 rfl ?_
    obtain ⟨r4, er4, h⟩ := bind_some h
    refine R_cV1 [.int x1, .int x2] DX8_blown_18 kzvX7_isCarriedAt ml_RX8_156 ⟨Nat.le_of_ble_eq_true rfl, Nat.le_of_ble_eq_true rfl⟩ rfl (Nat.le_of_ble_eq_true rfl) (kX7_isCarriedAt er4) ?_
    by_cases c5 : r4.1 = 0
    · replace h := if_t h c5
      refine R_if_eq_t DX8_blown_21 c5 ?_
      refine R_constI DX8_blown_28 ci_0 ?_
      cases h
      exact R_ireturn rfl DX8_blown_29
    · replace h := if_f h c5
      refine R_if_eq_f DX8_blown_21 c5 ?_
      refine R_constI DX8_blown_24 ci_1 ?_
      refine R_goto DX8_blown_25 ?_
      cases h
      exact R_ireturn rfl DX8_blown_29
set_option maxRecDepth 8000 in
theorem tX8_sales_b27 {G : Gm} {s : Hp} {w : Int32 × Hp} (h : fX8_sales_b27 s = some w) : R G MX8_sales 27 [] [] s (some (.int w.1), w.2) := by
  unfold fX8_sales_b27 at h
  refine R_constI DX8_sales_27 ci_m2 ?_
  cases h
  exact R_ireturn rfl DX8_sales_29
set_option maxRecDepth 8000 in
theorem tX8_sales_b86 {G : Gm} {x0 : Nat} {x1 : Int32} {x2 : Int32} {x3 : Nat} {x5 : Int32} {y0 : Int32} {y1 : Int32} {s : Hp} {o : Option Value × Hp} {w : (Int32 × Int32 × Hp) ⊕ ((Int32 × Hp))} (h : fX8_sales_b86 x0 x1 x2 x3 x5 y0 y1 s = some w) (hc : ∀ (q4 : Int32) (q5 : Int32) (qs : Hp), w = .inl (q4, q5, qs) → R G MX8_sales 41 [(0, .ref x0), (1, .int x1), (2, .int x2), (3, .ref x3), (4, .int q4), (5, .int q5)] [] qs o) (he0 : ∀ (q4 : Int32) (qs : Hp), w = .inr (q4, qs) → R G MX8_sales 95 [(4, .int q4)] [] qs o) : R G MX8_sales 86 [(0, .ref x0), (1, .int x1), (2, .int x2), (3, .ref x3), (5, .int x5)] [.int y1, .int y0] s o := by
  unfold fX8_sales_b86 at h
  refine R_iadd DX8_sales_86 ?_
  obtain ⟨z11, ez11, h⟩ := lt_some h
  refine R_istoreE ez11 [(4, .int z11), (0, .ref x0), (1, .int x1), (2, .int x2), (3, .ref x3), (5, .int x5)] DX8_sales_87 (by decide) rfl ?_
  refine R_iinc [(5, .int (x5 + iI 1)), (4, .int z11), (0, .ref x0), (1, .int x1), (2, .int x2), (3, .ref x3)] DX8_sales_89 5 rfl (v := x5 + iI 1) (by rfl) (by decide) rfl ?_
  refine R_goto DX8_sales_92 ?_
  refine R.sub (L' := [(0, .ref x0), (1, .int x1), (2, .int x2), (3, .ref x3), (4, .int z11), (5, .int (x5 + iI 1))]) [2, 3, 4, 5, 1, 0] rfl ?_
  cases h
  exact hc _ _ _ rfl
set_option maxRecDepth 8000 in
theorem tX8_sales_b85 {G : Gm} {x0 : Nat} {x1 : Int32} {x2 : Int32} {x3 : Nat} {x5 : Int32} {y0 : Int32} {s : Hp} {o : Option Value × Hp} {w : (Int32 × Int32 × Hp) ⊕ ((Int32 × Hp))} (h : fX8_sales_b85 x0 x1 x2 x3 x5 y0 s = some w) (hc : ∀ (q4 : Int32) (q5 : Int32) (qs : Hp), w = .inl (q4, q5, qs) → R G MX8_sales 41 [(0, .ref x0), (1, .int x1), (2, .int x2), (3, .ref x3), (4, .int q4), (5, .int q5)] [] qs o) (he0 : ∀ (q4 : Int32) (qs : Hp), w = .inr (q4, qs) → R G MX8_sales 95 [(4, .int q4)] [] qs o) : R G MX8_sales 85 [(0, .ref x0), (1, .int x1), (2, .int x2), (3, .ref x3), (5, .int x5)] [.int y0] s o := by
  unfold fX8_sales_b85 at h
  refine R_constI DX8_sales_85 ci_0 ?_
  exact tX8_sales_b86 h hc he0
set_option maxRecDepth 8000 in
theorem tX8_sales_b81 {G : Gm} {x0 : Nat} {x1 : Int32} {x2 : Int32} {x3 : Nat} {x5 : Int32} {y0 : Int32} {s : Hp} {o : Option Value × Hp} {w : (Int32 × Int32 × Hp) ⊕ ((Int32 × Hp))} (h : fX8_sales_b81 x0 x1 x2 x3 x5 y0 s = some w) (hc : ∀ (q4 : Int32) (q5 : Int32) (qs : Hp), w = .inl (q4, q5, qs) → R G MX8_sales 41 [(0, .ref x0), (1, .int x1), (2, .int x2), (3, .ref x3), (4, .int q4), (5, .int q5)] [] qs o) (he0 : ∀ (q4 : Int32) (qs : Hp), w = .inr (q4, qs) → R G MX8_sales 95 [(4, .int q4)] [] qs o) : R G MX8_sales 81 [(0, .ref x0), (1, .int x1), (2, .int x2), (3, .ref x3), (5, .int x5)] [.int y0] s o := by
  unfold fX8_sales_b81 at h
  refine R_constI DX8_sales_81 ci_1 ?_
  refine R_goto DX8_sales_82 ?_
  exact tX8_sales_b86 h hc he0
set_option maxRecDepth 8000 in
theorem tX8_sales_l41 {G : Gm} {x0 : Nat} {x1 : Int32} {x2 : Int32} {x3 : Nat} {o : Option Value × Hp} {a : Int32 × Int32 × Hp} {w : (Int32 × Int32 × Hp) ⊕ ((Int32 × Hp))} (h : fX8_sales_l41 x0 x1 x2 x3 a = some w) (hc : ∀ (q4 : Int32) (q5 : Int32) (qs : Hp), w = .inl (q4, q5, qs) → R G MX8_sales 41 [(0, .ref x0), (1, .int x1), (2, .int x2), (3, .ref x3), (4, .int q4), (5, .int q5)] [] qs o) (he0 : ∀ (q4 : Int32) (qs : Hp), w = .inr (q4, qs) → R G MX8_sales 95 [(4, .int q4)] [] qs o) : R G MX8_sales 41 [(0, .ref x0), (1, .int x1), (2, .int x2), (3, .ref x3), (4, .int a.1), (5, .int a.2.1)] [] a.2.2 o := by
  unfold fX8_sales_l41 at h
  refine R_iload DX8_sales_41 5 rfl ?_
  refine R_aload DX8_sales_43 0 rfl ?_
  obtain ⟨v6, ev6, h⟩ := bind_some h
  refine R_gR DX8_sales_44 fl_RX8_47 ev6 ?_
  obtain ⟨v7, ev7, h⟩ := bind_some h
  refine R_gI DX8_sales_47 fl_RX8_96 ev7 ?_
  by_cases c8 : v7 ≤ a.2.1
  · replace h := if_t h c8
    refine R_icmp_ge_t DX8_sales_50 c8 ?_
    refine R.sub (L' := [(4, .int a.1)]) [4] rfl ?_
    cases h
    exact he0 _ _ rfl
  · replace h := if_f h c8
    refine R_icmp_ge_f DX8_sales_50 c8 ?_
    refine R_aload DX8_sales_53 3 rfl ?_
    refine R_iload DX8_sales_54 1 rfl ?_
    refine R_iload DX8_sales_55 5 rfl ?_
    obtain ⟨r9, er9, h⟩ := bind_some h
    refine R_cV1 [.int x1, .int a.2.1] DX8_sales_57 kzvX7_saleDoorAt ml_RX8_159 ⟨Nat.le_of_ble_eq_true rfl, Nat.le_of_ble_eq_true rfl⟩ rfl (Nat.le_of_ble_eq_true rfl) (kX7_saleDoorAt er9) ?_
    refine R_istore [(6, .int r9.1), (0, .ref x0), (1, .int x1), (2, .int x2), (3, .ref x3), (4, .int a.1), (5, .int a.2.1)] DX8_sales_60 (by decide) rfl ?_
    refine R_iload DX8_sales_62 5 rfl ?_
    refine R_iload DX8_sales_64 0 rfl ?_
    refine R_constI DX8_sales_66 ci_m1 ?_
    by_cases c10 : r9.1 = (iI (-1))
    · replace h := if_t h c10
      refine R_icmp_eq_t DX8_sales_67 c10 ?_
      refine R.sub (L' := [(0, .ref x0), (1, .int x1), (2, .int x2), (3, .ref x3), (5, .int a.2.1)]) [1, 2, 3, 4, 6] rfl ?_
      exact tX8_sales_b85 h hc he0
    · replace h := if_f h c10
      refine R_icmp_eq_f DX8_sales_67 c10 ?_
      refine R_iload DX8_sales_70 3 rfl ?_
      refine R_constI DX8_sales_71 ci_m1 ?_
      by_cases c12 : x2 = (iI (-1))
      · replace h := if_t h c12
        refine R_icmp_eq_t DX8_sales_72 c12 ?_
        refine R.sub (L' := [(0, .ref x0), (1, .int x1), (2, .int x2), (3, .ref x3), (5, .int a.2.1)]) [1, 2, 3, 4, 6] rfl ?_
        exact tX8_sales_b81 h hc he0
      · replace h := if_f h c12
        refine R_icmp_eq_f DX8_sales_72 c12 ?_
        refine R_iload DX8_sales_75 3 rfl ?_
        refine R_iload DX8_sales_76 0 rfl ?_
        by_cases c13 : x2 = r9.1
        · replace h := if_t h c13
          refine R_icmp_ne_f DX8_sales_78 c13 ?_
          refine R.sub (L' := [(0, .ref x0), (1, .int x1), (2, .int x2), (3, .ref x3), (5, .int a.2.1)]) [1, 2, 3, 4, 6] rfl ?_
          exact tX8_sales_b81 h hc he0
        · replace h := if_f h c13
          refine R_icmp_ne_t DX8_sales_78 c13 ?_
          refine R.sub (L' := [(0, .ref x0), (1, .int x1), (2, .int x2), (3, .ref x3), (5, .int a.2.1)]) [1, 2, 3, 4, 6] rfl ?_
          exact tX8_sales_b85 h hc he0
set_option maxRecDepth 8000 in
theorem tX8_sales_b30 {G : Gm} {x0 : Nat} {x1 : Int32} {x2 : Int32} {s : Hp} {w : Int32 × Hp} (h : fX8_sales_b30 x0 x1 x2 s = some w) : R G MX8_sales 30 [(0, .ref x0), (1, .int x1), (2, .int x2)] [] s (some (.int w.1), w.2) := by
  unfold fX8_sales_b30 at h
  refine R_aload DX8_sales_30 0 rfl ?_
  obtain ⟨r5, er5, h⟩ := bind_some h
  refine R_cV1 [] DX8_sales_31 kzvX8_flown ml_RX8_108 ⟨Nat.le_of_ble_eq_true rfl, Nat.le_of_ble_eq_true rfl⟩ rfl (Nat.le_of_ble_eq_true rfl) (kX8_flown er5) ?_
  refine R_astore [(3, .ref r5.1), (0, .ref x0), (1, .int x1), (2, .int x2)] DX8_sales_34 (by decide) rfl ?_
  refine R_constI DX8_sales_35 ci_0 ?_
  refine R_istore [(4, .int (iI 0)), (3, .ref r5.1), (0, .ref x0), (1, .int x1), (2, .int x2)] DX8_sales_36 (by decide) rfl ?_
  refine R_constI DX8_sales_38 ci_0 ?_
  refine R_istore [(5, .int (iI 0)), (4, .int (iI 0)), (3, .ref r5.1), (0, .ref x0), (1, .int x1), (2, .int x2)] DX8_sales_39 (by decide) rfl ?_
  refine R.sub (L' := [(0, .ref x0), (1, .int x1), (2, .int x2), (3, .ref r5.1), (4, .int (iI 0)), (5, .int (iI 0))]) [3, 4, 5, 2, 1, 0] rfl ?_
  obtain ⟨r14, hi, h⟩ := bind_some h
  have hE : (fun u41 : Int32 × Hp => R G MX8_sales 95 [(4, .int u41.1)] [] u41.2 (some (.int w.1), w.2)) r14 → ∀ (q4 : Int32) (q5 : Int32) (qs : Hp), iter (fX8_sales_l41 x0 x1 x2 r5.1) FU (q4, q5, qs) = some r14 → R G MX8_sales 41 [(0, .ref x0), (1, .int x1), (2, .int x2), (3, .ref r5.1), (4, .int q4), (5, .int q5)] [] qs (some (.int w.1), w.2) := fun hX q4 q5 qs hj => loop_R (fX8_sales_l41 x0 x1 x2 r5.1) (fun p41 : Int32 × Int32 × Hp => R G MX8_sales 41 [(0, .ref x0), (1, .int x1), (2, .int x2), (3, .ref r5.1), (4, .int p41.1), (5, .int p41.2.1)] [] p41.2.2 (some (.int w.1), w.2)) (fun u41 : Int32 × Hp => R G MX8_sales 95 [(4, .int u41.1)] [] u41.2 (some (.int w.1), w.2)) (fun a w hw hc he => tX8_sales_l41 hw (fun q4 q5 qs e => hc (q4, q5, qs) e) (fun q4 qs e => he (q4, qs) e)) FU (q4, q5, qs) r14 hj hX
  refine hE ?_ _ _ _ hi
  clear hE hi
  refine R_iload DX8_sales_95 0 rfl ?_
  cases h
  exact R_ireturn rfl DX8_sales_97
set_option maxRecDepth 8000 in
theorem kX8_sales {G : Gm} {x0 : Nat} {x1 : Int32} {x2 : Int32} {s : Hp} {w : Int32 × Hp} (h : fX8_sales x0 x1 x2 s = some w) : (s.2.2 x0).1 = 8 ∧ Call G MX8_sales [.ref x0, .int x1, .int x2] s (some (.int w.1), w.2) := by
  unfold fX8_sales at h
  obtain ⟨_, e0, h⟩ := bind_some h
  refine ⟨ck_some e0, Call.of_R pnRX8 (Nat.le_of_ble_eq_true rfl) ?_⟩
  clear e0
  show R G MX8_sales 0 [(0, .ref x0), (1, .int x1), (2, .int x2)] [] s (some (.int w.1), w.2)
  refine R_aload DX8_sales_0 0 rfl ?_
  obtain ⟨v1, ev1, h⟩ := bind_some h
  refine R_gR DX8_sales_1 fl_RX8_47 ev1 ?_
  refine R_iload DX8_sales_4 1 rfl ?_
  obtain ⟨r2, er2, h⟩ := bind_some h
  refine R_cV1 [.int x1] DX8_sales_5 kzvX6_hasShop ml_RX8_99 ⟨Nat.le_of_ble_eq_true rfl, Nat.le_of_ble_eq_true rfl⟩ rfl (Nat.le_of_ble_eq_true rfl) (kX6_hasShop er2) ?_
  by_cases c3 : r2.1 = 0
  · replace h := if_t h c3
    refine R_if_eq_t DX8_sales_8 c3 ?_
    refine R.sub (L' := []) [] rfl ?_
    exact tX8_sales_b27 h
  · replace h := if_f h c3
    refine R_if_eq_f DX8_sales_8 c3 ?_
    refine R_iload DX8_sales_11 2 rfl ?_
    refine R_constI DX8_sales_12 ci_m1 ?_
    by_cases c4 : x2 = (iI (-1))
    · replace h := if_t h c4
      refine R_icmp_eq_t DX8_sales_13 c4 ?_
      exact tX8_sales_b30 h
    · replace h := if_f h c4
      refine R_icmp_eq_f DX8_sales_13 c4 ?_
      refine R_aload DX8_sales_16 0 rfl ?_
      obtain ⟨v15, ev15, h⟩ := bind_some h
      refine R_gR DX8_sales_17 fl_RX8_47 ev15 ?_
      refine R_iload DX8_sales_20 2 rfl ?_
      obtain ⟨r16, er16, h⟩ := bind_some h
      refine R_cV1 [.int x2] DX8_sales_21 kzvX6_hasDoor ml_RX8_105 ⟨Nat.le_of_ble_eq_true rfl, Nat.le_of_ble_eq_true rfl⟩ rfl (Nat.le_of_ble_eq_true rfl) (kX6_hasDoor er16) ?_
      by_cases c17 : r16.1 = 0
      · replace h := if_t h c17
        refine R_if_ne_f DX8_sales_24 c17 ?_
        refine R.sub (L' := []) [] rfl ?_
        exact tX8_sales_b27 h
      · replace h := if_f h c17
        refine R_if_ne_t DX8_sales_24 c17 ?_
        exact tX8_sales_b30 h
