set_option maxRecDepth 8000 in
theorem tX4_sinkAll_l11 {G : Gm} {x0 : Nat} {x1 : Int32} {x2 : Int32} {x3 : Int32} {o : Option Value × Hp} {a : Int32 × Hp} {w : (Int32 × Hp) ⊕ ((Hp))} (h : fX4_sinkAll_l11 x0 x1 x2 x3 a = some w) (hc : ∀ (q4 : Int32) (qs : Hp), w = .inl (q4, qs) → R G MX4_sinkAll 11 [(0, .ref x0), (1, .int x1), (2, .int x2), (3, .int x3), (4, .int q4)] [] qs o) (he0 : ∀ (qs : Hp), w = .inr qs → R G MX4_sinkAll 62 [(0, .ref x0), (1, .int x1), (2, .int x2)] [] qs o) : R G MX4_sinkAll 11 [(0, .ref x0), (1, .int x1), (2, .int x2), (3, .int x3), (4, .int a.1)] [] a.2 o := by
  unfold fX4_sinkAll_l11 at h
  refine R_iload DX4_sinkAll_11 4 rfl ?_
  refine R_aload DX4_sinkAll_13 0 rfl ?_
  obtain ⟨v2, ev2, h⟩ := bind_some h
  refine R_gI DX4_sinkAll_14 fl_RX4_136 ev2 ?_
  by_cases c3 : v2 ≤ a.1
  · replace h := if_t h c3
    refine R_icmp_ge_t DX4_sinkAll_17 c3 ?_
    refine R.sub (L' := [(0, .ref x0), (1, .int x1), (2, .int x2)]) [0, 1, 2] rfl ?_
    cases h
    exact he0 _ rfl
  · replace h := if_f h c3
    refine R_icmp_ge_f DX4_sinkAll_17 c3 ?_
    refine R_aload DX4_sinkAll_20 0 rfl ?_
    obtain ⟨v4, ev4, h⟩ := bind_some h
    refine R_gR DX4_sinkAll_21 fl_RX4_11 ev4 ?_
    refine R_iload DX4_sinkAll_24 3 rfl ?_
    refine R_iload DX4_sinkAll_25 4 rfl ?_
    refine R_iadd DX4_sinkAll_27 ?_
    refine R_aload DX4_sinkAll_28 0 rfl ?_
    refine R_aload DX4_sinkAll_29 0 rfl ?_
    obtain ⟨v5, ev5, h⟩ := bind_some h
    refine R_gR DX4_sinkAll_30 fl_RX4_11 ev5 ?_
    refine R_iload DX4_sinkAll_33 3 rfl ?_
    refine R_iload DX4_sinkAll_34 4 rfl ?_
    refine R_iadd DX4_sinkAll_36 ?_
    obtain ⟨v6, ev6, h⟩ := bind_some h
    refine R_aL DX4_sinkAll_37 ev6 ?_
    refine R_aload DX4_sinkAll_38 0 rfl ?_
    obtain ⟨v7, ev7, h⟩ := bind_some h
    refine R_gR DX4_sinkAll_39 fl_RX4_11 ev7 ?_
    refine R_iload DX4_sinkAll_42 3 rfl ?_
    refine R_aload DX4_sinkAll_43 0 rfl ?_
    obtain ⟨v8, ev8, h⟩ := bind_some h
    refine R_gI DX4_sinkAll_44 fl_RX4_136 ev8 ?_
    refine R_iadd DX4_sinkAll_47 ?_
    refine R_iload DX4_sinkAll_48 4 rfl ?_
    refine R_iadd DX4_sinkAll_50 ?_
    obtain ⟨v9, ev9, h⟩ := bind_some h
    refine R_aL DX4_sinkAll_51 ev9 ?_
    obtain ⟨r10, er10, h⟩ := bind_some h
    refine R_cV1 [.long v6, .long v9] DX4_sinkAll_52 kzvX4_joined ml_RX4_182 ⟨Nat.le_of_ble_eq_true rfl, Nat.le_of_ble_eq_true rfl⟩ rfl (Nat.le_of_ble_eq_true rfl) (kX4_joined er10) ?_
    obtain ⟨s11, es11, h⟩ := bind_some h
    refine R_sL DX4_sinkAll_55 es11 ?_
    refine R_iinc [(4, .int (a.1 + iI 1)), (0, .ref x0), (1, .int x1), (2, .int x2), (3, .int x3)] DX4_sinkAll_56 4 rfl (v := a.1 + iI 1) (by rfl) (by decide) rfl ?_
    refine R_goto DX4_sinkAll_59 ?_
    refine R.sub (L' := [(0, .ref x0), (1, .int x1), (2, .int x2), (3, .int x3), (4, .int (a.1 + iI 1))]) [1, 2, 3, 4, 0] rfl ?_
    cases h
    exact hc _ _ rfl
set_option maxRecDepth 8000 in
theorem tX4_sinkAll_b141 {G : Gm} {x0 : Nat} {x1 : Int32} {x2 : Int32} {x4 : Int32} {x5 : Int32} {x6 : Int32} {y0 : Nat} {y1 : Int32} {y2 : Int64} {s : Hp} {o : Option Value × Hp} {w : (Int32 × Hp) ⊕ ((Hp))} (h : fX4_sinkAll_b141 x0 x1 x2 x4 x5 x6 y0 y1 y2 s = some w) (hc : ∀ (q6 : Int32) (qs : Hp), w = .inl (q6, qs) → R G MX4_sinkAll 90 [(0, .ref x0), (1, .int x1), (2, .int x2), (4, .int x4), (5, .int x5), (6, .int q6)] [] qs o) (he0 : ∀ (qs : Hp), w = .inr qs → R G MX4_sinkAll 148 [(0, .ref x0), (1, .int x1), (2, .int x2), (4, .int x4)] [] qs o) : R G MX4_sinkAll 141 [(0, .ref x0), (1, .int x1), (2, .int x2), (4, .int x4), (5, .int x5), (6, .int x6)] [.long y2, .int y1, .ref y0] s o := by
  unfold fX4_sinkAll_b141 at h
  obtain ⟨s23, es23, h⟩ := bind_some h
  refine R_sL DX4_sinkAll_141 es23 ?_
  refine R_iinc [(6, .int (x6 + iI 1)), (0, .ref x0), (1, .int x1), (2, .int x2), (4, .int x4), (5, .int x5)] DX4_sinkAll_142 5 rfl (v := x6 + iI 1) (by rfl) (by decide) rfl ?_
  refine R_goto DX4_sinkAll_145 ?_
  refine R.sub (L' := [(0, .ref x0), (1, .int x1), (2, .int x2), (4, .int x4), (5, .int x5), (6, .int (x6 + iI 1))]) [1, 2, 3, 4, 5, 0] rfl ?_
  cases h
  exact hc _ _ rfl
set_option maxRecDepth 8000 in
theorem tX4_sinkAll_l90 {G : Gm} {x0 : Nat} {x1 : Int32} {x2 : Int32} {x4 : Int32} {x5 : Int32} {o : Option Value × Hp} {a : Int32 × Hp} {w : (Int32 × Hp) ⊕ ((Hp))} (h : fX4_sinkAll_l90 x0 x1 x2 x4 x5 a = some w) (hc : ∀ (q6 : Int32) (qs : Hp), w = .inl (q6, qs) → R G MX4_sinkAll 90 [(0, .ref x0), (1, .int x1), (2, .int x2), (4, .int x4), (5, .int x5), (6, .int q6)] [] qs o) (he0 : ∀ (qs : Hp), w = .inr qs → R G MX4_sinkAll 148 [(0, .ref x0), (1, .int x1), (2, .int x2), (4, .int x4)] [] qs o) : R G MX4_sinkAll 90 [(0, .ref x0), (1, .int x1), (2, .int x2), (4, .int x4), (5, .int x5), (6, .int a.1)] [] a.2 o := by
  unfold fX4_sinkAll_l90 at h
  refine R_iload DX4_sinkAll_90 5 rfl ?_
  refine R_aload DX4_sinkAll_92 0 rfl ?_
  obtain ⟨v17, ev17, h⟩ := bind_some h
  refine R_gI DX4_sinkAll_93 fl_RX4_136 ev17 ?_
  by_cases c18 : v17 ≤ a.1
  · replace h := if_t h c18
    refine R_icmp_ge_t DX4_sinkAll_96 c18 ?_
    refine R.sub (L' := [(0, .ref x0), (1, .int x1), (2, .int x2), (4, .int x4)]) [0, 1, 2, 3] rfl ?_
    cases h
    exact he0 _ rfl
  · replace h := if_f h c18
    refine R_icmp_ge_f DX4_sinkAll_96 c18 ?_
    refine R_aload DX4_sinkAll_99 0 rfl ?_
    obtain ⟨v19, ev19, h⟩ := bind_some h
    refine R_gR DX4_sinkAll_100 fl_RX4_11 ev19 ?_
    refine R_iload DX4_sinkAll_103 4 rfl ?_
    refine R_iload DX4_sinkAll_105 5 rfl ?_
    refine R_iadd DX4_sinkAll_107 ?_
    refine R_iload DX4_sinkAll_108 3 rfl ?_
    refine R_constI DX4_sinkAll_110 ci_1 ?_
    refine R_iadd DX4_sinkAll_111 ?_
    refine R_aload DX4_sinkAll_112 0 rfl ?_
    obtain ⟨v20, ev20, h⟩ := bind_some h
    refine R_gR DX4_sinkAll_113 fl_RX4_120 ev20 ?_
    obtain ⟨v21, ev21, h⟩ := bind_some h
    refine R_gI DX4_sinkAll_116 fl_RX4_159 ev21 ?_
    by_cases c22 : v21 ≤ (x4 + (iI 1))
    · replace h := if_t h c22
      refine R_icmp_ge_t DX4_sinkAll_119 c22 ?_
      refine R_lconst DX4_sinkAll_140 ?_
      exact tX4_sinkAll_b141 h hc he0
    · replace h := if_f h c22
      refine R_icmp_ge_f DX4_sinkAll_119 c22 ?_
      refine R_aload DX4_sinkAll_122 0 rfl ?_
      obtain ⟨v24, ev24, h⟩ := bind_some h
      refine R_gR DX4_sinkAll_123 fl_RX4_11 ev24 ?_
      refine R_iload DX4_sinkAll_126 4 rfl ?_
      refine R_aload DX4_sinkAll_128 0 rfl ?_
      obtain ⟨v25, ev25, h⟩ := bind_some h
      refine R_gI DX4_sinkAll_129 fl_RX4_136 ev25 ?_
      refine R_iadd DX4_sinkAll_132 ?_
      refine R_iload DX4_sinkAll_133 5 rfl ?_
      refine R_iadd DX4_sinkAll_135 ?_
      obtain ⟨v26, ev26, h⟩ := bind_some h
      refine R_aL DX4_sinkAll_136 ev26 ?_
      refine R_goto DX4_sinkAll_137 ?_
      exact tX4_sinkAll_b141 h hc he0
set_option maxRecDepth 8000 in
theorem tX4_sinkAll_l65 {G : Gm} {x0 : Nat} {x1 : Int32} {x2 : Int32} {o : Option Value × Hp} {a : Int32 × Hp} {w : (Int32 × Hp) ⊕ ((Hp))} (h : fX4_sinkAll_l65 x0 x1 x2 a = some w) (hc : ∀ (q4 : Int32) (qs : Hp), w = .inl (q4, qs) → R G MX4_sinkAll 65 [(0, .ref x0), (1, .int x1), (2, .int x2), (4, .int q4)] [] qs o) (he0 : ∀ (qs : Hp), w = .inr qs → R G MX4_sinkAll 154 [] [] qs o) : R G MX4_sinkAll 65 [(0, .ref x0), (1, .int x1), (2, .int x2), (4, .int a.1)] [] a.2 o := by
  unfold fX4_sinkAll_l65 at h
  refine R_iload DX4_sinkAll_65 3 rfl ?_
  refine R_aload DX4_sinkAll_67 0 rfl ?_
  obtain ⟨v13, ev13, h⟩ := bind_some h
  refine R_gR DX4_sinkAll_68 fl_RX4_120 ev13 ?_
  obtain ⟨v14, ev14, h⟩ := bind_some h
  refine R_gI DX4_sinkAll_71 fl_RX4_159 ev14 ?_
  by_cases c15 : v14 ≤ a.1
  · replace h := if_t h c15
    refine R_icmp_ge_t DX4_sinkAll_74 c15 ?_
    refine R.sub (L' := []) [] rfl ?_
    cases h
    exact he0 _ rfl
  · replace h := if_f h c15
    refine R_icmp_ge_f DX4_sinkAll_74 c15 ?_
    refine R_aload DX4_sinkAll_77 0 rfl ?_
    refine R_iload DX4_sinkAll_78 1 rfl ?_
    refine R_iload DX4_sinkAll_79 2 rfl ?_
    refine R_iload DX4_sinkAll_80 3 rfl ?_
    obtain ⟨r16, er16, h⟩ := bind_some h
    refine R_cV1 [.int x1, .int x2, .int a.1] DX4_sinkAll_82 kzvX4_placeOf ml_RX4_72 ⟨Nat.le_of_ble_eq_true rfl, Nat.le_of_ble_eq_true rfl⟩ rfl (Nat.le_of_ble_eq_true rfl) (kX4_placeOf er16) ?_
    refine R_istore [(5, .int r16.1), (0, .ref x0), (1, .int x1), (2, .int x2), (4, .int a.1)] DX4_sinkAll_85 (by decide) rfl ?_
    refine R_constI DX4_sinkAll_87 ci_0 ?_
    refine R_istore [(6, .int (iI 0)), (5, .int r16.1), (0, .ref x0), (1, .int x1), (2, .int x2), (4, .int a.1)] DX4_sinkAll_88 (by decide) rfl ?_
    refine R.sub (L' := [(0, .ref x0), (1, .int x1), (2, .int x2), (4, .int a.1), (5, .int r16.1), (6, .int (iI 0))]) [2, 3, 4, 5, 1, 0] rfl ?_
    obtain ⟨r27, hi, h⟩ := bind_some h
    have hE : (fun u90 : Hp => R G MX4_sinkAll 148 [(0, .ref x0), (1, .int x1), (2, .int x2), (4, .int a.1)] [] u90 o) r27 → ∀ (q6 : Int32) (qs : Hp), iter (fX4_sinkAll_l90 x0 x1 x2 a.1 r16.1) FU (q6, qs) = some r27 → R G MX4_sinkAll 90 [(0, .ref x0), (1, .int x1), (2, .int x2), (4, .int a.1), (5, .int r16.1), (6, .int q6)] [] qs o := fun hX q6 qs hj => loop_R (fX4_sinkAll_l90 x0 x1 x2 a.1 r16.1) (fun p90 : Int32 × Hp => R G MX4_sinkAll 90 [(0, .ref x0), (1, .int x1), (2, .int x2), (4, .int a.1), (5, .int r16.1), (6, .int p90.1)] [] p90.2 o) (fun u90 : Hp => R G MX4_sinkAll 148 [(0, .ref x0), (1, .int x1), (2, .int x2), (4, .int a.1)] [] u90 o) (fun a w hw hc he => tX4_sinkAll_l90 hw (fun q6 qs e => hc (q6, qs) e) (fun qs e => he qs e)) FU (q6, qs) r27 hj hX
    refine hE ?_ _ _ hi
    clear hE hi
    refine R_iinc [(4, .int (a.1 + iI 1)), (0, .ref x0), (1, .int x1), (2, .int x2)] DX4_sinkAll_148 3 rfl (v := a.1 + iI 1) (by rfl) (by decide) rfl ?_
    refine R_goto DX4_sinkAll_151 ?_
    refine R.sub (L' := [(0, .ref x0), (1, .int x1), (2, .int x2), (4, .int (a.1 + iI 1))]) [1, 2, 3, 0] rfl ?_
    cases h
    exact hc _ _ rfl
set_option maxRecDepth 8000 in
theorem kX4_sinkAll {G : Gm} {x0 : Nat} {x1 : Int32} {x2 : Int32} {s : Hp} {w : Hp} (h : fX4_sinkAll x0 x1 x2 s = some w) : (s.2.2 x0).1 = 4 ∧ Call G MX4_sinkAll [.ref x0, .int x1, .int x2] s (none, w) := by
  unfold fX4_sinkAll at h
  obtain ⟨_, e0, h⟩ := bind_some h
  refine ⟨ck_some e0, Call.of_R pnRX4 (Nat.le_of_ble_eq_true rfl) ?_⟩
  clear e0
  show R G MX4_sinkAll 0 [(0, .ref x0), (1, .int x1), (2, .int x2)] [] s (none, w)
  refine R_aload DX4_sinkAll_0 0 rfl ?_
  refine R_iload DX4_sinkAll_1 1 rfl ?_
  refine R_iload DX4_sinkAll_2 2 rfl ?_
  refine R_constI DX4_sinkAll_3 ci_0 ?_
  obtain ⟨r1, er1, h⟩ := bind_some h
  refine R_cV1 [.int x1, .int x2, .int (iI 0)] DX4_sinkAll_4 kzvX4_placeOf ml_RX4_72 ⟨Nat.le_of_ble_eq_true rfl, Nat.le_of_ble_eq_true rfl⟩ rfl (Nat.le_of_ble_eq_true rfl) (kX4_placeOf er1) ?_
  refine R_istore [(3, .int r1.1), (0, .ref x0), (1, .int x1), (2, .int x2)] DX4_sinkAll_7 (by decide) rfl ?_
  refine R_constI DX4_sinkAll_8 ci_0 ?_
  refine R_istore [(4, .int (iI 0)), (3, .int r1.1), (0, .ref x0), (1, .int x1), (2, .int x2)] DX4_sinkAll_9 (by decide) rfl ?_
  refine R.sub (L' := [(0, .ref x0), (1, .int x1), (2, .int x2), (3, .int r1.1), (4, .int (iI 0))]) [2, 3, 4, 1, 0] rfl ?_
  obtain ⟨r12, hi, h⟩ := bind_some h
  have hE : (fun u11 : Hp => R G MX4_sinkAll 62 [(0, .ref x0), (1, .int x1), (2, .int x2)] [] u11 (none, w)) r12 → ∀ (q4 : Int32) (qs : Hp), iter (fX4_sinkAll_l11 x0 x1 x2 r1.1) FU (q4, qs) = some r12 → R G MX4_sinkAll 11 [(0, .ref x0), (1, .int x1), (2, .int x2), (3, .int r1.1), (4, .int q4)] [] qs (none, w) := fun hX q4 qs hj => loop_R (fX4_sinkAll_l11 x0 x1 x2 r1.1) (fun p11 : Int32 × Hp => R G MX4_sinkAll 11 [(0, .ref x0), (1, .int x1), (2, .int x2), (3, .int r1.1), (4, .int p11.1)] [] p11.2 (none, w)) (fun u11 : Hp => R G MX4_sinkAll 62 [(0, .ref x0), (1, .int x1), (2, .int x2)] [] u11 (none, w)) (fun a w hw hc he => tX4_sinkAll_l11 hw (fun q4 qs e => hc (q4, qs) e) (fun qs e => he qs e)) FU (q4, qs) r12 hj hX
  refine hE ?_ _ _ hi
  clear hE hi
  refine R_constI DX4_sinkAll_62 ci_1 ?_
  refine R_istore [(4, .int (iI 1)), (0, .ref x0), (1, .int x1), (2, .int x2)] DX4_sinkAll_63 (by decide) rfl ?_
  refine R.sub (L' := [(0, .ref x0), (1, .int x1), (2, .int x2), (4, .int (iI 1))]) [1, 2, 3, 0] rfl ?_
  obtain ⟨r28, hi, h⟩ := bind_some h
  have hE : (fun u65 : Hp => R G MX4_sinkAll 154 [] [] u65 (none, w)) r28 → ∀ (q4 : Int32) (qs : Hp), iter (fX4_sinkAll_l65 x0 x1 x2) FU (q4, qs) = some r28 → R G MX4_sinkAll 65 [(0, .ref x0), (1, .int x1), (2, .int x2), (4, .int q4)] [] qs (none, w) := fun hX q4 qs hj => loop_R (fX4_sinkAll_l65 x0 x1 x2) (fun p65 : Int32 × Hp => R G MX4_sinkAll 65 [(0, .ref x0), (1, .int x1), (2, .int x2), (4, .int p65.1)] [] p65.2 (none, w)) (fun u65 : Hp => R G MX4_sinkAll 154 [] [] u65 (none, w)) (fun a w hw hc he => tX4_sinkAll_l65 hw (fun q4 qs e => hc (q4, qs) e) (fun qs e => he qs e)) FU (q4, qs) r28 hj hX
  refine hE ?_ _ _ hi
  clear hE hi
  cases h
  exact R_return rfl DX4_sinkAll_154
set_option maxRecDepth 8000 in
theorem kX4_moveTag {G : Gm} {x0 : Nat} {x1 : Int32} {x2 : Int32} {x3 : Int64} {s : Hp} {w : Hp} (h : fX4_moveTag x0 x1 x2 x3 s = some w) : (s.2.2 x0).1 = 4 ∧ Call G MX4_moveTag [.ref x0, .int x1, .int x2, .long x3] s (none, w) := by
  unfold fX4_moveTag at h
  obtain ⟨_, e0, h⟩ := bind_some h
  refine ⟨ck_some e0, Call.of_R pnRX4 (Nat.le_of_ble_eq_true rfl) ?_⟩
  clear e0
  show R G MX4_moveTag 0 [(0, .ref x0), (1, .int x1), (2, .int x2), (3, .long x3)] [] s (none, w)
  refine R_aload DX4_moveTag_0 0 rfl ?_
  obtain ⟨v1, ev1, h⟩ := bind_some h
  refine R_gR DX4_moveTag_1 fl_RX4_11 ev1 ?_
  refine R_iload DX4_moveTag_4 1 rfl ?_
  obtain ⟨v2, ev2, h⟩ := bind_some h
  refine R_aL DX4_moveTag_5 ev2 ?_
  refine R_lload DX4_moveTag_6 3 rfl ?_
  refine R_land DX4_moveTag_7 ?_
  obtain ⟨z3, ez3, h⟩ := lt_some h
  refine R_lstoreE ez3 [(5, .long z3), (0, .ref x0), (1, .int x1), (2, .int x2), (3, .long x3)] DX4_moveTag_8 (by decide) rfl ?_
  refine R_lload DX4_moveTag_10 0 rfl ?_
  refine R_lconst DX4_moveTag_12 ?_
  refine R_lcmp DX4_moveTag_13 ?_
  by_cases c4 : (lg_cmp z3 0) = 0
  · replace h := if_t h c4
    refine R_if_eq_t DX4_moveTag_14 c4 ?_
    cases h
    exact R_return rfl DX4_moveTag_43
  · replace h := if_f h c4
    refine R_if_eq_f DX4_moveTag_14 c4 ?_
    refine R_aload DX4_moveTag_17 1 rfl ?_
    obtain ⟨v5, ev5, h⟩ := bind_some h
    refine R_gR DX4_moveTag_18 fl_RX4_11 ev5 ?_
    refine R_iload DX4_moveTag_21 2 rfl ?_
    refine R_dup2 DX4_moveTag_22 rfl rfl ?_
    obtain ⟨v6, ev6, h⟩ := bind_some h
    refine R_aL DX4_moveTag_23 ev6 ?_
    refine R_lload DX4_moveTag_24 0 rfl ?_
    refine R_ldc2 DX4_moveTag_26 cw_RX4_201 ?_
    refine R_lxor DX4_moveTag_29 ?_
    refine R_land DX4_moveTag_30 ?_
    obtain ⟨s7, es7, h⟩ := bind_some h
    refine R_sL DX4_moveTag_31 es7 ?_
    refine R_aload DX4_moveTag_32 1 rfl ?_
    obtain ⟨v8, ev8, h⟩ := bind_some h
    refine R_gR DX4_moveTag_33 fl_RX4_11 ev8 ?_
    refine R_iload DX4_moveTag_36 3 rfl ?_
    refine R_dup2 DX4_moveTag_37 rfl rfl ?_
    obtain ⟨v9, ev9, h⟩ := bind_some h
    refine R_aL DX4_moveTag_38 ev9 ?_
    refine R_lload DX4_moveTag_39 0 rfl ?_
    refine R_lor DX4_moveTag_41 ?_
    obtain ⟨s10, es10, h⟩ := bind_some h
    refine R_sL DX4_moveTag_42 es10 ?_
    cases h
    exact R_return rfl DX4_moveTag_43
set_option maxRecDepth 8000 in
theorem tX4_markDoors_l5 {G : Gm} {x0 : Nat} {x1 : Int32} {o : Option Value × Hp} {a : Int64 × Int32 × Hp} {w : (Int64 × Int32 × Hp) ⊕ ((Int64 × Hp))} (h : fX4_markDoors_l5 x0 x1 a = some w) (hc : ∀ (q2 : Int64) (q4 : Int32) (qs : Hp), w = .inl (q2, q4, qs) → R G MX4_markDoors 5 [(0, .ref x0), (1, .int x1), (2, .long q2), (4, .int q4)] [] qs o) (he0 : ∀ (q2 : Int64) (qs : Hp), w = .inr (q2, qs) → R G MX4_markDoors 32 [(0, .ref x0), (1, .int x1), (2, .long q2)] [] qs o) : R G MX4_markDoors 5 [(0, .ref x0), (1, .int x1), (2, .long a.1), (4, .int a.2.1)] [] a.2.2 o := by
  unfold fX4_markDoors_l5 at h
  refine R_iload DX4_markDoors_5 3 rfl ?_
  refine R_aload DX4_markDoors_7 0 rfl ?_
  obtain ⟨v1, ev1, h⟩ := bind_some h
  refine R_gI DX4_markDoors_8 fl_RX4_136 ev1 ?_
  by_cases c2 : v1 ≤ a.2.1
  · replace h := if_t h c2
    refine R_icmp_ge_t DX4_markDoors_11 c2 ?_
    refine R.sub (L' := [(0, .ref x0), (1, .int x1), (2, .long a.1)]) [0, 1, 2] rfl ?_
    cases h
    exact he0 _ _ rfl
  · replace h := if_f h c2
    refine R_icmp_ge_f DX4_markDoors_11 c2 ?_
    refine R_lload DX4_markDoors_14 2 rfl ?_
    refine R_aload DX4_markDoors_15 0 rfl ?_
    obtain ⟨v3, ev3, h⟩ := bind_some h
    refine R_gR DX4_markDoors_16 fl_RX4_11 ev3 ?_
    refine R_iload DX4_markDoors_19 1 rfl ?_
    refine R_iload DX4_markDoors_20 3 rfl ?_
    refine R_iadd DX4_markDoors_22 ?_
    obtain ⟨v4, ev4, h⟩ := bind_some h
    refine R_aL DX4_markDoors_23 ev4 ?_
    refine R_lor DX4_markDoors_24 ?_
    obtain ⟨z5, ez5, h⟩ := lt_some h
    refine R_lstoreE ez5 [(2, .long z5), (0, .ref x0), (1, .int x1), (4, .int a.2.1)] DX4_markDoors_25 (by decide) rfl ?_
    refine R_iinc [(4, .int (a.2.1 + iI 1)), (2, .long z5), (0, .ref x0), (1, .int x1)] DX4_markDoors_26 3 rfl (v := a.2.1 + iI 1) (by rfl) (by decide) rfl ?_
    refine R_goto DX4_markDoors_29 ?_
    refine R.sub (L' := [(0, .ref x0), (1, .int x1), (2, .long z5), (4, .int (a.2.1 + iI 1))]) [2, 3, 1, 0] rfl ?_
    cases h
    exact hc _ _ _ rfl
set_option maxRecDepth 8000 in
theorem tX4_markDoors_b125 {G : Gm} {x0 : Nat} {x1 : Int32} {x2 : Int64} {x4 : Int32} {x5 : Int64} {x7 : Int32} {s : Hp} {o : Option Value × Hp} {w : (Int32 × Hp) ⊕ ((Hp))} (h : fX4_markDoors_b125 x0 x1 x2 x4 x5 x7 s = some w) (hc : ∀ (q7 : Int32) (qs : Hp), w = .inl (q7, qs) → R G MX4_markDoors 78 [(0, .ref x0), (1, .int x1), (2, .long x2), (4, .int x4), (5, .long x5), (7, .int q7)] [] qs o) (he0 : ∀ (qs : Hp), w = .inr qs → R G MX4_markDoors 131 [(0, .ref x0), (1, .int x1), (2, .long x2), (4, .int x4)] [] qs o) : R G MX4_markDoors 125 [(0, .ref x0), (1, .int x1), (2, .long x2), (4, .int x4), (5, .long x5), (7, .int x7)] [] s o := by
  unfold fX4_markDoors_b125 at h
  refine R_iinc [(7, .int (x7 + iI 1)), (0, .ref x0), (1, .int x1), (2, .long x2), (4, .int x4), (5, .long x5)] DX4_markDoors_125 5 rfl (v := x7 + iI 1) (by rfl) (by decide) rfl ?_
  refine R_goto DX4_markDoors_128 ?_
  refine R.sub (L' := [(0, .ref x0), (1, .int x1), (2, .long x2), (4, .int x4), (5, .long x5), (7, .int (x7 + iI 1))]) [1, 2, 3, 4, 5, 0] rfl ?_
  cases h
  exact hc _ _ rfl
set_option maxRecDepth 8000 in
theorem tX4_markDoors_l78 {G : Gm} {x0 : Nat} {x1 : Int32} {x2 : Int64} {x4 : Int32} {x5 : Int64} {o : Option Value × Hp} {a : Int32 × Hp} {w : (Int32 × Hp) ⊕ ((Hp))} (h : fX4_markDoors_l78 x0 x1 x2 x4 x5 a = some w) (hc : ∀ (q7 : Int32) (qs : Hp), w = .inl (q7, qs) → R G MX4_markDoors 78 [(0, .ref x0), (1, .int x1), (2, .long x2), (4, .int x4), (5, .long x5), (7, .int q7)] [] qs o) (he0 : ∀ (qs : Hp), w = .inr qs → R G MX4_markDoors 131 [(0, .ref x0), (1, .int x1), (2, .long x2), (4, .int x4)] [] qs o) : R G MX4_markDoors 78 [(0, .ref x0), (1, .int x1), (2, .long x2), (4, .int x4), (5, .long x5), (7, .int a.1)] [] a.2 o := by
  unfold fX4_markDoors_l78 at h
  refine R_iload DX4_markDoors_78 5 rfl ?_
  refine R_aload DX4_markDoors_80 0 rfl ?_
  obtain ⟨v16, ev16, h⟩ := bind_some h
  refine R_gI DX4_markDoors_81 fl_RX4_136 ev16 ?_
  by_cases c17 : v16 ≤ a.1
  · replace h := if_t h c17
    refine R_icmp_ge_t DX4_markDoors_84 c17 ?_
    refine R.sub (L' := [(0, .ref x0), (1, .int x1), (2, .long x2), (4, .int x4)]) [0, 1, 2, 3] rfl ?_
    cases h
    exact he0 _ rfl
  · replace h := if_f h c17
    refine R_icmp_ge_f DX4_markDoors_84 c17 ?_
    refine R_lload DX4_markDoors_87 2 rfl ?_
    refine R_lload DX4_markDoors_88 4 rfl ?_
    refine R_land DX4_markDoors_90 ?_
    refine R_lconst DX4_markDoors_91 ?_
    refine R_lcmp DX4_markDoors_92 ?_
    by_cases c18 : (lg_cmp (x2 &&& x5) 0) = 0
    · replace h := if_t h c18
      refine R_if_eq_t DX4_markDoors_93 c18 ?_
      refine R.sub (L' := [(0, .ref x0), (1, .int x1), (2, .long x2), (4, .int x4)]) [0, 1, 2, 3] rfl ?_
      cases h
      exact he0 _ rfl
    · replace h := if_f h c18
      refine R_if_eq_f DX4_markDoors_93 c18 ?_
      refine R_iload DX4_markDoors_96 5 rfl ?_
      refine R_iload DX4_markDoors_98 3 rfl ?_
      refine R_ishr DX4_markDoors_100 ?_
      refine R_constI DX4_markDoors_101 ci_1 ?_
      refine R_iand DX4_markDoors_102 ?_
      by_cases c19 : ((isr a.1 x4) &&& (iI 1)) = 0
      · replace h := if_t h c19
        refine R_if_ne_f DX4_markDoors_103 c19 ?_
        refine R_aload DX4_markDoors_106 0 rfl ?_
        refine R_iload DX4_markDoors_107 1 rfl ?_
        refine R_iload DX4_markDoors_108 5 rfl ?_
        refine R_iadd DX4_markDoors_110 ?_
        refine R_iload DX4_markDoors_111 1 rfl ?_
        refine R_iload DX4_markDoors_112 5 rfl ?_
        refine R_constI DX4_markDoors_114 ci_1 ?_
        refine R_iload DX4_markDoors_115 3 rfl ?_
        refine R_ishl DX4_markDoors_117 ?_
        refine R_ior DX4_markDoors_118 ?_
        refine R_iadd DX4_markDoors_119 ?_
        refine R_lload DX4_markDoors_120 4 rfl ?_
        obtain ⟨s20, es20, h⟩ := bind_some h
        refine R_cV0 [.int (x1 + a.1), .int (x1 + (a.1 ||| (ish (iI 1) x4))), .long x5] DX4_markDoors_122 kzvX4_moveTag ml_RX4_217 ⟨Nat.le_of_ble_eq_true rfl, Nat.le_of_ble_eq_true rfl⟩ rfl (Nat.le_of_ble_eq_true rfl) (kX4_moveTag es20) ?_
        exact tX4_markDoors_b125 h hc he0
      · replace h := if_f h c19
        refine R_if_ne_t DX4_markDoors_103 c19 ?_
        exact tX4_markDoors_b125 h hc he0
set_option maxRecDepth 8000 in
theorem tX4_markDoors_b131 {G : Gm} {x0 : Nat} {x1 : Int32} {x2 : Int64} {x4 : Int32} {s : Hp} {o : Option Value × Hp} {w : (Int32 × Hp) ⊕ ((Hp))} (h : fX4_markDoors_b131 x0 x1 x2 x4 s = some w) (hc : ∀ (q4 : Int32) (qs : Hp), w = .inl (q4, qs) → R G MX4_markDoors 35 [(0, .ref x0), (1, .int x1), (2, .long x2), (4, .int q4)] [] qs o) (he0 : ∀ (qs : Hp), w = .inr qs → R G MX4_markDoors 137 [] [] qs o) : R G MX4_markDoors 131 [(0, .ref x0), (1, .int x1), (2, .long x2), (4, .int x4)] [] s o := by
  unfold fX4_markDoors_b131 at h
  refine R_iinc [(4, .int (x4 + iI 1)), (0, .ref x0), (1, .int x1), (2, .long x2)] DX4_markDoors_131 3 rfl (v := x4 + iI 1) (by rfl) (by decide) rfl ?_
  refine R_goto DX4_markDoors_134 ?_
  refine R.sub (L' := [(0, .ref x0), (1, .int x1), (2, .long x2), (4, .int (x4 + iI 1))]) [1, 2, 3, 0] rfl ?_
  cases h
  exact hc _ _ rfl
set_option maxRecDepth 8000 in
theorem tX4_markDoors_l35 {G : Gm} {x0 : Nat} {x1 : Int32} {x2 : Int64} {o : Option Value × Hp} {a : Int32 × Hp} {w : (Int32 × Hp) ⊕ ((Hp))} (h : fX4_markDoors_l35 x0 x1 x2 a = some w) (hc : ∀ (q4 : Int32) (qs : Hp), w = .inl (q4, qs) → R G MX4_markDoors 35 [(0, .ref x0), (1, .int x1), (2, .long x2), (4, .int q4)] [] qs o) (he0 : ∀ (qs : Hp), w = .inr qs → R G MX4_markDoors 137 [] [] qs o) : R G MX4_markDoors 35 [(0, .ref x0), (1, .int x1), (2, .long x2), (4, .int a.1)] [] a.2 o := by
  unfold fX4_markDoors_l35 at h
  refine R_iload DX4_markDoors_35 3 rfl ?_
  refine R_aload DX4_markDoors_37 0 rfl ?_
  obtain ⟨v7, ev7, h⟩ := bind_some h
  refine R_gR DX4_markDoors_38 fl_RX4_120 ev7 ?_
  obtain ⟨v8, ev8, h⟩ := bind_some h
  refine R_gI DX4_markDoors_41 fl_RX4_66 ev8 ?_
  by_cases c9 : v8 ≤ a.1
  · replace h := if_t h c9
    refine R_icmp_ge_t DX4_markDoors_44 c9 ?_
    refine R.sub (L' := []) [] rfl ?_
    cases h
    exact he0 _ rfl
  · replace h := if_f h c9
    refine R_icmp_ge_f DX4_markDoors_44 c9 ?_
    refine R_aload DX4_markDoors_47 0 rfl ?_
    obtain ⟨v10, ev10, h⟩ := bind_some h
    refine R_gR DX4_markDoors_48 fl_RX4_120 ev10 ?_
    refine R_iload DX4_markDoors_51 3 rfl ?_
    refine R_constI DX4_markDoors_53 ci_0 ?_
    obtain ⟨r11, er11, h⟩ := bind_some h
    refine R_cV1 [.int a.1, .int (iI 0)] DX4_markDoors_54 kzvX6_doorFact ml_RX4_211 ⟨Nat.le_of_ble_eq_true rfl, Nat.le_of_ble_eq_true rfl⟩ rfl (Nat.le_of_ble_eq_true rfl) (kX6_doorFact er11) ?_
    refine R_aload DX4_markDoors_57 0 rfl ?_
    obtain ⟨v12, ev12, h⟩ := bind_some h
    refine R_gR DX4_markDoors_58 fl_RX4_120 ev12 ?_
    refine R_iload DX4_markDoors_61 3 rfl ?_
    refine R_constI DX4_markDoors_63 ci_1 ?_
    obtain ⟨r13, er13, h⟩ := bind_some h
    refine R_cV1 [.int a.1, .int (iI 1)] DX4_markDoors_64 kzvX6_doorFact ml_RX4_211 ⟨Nat.le_of_ble_eq_true rfl, Nat.le_of_ble_eq_true rfl⟩ rfl (Nat.le_of_ble_eq_true rfl) (kX6_doorFact er13) ?_
    obtain ⟨r14, er14, h⟩ := bind_some h
    refine R_cSN1 [.int r11.1, .int r13.1] DX4_markDoors_67 kzsX8_columnOf ml_RX4_214 ⟨Nat.le_of_ble_eq_true rfl, Nat.le_of_ble_eq_true rfl⟩ rfl (Nat.le_of_ble_eq_true rfl) (kX8_columnOf er14) ?_
    obtain ⟨r15, er15, h⟩ := bind_some h
    refine R_cSN1 [.int r14.1] DX4_markDoors_70 kzsX8_bitOf ml_RX4_155 ⟨Nat.le_of_ble_eq_true rfl, Nat.le_of_ble_eq_true rfl⟩ rfl (Nat.le_of_ble_eq_true rfl) (kX8_bitOf er15) ?_
    refine R_lstore [(5, .long r15.1), (0, .ref x0), (1, .int x1), (2, .long x2), (4, .int a.1)] DX4_markDoors_73 (by decide) rfl ?_
    refine R_constI DX4_markDoors_75 ci_0 ?_
    refine R_istore [(7, .int (iI 0)), (5, .long r15.1), (0, .ref x0), (1, .int x1), (2, .long x2), (4, .int a.1)] DX4_markDoors_76 (by decide) rfl ?_
    refine R.sub (L' := [(0, .ref x0), (1, .int x1), (2, .long x2), (4, .int a.1), (5, .long r15.1), (7, .int (iI 0))]) [2, 3, 4, 5, 1, 0] rfl ?_
    obtain ⟨r21, hi, h⟩ := bind_some h
    have hE : (fun u78 : Hp => R G MX4_markDoors 131 [(0, .ref x0), (1, .int x1), (2, .long x2), (4, .int a.1)] [] u78 o) r21 → ∀ (q7 : Int32) (qs : Hp), iter (fX4_markDoors_l78 x0 x1 x2 a.1 r15.1) FU (q7, qs) = some r21 → R G MX4_markDoors 78 [(0, .ref x0), (1, .int x1), (2, .long x2), (4, .int a.1), (5, .long r15.1), (7, .int q7)] [] qs o := fun hX q7 qs hj => loop_R (fX4_markDoors_l78 x0 x1 x2 a.1 r15.1) (fun p78 : Int32 × Hp => R G MX4_markDoors 78 [(0, .ref x0), (1, .int x1), (2, .long x2), (4, .int a.1), (5, .long r15.1), (7, .int p78.1)] [] p78.2 o) (fun u78 : Hp => R G MX4_markDoors 131 [(0, .ref x0), (1, .int x1), (2, .long x2), (4, .int a.1)] [] u78 o) (fun a w hw hc he => tX4_markDoors_l78 hw (fun q7 qs e => hc (q7, qs) e) (fun qs e => he qs e)) FU (q7, qs) r21 hj hX
    refine hE ?_ _ _ hi
    clear hE hi
    exact tX4_markDoors_b131 h hc he0
set_option maxRecDepth 8000 in
theorem kX4_markDoors {G : Gm} {x0 : Nat} {x1 : Int32} {s : Hp} {w : Hp} (h : fX4_markDoors x0 x1 s = some w) : (s.2.2 x0).1 = 4 ∧ Call G MX4_markDoors [.ref x0, .int x1] s (none, w) := by
  unfold fX4_markDoors at h
  obtain ⟨_, e0, h⟩ := bind_some h
  refine ⟨ck_some e0, Call.of_R pnRX4 (Nat.le_of_ble_eq_true rfl) ?_⟩
  clear e0
  show R G MX4_markDoors 0 [(0, .ref x0), (1, .int x1)] [] s (none, w)
  refine R_lconst DX4_markDoors_0 ?_
  refine R_lstore [(2, .long 0), (0, .ref x0), (1, .int x1)] DX4_markDoors_1 (by decide) rfl ?_
  refine R_constI DX4_markDoors_2 ci_0 ?_
  refine R_istore [(4, .int (iI 0)), (2, .long 0), (0, .ref x0), (1, .int x1)] DX4_markDoors_3 (by decide) rfl ?_
  refine R.sub (L' := [(0, .ref x0), (1, .int x1), (2, .long 0), (4, .int (iI 0))]) [2, 3, 1, 0] rfl ?_
  obtain ⟨r6, hi, h⟩ := bind_some h
  have hE : (fun u5 : Int64 × Hp => R G MX4_markDoors 32 [(0, .ref x0), (1, .int x1), (2, .long u5.1)] [] u5.2 (none, w)) r6 → ∀ (q2 : Int64) (q4 : Int32) (qs : Hp), iter (fX4_markDoors_l5 x0 x1) FU (q2, q4, qs) = some r6 → R G MX4_markDoors 5 [(0, .ref x0), (1, .int x1), (2, .long q2), (4, .int q4)] [] qs (none, w) := fun hX q2 q4 qs hj => loop_R (fX4_markDoors_l5 x0 x1) (fun p5 : Int64 × Int32 × Hp => R G MX4_markDoors 5 [(0, .ref x0), (1, .int x1), (2, .long p5.1), (4, .int p5.2.1)] [] p5.2.2 (none, w)) (fun u5 : Int64 × Hp => R G MX4_markDoors 32 [(0, .ref x0), (1, .int x1), (2, .long u5.1)] [] u5.2 (none, w)) (fun a w hw hc he => tX4_markDoors_l5 hw (fun q2 q4 qs e => hc (q2, q4, qs) e) (fun q2 qs e => he (q2, qs) e)) FU (q2, q4, qs) r6 hj hX
  refine hE ?_ _ _ _ hi
  clear hE hi
  refine R_constI DX4_markDoors_32 ci_0 ?_
  refine R_istore [(4, .int (iI 0)), (0, .ref x0), (1, .int x1), (2, .long r6.1)] DX4_markDoors_33 (by decide) rfl ?_
  refine R.sub (L' := [(0, .ref x0), (1, .int x1), (2, .long r6.1), (4, .int (iI 0))]) [1, 2, 3, 0] rfl ?_
  obtain ⟨r22, hi, h⟩ := bind_some h
  have hE : (fun u35 : Hp => R G MX4_markDoors 137 [] [] u35 (none, w)) r22 → ∀ (q4 : Int32) (qs : Hp), iter (fX4_markDoors_l35 x0 x1 r6.1) FU (q4, qs) = some r22 → R G MX4_markDoors 35 [(0, .ref x0), (1, .int x1), (2, .long r6.1), (4, .int q4)] [] qs (none, w) := fun hX q4 qs hj => loop_R (fX4_markDoors_l35 x0 x1 r6.1) (fun p35 : Int32 × Hp => R G MX4_markDoors 35 [(0, .ref x0), (1, .int x1), (2, .long r6.1), (4, .int p35.1)] [] p35.2 (none, w)) (fun u35 : Hp => R G MX4_markDoors 137 [] [] u35 (none, w)) (fun a w hw hc he => tX4_markDoors_l35 hw (fun q4 qs e => hc (q4, qs) e) (fun qs e => he qs e)) FU (q4, qs) r22 hj hX
  refine hE ?_ _ _ hi
  clear hE hi
  cases h
  exact R_return rfl DX4_markDoors_137
set_option maxRecDepth 8000 in
theorem tX4_noteTours_b54 {G : Gm} {x0 : Nat} {x1 : Int32} {x3 : Int32} {x4 : Int32} {x5 : Int32} {s : Hp} {o : Option Value × Hp} {w : (Int32 × Hp) ⊕ ((Hp))} (h : fX4_noteTours_b54 x0 x1 x3 x4 x5 s = some w) (hc : ∀ (q5 : Int32) (qs : Hp), w = .inl (q5, qs) → R G MX4_noteTours 19 [(0, .ref x0), (1, .int x1), (3, .int x3), (4, .int x4), (5, .int q5)] [] qs o) (he0 : ∀ (qs : Hp), w = .inr qs → R G MX4_noteTours 60 [] [] qs o) : R G MX4_noteTours 54 [(0, .ref x0), (1, .int x1), (3, .int x3), (4, .int x4), (5, .int x5)] [] s o := by
  unfold fX4_noteTours_b54 at h
  refine R_iinc [(5, .int (x5 + iI 1)), (0, .ref x0), (1, .int x1), (3, .int x3), (4, .int x4)] DX4_noteTours_54 4 rfl (v := x5 + iI 1) (by rfl) (by decide) rfl ?_
  refine R_goto DX4_noteTours_57 ?_
  refine R.sub (L' := [(0, .ref x0), (1, .int x1), (3, .int x3), (4, .int x4), (5, .int (x5 + iI 1))]) [1, 2, 3, 4, 0] rfl ?_
  cases h
  exact hc _ _ rfl
set_option maxRecDepth 8000 in
theorem tX4_noteTours_l19 {G : Gm} {x0 : Nat} {x1 : Int32} {x3 : Int32} {x4 : Int32} {o : Option Value × Hp} {a : Int32 × Hp} {w : (Int32 × Hp) ⊕ ((Hp))} (h : fX4_noteTours_l19 x0 x1 x3 x4 a = some w) (hc : ∀ (q5 : Int32) (qs : Hp), w = .inl (q5, qs) → R G MX4_noteTours 19 [(0, .ref x0), (1, .int x1), (3, .int x3), (4, .int x4), (5, .int q5)] [] qs o) (he0 : ∀ (qs : Hp), w = .inr qs → R G MX4_noteTours 60 [] [] qs o) : R G MX4_noteTours 19 [(0, .ref x0), (1, .int x1), (3, .int x3), (4, .int x4), (5, .int a.1)] [] a.2 o := by
  unfold fX4_noteTours_l19 at h
  refine R_iload DX4_noteTours_19 4 rfl ?_
  refine R_aload DX4_noteTours_21 0 rfl ?_
  obtain ⟨v4, ev4, h⟩ := bind_some h
  refine R_gI DX4_noteTours_22 fl_RX4_136 ev4 ?_
  by_cases c5 : v4 ≤ a.1
  · replace h := if_t h c5
    refine R_icmp_ge_t DX4_noteTours_25 c5 ?_
    refine R.sub (L' := []) [] rfl ?_
    cases h
    exact he0 _ rfl
  · replace h := if_f h c5
    refine R_icmp_ge_f DX4_noteTours_25 c5 ?_
    refine R_aload DX4_noteTours_28 0 rfl ?_
    obtain ⟨v6, ev6, h⟩ := bind_some h
    refine R_gR DX4_noteTours_29 fl_RX4_11 ev6 ?_
    refine R_iload DX4_noteTours_32 2 rfl ?_
    refine R_iload DX4_noteTours_33 4 rfl ?_
    refine R_iadd DX4_noteTours_35 ?_
    obtain ⟨v7, ev7, h⟩ := bind_some h
    refine R_aL DX4_noteTours_36 ev7 ?_
    refine R_lconst DX4_noteTours_37 ?_
    refine R_lcmp DX4_noteTours_38 ?_
    by_cases c8 : (lg_cmp v7 0) = 0
    · replace h := if_t h c8
      refine R_if_eq_t DX4_noteTours_39 c8 ?_
      exact tX4_noteTours_b54 h hc he0
    · replace h := if_f h c8
      refine R_if_eq_f DX4_noteTours_39 c8 ?_
      refine R_aload DX4_noteTours_42 0 rfl ?_
      obtain ⟨v9, ev9, h⟩ := bind_some h
      refine R_gR DX4_noteTours_43 fl_RX4_36 ev9 ?_
      refine R_iload DX4_noteTours_46 4 rfl ?_
      refine R_iload DX4_noteTours_48 1 rfl ?_
      refine R_iload DX4_noteTours_49 3 rfl ?_
      obtain ⟨s10, es10, h⟩ := bind_some h
      refine R_cV0 [.int a.1, .int x1, .int x4] DX4_noteTours_51 kzvX2_addTour ml_RX4_208 ⟨Nat.le_of_ble_eq_true rfl, Nat.le_of_ble_eq_true rfl⟩ rfl (Nat.le_of_ble_eq_true rfl) (kX2_addTour es10) ?_
      exact tX4_noteTours_b54 h hc he0
set_option maxRecDepth 8000 in
theorem tX4_noteTours_b16 {G : Gm} {x0 : Nat} {x1 : Int32} {x3 : Int32} {x4 : Int32} {s : Hp} {w : Hp} (h : fX4_noteTours_b16 x0 x1 x3 x4 s = some w) : R G MX4_noteTours 16 [(0, .ref x0), (1, .int x1), (3, .int x3), (4, .int x4)] [] s (none, w) := by
  unfold fX4_noteTours_b16 at h
  refine R_constI DX4_noteTours_16 ci_0 ?_
  refine R_istore [(5, .int (iI 0)), (0, .ref x0), (1, .int x1), (3, .int x3), (4, .int x4)] DX4_noteTours_17 (by decide) rfl ?_
  refine R.sub (L' := [(0, .ref x0), (1, .int x1), (3, .int x3), (4, .int x4), (5, .int (iI 0))]) [1, 2, 3, 4, 0] rfl ?_
  obtain ⟨r11, hi, h⟩ := bind_some h
  have hE : (fun u19 : Hp => R G MX4_noteTours 60 [] [] u19 (none, w)) r11 → ∀ (q5 : Int32) (qs : Hp), iter (fX4_noteTours_l19 x0 x1 x3 x4) FU (q5, qs) = some r11 → R G MX4_noteTours 19 [(0, .ref x0), (1, .int x1), (3, .int x3), (4, .int x4), (5, .int q5)] [] qs (none, w) := fun hX q5 qs hj => loop_R (fX4_noteTours_l19 x0 x1 x3 x4) (fun p19 : Int32 × Hp => R G MX4_noteTours 19 [(0, .ref x0), (1, .int x1), (3, .int x3), (4, .int x4), (5, .int p19.1)] [] p19.2 (none, w)) (fun u19 : Hp => R G MX4_noteTours 60 [] [] u19 (none, w)) (fun a w hw hc he => tX4_noteTours_l19 hw (fun q5 qs e => hc (q5, qs) e) (fun qs e => he qs e)) FU (q5, qs) r11 hj hX
  refine hE ?_ _ _ hi
  clear hE hi
  cases h
  exact R_return rfl DX4_noteTours_60
set_option maxRecDepth 8000 in
theorem kX4_noteTours {G : Gm} {x0 : Nat} {x1 : Int32} {x2 : Int32} {x3 : Int32} {x4 : Int32} {s : Hp} {w : Hp} (h : fX4_noteTours x0 x1 x2 x3 x4 s = some w) : (s.2.2 x0).1 = 4 ∧ Call G MX4_noteTours [.ref x0, .int x1, .int x2, .int x3, .int x4] s (none, w) := by
  unfold fX4_noteTours at h
  obtain ⟨_, e0, h⟩ := bind_some h
  refine ⟨ck_some e0, Call.of_R pnRX4 (Nat.le_of_ble_eq_true rfl) ?_⟩
  clear e0
  show R G MX4_noteTours 0 [(0, .ref x0), (1, .int x1), (2, .int x2), (3, .int x3), (4, .int x4)] [] s (none, w)
  refine R_iload DX4_noteTours_0 2 rfl ?_
  refine R_aload DX4_noteTours_1 0 rfl ?_
  obtain ⟨v1, ev1, h⟩ := bind_some h
  refine R_gR DX4_noteTours_2 fl_RX4_120 ev1 ?_
  obtain ⟨v2, ev2, h⟩ := bind_some h
  refine R_gI DX4_noteTours_5 fl_RX4_203 ev2 ?_
  by_cases c3 : v2 < x2
  · replace h := if_t h c3
    refine R_icmp_gt_t DX4_noteTours_8 c3 ?_
    refine R.sub (L' := [(0, .ref x0), (1, .int x1), (3, .int x3), (4, .int x4)]) [0, 1, 3, 4] rfl ?_
    exact tX4_noteTours_b16 h
  · replace h := if_f h c3
    refine R_icmp_gt_f DX4_noteTours_8 c3 ?_
    refine R_aload DX4_noteTours_11 0 rfl ?_
    refine R_iload DX4_noteTours_12 3 rfl ?_
    obtain ⟨s12, es12, h⟩ := bind_some h
    refine R_cV0 [.int x3] DX4_noteTours_13 kzvX4_markDoors ml_RX4_205 ⟨Nat.le_of_ble_eq_true rfl, Nat.le_of_ble_eq_true rfl⟩ rfl (Nat.le_of_ble_eq_true rfl) (kX4_markDoors es12) ?_
    refine R.sub (L' := [(0, .ref x0), (1, .int x1), (3, .int x3), (4, .int x4)]) [0, 1, 3, 4] rfl ?_
    exact tX4_noteTours_b16 h
set_option maxRecDepth 8000 in
theorem tX4_countHour_l8 {G : Gm} {x0 : Nat} {x1 : Int32} {x2 : Int64} {o : Option Value × Hp} {a : Int32 × Hp} {w : (Int32 × Hp) ⊕ ((Hp))} (h : fX4_countHour_l8 x0 x1 x2 a = some w) (hc : ∀ (q4 : Int32) (qs : Hp), w = .inl (q4, qs) → R G MX4_countHour 8 [(0, .ref x0), (1, .int x1), (2, .long x2), (4, .int q4)] [] qs o) (he0 : ∀ (qs : Hp), w = .inr qs → R G MX4_countHour 34 [] [] qs o) : R G MX4_countHour 8 [(0, .ref x0), (1, .int x1), (2, .long x2), (4, .int a.1)] [] a.2 o := by
  unfold fX4_countHour_l8 at h
  refine R_iload DX4_countHour_8 3 rfl ?_
  by_cases c3 : a.1 < 0
  · replace h := if_t h c3
    refine R_if_lt_t DX4_countHour_10 c3 ?_
    refine R.sub (L' := []) [] rfl ?_
    cases h
    exact he0 _ rfl
  · replace h := if_f h c3
    refine R_if_lt_f DX4_countHour_10 c3 ?_
    refine R_aload DX4_countHour_13 0 rfl ?_
    refine R_iload DX4_countHour_14 1 rfl ?_
    refine R_iload DX4_countHour_15 3 rfl ?_
    refine R_iadd DX4_countHour_17 ?_
    refine R_iload DX4_countHour_18 1 rfl ?_
    refine R_iload DX4_countHour_19 3 rfl ?_
    refine R_iadd DX4_countHour_21 ?_
    refine R_constI DX4_countHour_22 ci_1 ?_
    refine R_iadd DX4_countHour_23 ?_
    refine R_lload DX4_countHour_24 2 rfl ?_
    obtain ⟨s4, es4, h⟩ := bind_some h
    refine R_cV0 [.int (x1 + a.1), .int ((x1 + a.1) + (iI 1)), .long x2] DX4_countHour_25 kzvX4_moveTag ml_RX4_217 ⟨Nat.le_of_ble_eq_true rfl, Nat.le_of_ble_eq_true rfl⟩ rfl (Nat.le_of_ble_eq_true rfl) (kX4_moveTag es4) ?_
    refine R_iinc [(4, .int (a.1 + iI (-1))), (0, .ref x0), (1, .int x1), (2, .long x2)] DX4_countHour_28 3 rfl (v := a.1 + iI (-1)) (by rfl) (by decide) rfl ?_
    refine R_goto DX4_countHour_31 ?_
    refine R.sub (L' := [(0, .ref x0), (1, .int x1), (2, .long x2), (4, .int (a.1 + iI (-1)))]) [1, 2, 3, 0] rfl ?_
    cases h
    exact hc _ _ rfl
set_option maxRecDepth 8000 in
theorem kX4_countHour {G : Gm} {x0 : Nat} {x1 : Int32} {x2 : Int64} {s : Hp} {w : Hp} (h : fX4_countHour x0 x1 x2 s = some w) : (s.2.2 x0).1 = 4 ∧ Call G MX4_countHour [.ref x0, .int x1, .long x2] s (none, w) := by
  unfold fX4_countHour at h
  obtain ⟨_, e0, h⟩ := bind_some h
  refine ⟨ck_some e0, Call.of_R pnRX4 (Nat.le_of_ble_eq_true rfl) ?_⟩
  clear e0
  show R G MX4_countHour 0 [(0, .ref x0), (1, .int x1), (2, .long x2)] [] s (none, w)
  refine R_aload DX4_countHour_0 0 rfl ?_
  obtain ⟨v1, ev1, h⟩ := bind_some h
  refine R_gI DX4_countHour_1 fl_RX4_136 ev1 ?_
  refine R_constI DX4_countHour_4 ci_2 ?_
  refine R_isub DX4_countHour_5 ?_
  obtain ⟨z2, ez2, h⟩ := lt_some h
  refine R_istoreE ez2 [(4, .int z2), (0, .ref x0), (1, .int x1), (2, .long x2)] DX4_countHour_6 (by decide) rfl ?_
  refine R.sub (L' := [(0, .ref x0), (1, .int x1), (2, .long x2), (4, .int z2)]) [1, 2, 3, 0] rfl ?_
  obtain ⟨r5, hi, h⟩ := bind_some h
  have hE : (fun u8 : Hp => R G MX4_countHour 34 [] [] u8 (none, w)) r5 → ∀ (q4 : Int32) (qs : Hp), iter (fX4_countHour_l8 x0 x1 x2) FU (q4, qs) = some r5 → R G MX4_countHour 8 [(0, .ref x0), (1, .int x1), (2, .long x2), (4, .int q4)] [] qs (none, w) := fun hX q4 qs hj => loop_R (fX4_countHour_l8 x0 x1 x2) (fun p8 : Int32 × Hp => R G MX4_countHour 8 [(0, .ref x0), (1, .int x1), (2, .long x2), (4, .int p8.1)] [] p8.2 (none, w)) (fun u8 : Hp => R G MX4_countHour 34 [] [] u8 (none, w)) (fun a w hw hc he => tX4_countHour_l8 hw (fun q4 qs e => hc (q4, qs) e) (fun qs e => he qs e)) FU (q4, qs) r5 hj hX
  refine hE ?_ _ _ hi
  clear hE hi
  cases h
  exact R_return rfl DX4_countHour_34
set_option maxRecDepth 8000 in
theorem tX4_note_b97 {G : Gm} {x0 : Nat} {x3 : Int32} {x5 : Int32} {s : Hp} {w : Hp} (h : fX4_note_b97 x0 x3 x5 s = some w) : R G MX4_note 97 [(0, .ref x0), (3, .int x3), (5, .int x5)] [] s (none, w) := by
  unfold fX4_note_b97 at h
  refine R_aload DX4_note_97 0 rfl ?_
  obtain ⟨v8, ev8, h⟩ := bind_some h
  refine R_gI DX4_note_98 fl_RX4_124 ev8 ?_
  refine R_constI DX4_note_101 ci_3 ?_
  by_cases c9 : v8 = (iI 3)
  · replace h := if_t h c9
    refine R_icmp_ne_f DX4_note_102 c9 ?_
    refine R_iload DX4_note_105 1 rfl ?_
    by_cases c10 : x3 ≤ 0
    · replace h := if_t h c10
      refine R_if_le_t DX4_note_106 c10 ?_
      cases h
      exact R_return rfl DX4_note_118
    · replace h := if_f h c10
      refine R_if_le_f DX4_note_106 c10 ?_
      refine R_aload DX4_note_109 0 rfl ?_
      refine R_iload DX4_note_110 2 rfl ?_
      refine R_ldc2 DX4_note_112 cw_RX4_201 ?_
      obtain ⟨s11, es11, h⟩ := bind_some h
      refine R_cV0 [.int x5, .long (-1)] DX4_note_115 kzvX4_countHour ml_RX4_197 ⟨Nat.le_of_ble_eq_true rfl, Nat.le_of_ble_eq_true rfl⟩ rfl (Nat.le_of_ble_eq_true rfl) (kX4_countHour es11) ?_
      cases h
      exact R_return rfl DX4_note_118
  · replace h := if_f h c9
    refine R_icmp_ne_t DX4_note_102 c9 ?_
    cases h
    exact R_return rfl DX4_note_118
set_option maxRecDepth 8000 in
theorem kX4_note {G : Gm} {x0 : Nat} {x1 : Int32} {x2 : Int32} {x3 : Int32} {x4 : Int32} {s : Hp} {w : Hp} (h : fX4_note x0 x1 x2 x3 x4 s = some w) : (s.2.2 x0).1 = 4 ∧ Call G MX4_note [.ref x0, .int x1, .int x2, .int x3, .int x4] s (none, w) := by
  unfold fX4_note at h
  obtain ⟨_, e0, h⟩ := bind_some h
  refine ⟨ck_some e0, Call.of_R pnRX4 (Nat.le_of_ble_eq_true rfl) ?_⟩
  clear e0
  show R G MX4_note 0 [(0, .ref x0), (1, .int x1), (2, .int x2), (3, .int x3), (4, .int x4)] [] s (none, w)
  refine R_aload DX4_note_0 0 rfl ?_
  refine R_iload DX4_note_1 1 rfl ?_
  refine R_iload DX4_note_2 2 rfl ?_
  refine R_iload DX4_note_3 3 rfl ?_
  obtain ⟨r1, er1, h⟩ := bind_some h
  refine R_cV1 [.int x1, .int x2, .int x3] DX4_note_4 kzvX4_placeOf ml_RX4_72 ⟨Nat.le_of_ble_eq_true rfl, Nat.le_of_ble_eq_true rfl⟩ rfl (Nat.le_of_ble_eq_true rfl) (kX4_placeOf er1) ?_
  refine R_istore [(5, .int r1.1), (0, .ref x0), (1, .int x1), (2, .int x2), (3, .int x3), (4, .int x4)] DX4_note_7 (by decide) rfl ?_
  refine R_aload DX4_note_9 1 rfl ?_
  obtain ⟨v2, ev2, h⟩ := bind_some h
  refine R_gI DX4_note_10 fl_RX4_124 ev2 ?_
  by_cases c3 : v2 = 0
  · replace h := if_t h c3
    refine R_if_ne_f DX4_note_13 c3 ?_
    refine R_aload DX4_note_16 1 rfl ?_
    obtain ⟨v20, ev20, h⟩ := bind_some h
    refine R_gR DX4_note_17 fl_RX4_36 ev20 ?_
    refine R_iload DX4_note_20 5 rfl ?_
    refine R_iload DX4_note_22 4 rfl ?_
    refine R_iload DX4_note_23 2 rfl ?_
    refine R_aload DX4_note_24 1 rfl ?_
    obtain ⟨v21, ev21, h⟩ := bind_some h
    refine R_gR DX4_note_25 fl_RX4_11 ev21 ?_
    refine R_iload DX4_note_28 0 rfl ?_
    obtain ⟨v22, ev22, h⟩ := bind_some h
    refine R_aL DX4_note_30 ev22 ?_
    obtain ⟨s23, es23, h⟩ := bind_some h
    refine R_cV0 [.int x4, .int x3, .int x1, .long v22] DX4_note_31 kzvX2_addCells ml_RX4_190 ⟨Nat.le_of_ble_eq_true rfl, Nat.le_of_ble_eq_true rfl⟩ rfl (Nat.le_of_ble_eq_true rfl) (kX2_addCells es23) ?_
    refine R_goto DX4_note_34 ?_
    cases h
    exact R_return rfl DX4_note_118
  · replace h := if_f h c3
    refine R_if_ne_t DX4_note_13 c3 ?_
    refine R_aload DX4_note_37 1 rfl ?_
    obtain ⟨v4, ev4, h⟩ := bind_some h
    refine R_gI DX4_note_38 fl_RX4_124 ev4 ?_
    refine R_constI DX4_note_41 ci_1 ?_
    by_cases c5 : v4 = (iI 1)
    · replace h := if_t h c5
      refine R_icmp_ne_f DX4_note_42 c5 ?_
      refine R_aload DX4_note_45 1 rfl ?_
      refine R_iload DX4_note_46 2 rfl ?_
      refine R_iload DX4_note_47 4 rfl ?_
      refine R_iload DX4_note_48 0 rfl ?_
      refine R_iload DX4_note_50 5 rfl ?_
      obtain ⟨s19, es19, h⟩ := bind_some h
      refine R_cV0 [.int x1, .int x3, .int r1.1, .int x4] DX4_note_52 kzvX4_noteTours ml_RX4_76 ⟨Nat.le_of_ble_eq_true rfl, Nat.le_of_ble_eq_true rfl⟩ rfl (Nat.le_of_ble_eq_true rfl) (kX4_noteTours es19) ?_
      refine R_goto DX4_note_55 ?_
      cases h
      exact R_return rfl DX4_note_118
    · replace h := if_f h c5
      refine R_icmp_ne_t DX4_note_42 c5 ?_
      refine R_aload DX4_note_58 1 rfl ?_
      obtain ⟨v6, ev6, h⟩ := bind_some h
      refine R_gI DX4_note_59 fl_RX4_124 ev6 ?_
      refine R_constI DX4_note_62 ci_2 ?_
      by_cases c7 : v6 = (iI 2)
      · replace h := if_t h c7
        refine R_icmp_ne_f DX4_note_63 c7 ?_
        refine R_iload DX4_note_66 5 rfl ?_
        refine R_aload DX4_note_68 1 rfl ?_
        obtain ⟨v12, ev12, h⟩ := bind_some h
        refine R_gR DX4_note_69 fl_RX4_120 ev12 ?_
        obtain ⟨v13, ev13, h⟩ := bind_some h
        refine R_gI DX4_note_72 fl_RX4_86 ev13 ?_
        by_cases c14 : x4 < v13
        · replace h := if_t h c14
          refine R_icmp_lt_t DX4_note_75 c14 ?_
          refine R.sub (L' := [(0, .ref x0), (3, .int x3), (5, .int r1.1)]) [1, 4, 0] rfl ?_
          exact tX4_note_b97 h
        · replace h := if_f h c14
          refine R_icmp_lt_f DX4_note_75 c14 ?_
          refine R_aload DX4_note_78 1 rfl ?_
          refine R_iload DX4_note_79 0 rfl ?_
          refine R_aload DX4_note_81 1 rfl ?_
          obtain ⟨v15, ev15, h⟩ := bind_some h
          refine R_gR DX4_note_82 fl_RX4_120 ev15 ?_
          obtain ⟨v16, ev16, h⟩ := bind_some h
          refine R_gI DX4_note_85 fl_RX4_194 ev16 ?_
          obtain ⟨r17, er17, h⟩ := bind_some h
          refine R_cSN1 [.int v16] DX4_note_88 kzsX8_bitOf ml_RX4_155 ⟨Nat.le_of_ble_eq_true rfl, Nat.le_of_ble_eq_true rfl⟩ rfl (Nat.le_of_ble_eq_true rfl) (kX8_bitOf er17) ?_
          obtain ⟨s18, es18, h⟩ := bind_some h
          refine R_cV0 [.int r1.1, .long r17.1] DX4_note_91 kzvX4_countHour ml_RX4_197 ⟨Nat.le_of_ble_eq_true rfl, Nat.le_of_ble_eq_true rfl⟩ rfl (Nat.le_of_ble_eq_true rfl) (kX4_countHour es18) ?_
          refine R_goto DX4_note_94 ?_
          cases h
          exact R_return rfl DX4_note_118
      · replace h := if_f h c7
        refine R_icmp_ne_t DX4_note_63 c7 ?_
        refine R.sub (L' := [(0, .ref x0), (3, .int x3), (5, .int r1.1)]) [1, 4, 0] rfl ?_
        exact tX4_note_b97 h
set_option maxRecDepth 8000 in
theorem tX4_passHour_l57 {G : Gm} {x0 : Nat} {x1 : Int32} {x2 : Int32} {x3 : Int32} {x4 : Int32} {x5 : Int32} {o : Option Value × Hp} {a : Int32 × Hp} {w : (Int32 × Hp) ⊕ ((Hp))} (h : fX4_passHour_l57 x0 x1 x2 x3 x4 x5 a = some w) (hc : ∀ (q6 : Int32) (qs : Hp), w = .inl (q6, qs) → R G MX4_passHour 57 [(0, .ref x0), (1, .int x1), (2, .int x2), (3, .int x3), (4, .int x4), (5, .int x5), (6, .int q6)] [] qs o) (he0 : ∀ (qs : Hp), w = .inr qs → R G MX4_passHour 91 [(0, .ref x0), (1, .int x1), (2, .int x2), (3, .int x3), (4, .int x4), (5, .int x5)] [] qs o) : R G MX4_passHour 57 [(0, .ref x0), (1, .int x1), (2, .int x2), (3, .int x3), (4, .int x4), (5, .int x5), (6, .int a.1)] [] a.2 o := by
  unfold fX4_passHour_l57 at h
  refine R_iload DX4_passHour_57 6 rfl ?_
  refine R_iload DX4_passHour_59 4 rfl ?_
  by_cases c11 : x4 < a.1
  · replace h := if_t h c11
    refine R_icmp_gt_t DX4_passHour_61 c11 ?_
    refine R.sub (L' := [(0, .ref x0), (1, .int x1), (2, .int x2), (3, .int x3), (4, .int x4), (5, .int x5)]) [0, 1, 2, 3, 4, 5] rfl ?_
    cases h
    exact he0 _ rfl
  · replace h := if_f h c11
    refine R_icmp_gt_f DX4_passHour_61 c11 ?_
    refine R_iload DX4_passHour_64 6 rfl ?_
    refine R_aload DX4_passHour_66 0 rfl ?_
    obtain ⟨v12, ev12, h⟩ := bind_some h
    refine R_gR DX4_passHour_67 fl_RX4_120 ev12 ?_
    obtain ⟨v13, ev13, h⟩ := bind_some h
    refine R_gI DX4_passHour_70 fl_RX4_159 ev13 ?_
    by_cases c14 : v13 ≤ a.1
    · replace h := if_t h c14
      refine R_icmp_ge_t DX4_passHour_73 c14 ?_
      refine R.sub (L' := [(0, .ref x0), (1, .int x1), (2, .int x2), (3, .int x3), (4, .int x4), (5, .int x5)]) [0, 1, 2, 3, 4, 5] rfl ?_
      cases h
      exact he0 _ rfl
    · replace h := if_f h c14
      refine R_icmp_ge_f DX4_passHour_73 c14 ?_
      refine R_aload DX4_passHour_76 0 rfl ?_
      refine R_iload DX4_passHour_77 2 rfl ?_
      refine R_iload DX4_passHour_78 3 rfl ?_
      refine R_iload DX4_passHour_79 6 rfl ?_
      refine R_iload DX4_passHour_81 1 rfl ?_
      obtain ⟨s15, es15, h⟩ := bind_some h
      refine R_cV0 [.int x2, .int x3, .int a.1, .int x1] DX4_passHour_82 kzvX4_passLayer ml_RX4_165 ⟨Nat.le_of_ble_eq_true rfl, Nat.le_of_ble_eq_true rfl⟩ rfl (Nat.le_of_ble_eq_true rfl) (kX4_passLayer es15) ?_
      refine R_iinc [(6, .int (a.1 + iI 1)), (0, .ref x0), (1, .int x1), (2, .int x2), (3, .int x3), (4, .int x4), (5, .int x5)] DX4_passHour_85 6 rfl (v := a.1 + iI 1) (by rfl) (by decide) rfl ?_
      refine R_goto DX4_passHour_88 ?_
      refine R.sub (L' := [(0, .ref x0), (1, .int x1), (2, .int x2), (3, .int x3), (4, .int x4), (5, .int x5), (6, .int (a.1 + iI 1))]) [1, 2, 3, 4, 5, 6, 0] rfl ?_
      cases h
      exact hc _ _ rfl
set_option maxRecDepth 8000 in
theorem tX4_passHour_l122 {G : Gm} {x0 : Nat} {x1 : Int32} {x2 : Int32} {x3 : Int32} {x4 : Int32} {o : Option Value × Hp} {a : Int32 × Hp} {w : (Int32 × Hp) ⊕ ((Hp))} (h : fX4_passHour_l122 x0 x1 x2 x3 x4 a = some w) (hc : ∀ (q6 : Int32) (qs : Hp), w = .inl (q6, qs) → R G MX4_passHour 122 [(0, .ref x0), (1, .int x1), (2, .int x2), (3, .int x3), (4, .int x4), (6, .int q6)] [] qs o) (he0 : ∀ (qs : Hp), w = .inr qs → R G MX4_passHour 156 [(0, .ref x0), (1, .int x1), (2, .int x2), (3, .int x3)] [] qs o) : R G MX4_passHour 122 [(0, .ref x0), (1, .int x1), (2, .int x2), (3, .int x3), (4, .int x4), (6, .int a.1)] [] a.2 o := by
  unfold fX4_passHour_l122 at h
  refine R_iload DX4_passHour_122 5 rfl ?_
  refine R_iload DX4_passHour_124 4 rfl ?_
  by_cases c20 : x4 < a.1
  · replace h := if_t h c20
    refine R_icmp_gt_t DX4_passHour_126 c20 ?_
    refine R.sub (L' := [(0, .ref x0), (1, .int x1), (2, .int x2), (3, .int x3)]) [0, 1, 2, 3] rfl ?_
    cases h
    exact he0 _ rfl
  · replace h := if_f h c20
    refine R_icmp_gt_f DX4_passHour_126 c20 ?_
    refine R_iload DX4_passHour_129 5 rfl ?_
    refine R_aload DX4_passHour_131 0 rfl ?_
    obtain ⟨v21, ev21, h⟩ := bind_some h
    refine R_gR DX4_passHour_132 fl_RX4_120 ev21 ?_
    obtain ⟨v22, ev22, h⟩ := bind_some h
    refine R_gI DX4_passHour_135 fl_RX4_159 ev22 ?_
    by_cases c23 : v22 ≤ a.1
    · replace h := if_t h c23
      refine R_icmp_ge_t DX4_passHour_138 c23 ?_
      refine R.sub (L' := [(0, .ref x0), (1, .int x1), (2, .int x2), (3, .int x3)]) [0, 1, 2, 3] rfl ?_
      cases h
      exact he0 _ rfl
    · replace h := if_f h c23
      refine R_icmp_ge_f DX4_passHour_138 c23 ?_
      refine R_aload DX4_passHour_141 0 rfl ?_
      refine R_iload DX4_passHour_142 2 rfl ?_
      refine R_iload DX4_passHour_143 3 rfl ?_
      refine R_iload DX4_passHour_144 5 rfl ?_
      refine R_iload DX4_passHour_146 1 rfl ?_
      obtain ⟨s24, es24, h⟩ := bind_some h
      refine R_cV0 [.int x2, .int x3, .int a.1, .int x1] DX4_passHour_147 kzvX4_note ml_RX4_176 ⟨Nat.le_of_ble_eq_true rfl, Nat.le_of_ble_eq_true rfl⟩ rfl (Nat.le_of_ble_eq_true rfl) (kX4_note es24) ?_
      refine R_iinc [(6, .int (a.1 + iI 1)), (0, .ref x0), (1, .int x1), (2, .int x2), (3, .int x3), (4, .int x4)] DX4_passHour_150 5 rfl (v := a.1 + iI 1) (by rfl) (by decide) rfl ?_
      refine R_goto DX4_passHour_153 ?_
      refine R.sub (L' := [(0, .ref x0), (1, .int x1), (2, .int x2), (3, .int x3), (4, .int x4), (6, .int (a.1 + iI 1))]) [1, 2, 3, 4, 5, 0] rfl ?_
      cases h
      exact hc _ _ rfl
set_option maxRecDepth 8000 in
theorem tX4_passHour_b156 {G : Gm} {x0 : Nat} {x1 : Int32} {x2 : Int32} {x3 : Int32} {s : Hp} {o : Option Value × Hp} {w : (Int32 × Hp) ⊕ ((Hp))} (h : fX4_passHour_b156 x0 x1 x2 x3 s = some w) (hc : ∀ (q3 : Int32) (qs : Hp), w = .inl (q3, qs) → R G MX4_passHour 22 [(0, .ref x0), (1, .int x1), (2, .int x2), (3, .int q3)] [] qs o) (he0 : ∀ (qs : Hp), w = .inr qs → R G MX4_passHour 162 [(0, .ref x0), (1, .int x1), (2, .int x2)] [] qs o) : R G MX4_passHour 156 [(0, .ref x0), (1, .int x1), (2, .int x2), (3, .int x3)] [] s o := by
  unfold fX4_passHour_b156 at h
  refine R_iinc [(3, .int (x3 + iI (-1))), (0, .ref x0), (1, .int x1), (2, .int x2)] DX4_passHour_156 3 rfl (v := x3 + iI (-1)) (by rfl) (by decide) rfl ?_
  refine R_goto DX4_passHour_159 ?_
  refine R.sub (L' := [(0, .ref x0), (1, .int x1), (2, .int x2), (3, .int (x3 + iI (-1)))]) [1, 2, 3, 0] rfl ?_
  cases h
  exact hc _ _ rfl
set_option maxRecDepth 8000 in
theorem tX4_passHour_b118 {G : Gm} {x0 : Nat} {x1 : Int32} {x2 : Int32} {x3 : Int32} {x4 : Int32} {x5 : Int32} {s : Hp} {o : Option Value × Hp} {w : (Int32 × Hp) ⊕ ((Hp))} (h : fX4_passHour_b118 x0 x1 x2 x3 x4 x5 s = some w) (hc : ∀ (q3 : Int32) (qs : Hp), w = .inl (q3, qs) → R G MX4_passHour 22 [(0, .ref x0), (1, .int x1), (2, .int x2), (3, .int q3)] [] qs o) (he0 : ∀ (qs : Hp), w = .inr qs → R G MX4_passHour 162 [(0, .ref x0), (1, .int x1), (2, .int x2)] [] qs o) : R G MX4_passHour 118 [(0, .ref x0), (1, .int x1), (2, .int x2), (3, .int x3), (4, .int x4), (5, .int x5)] [] s o := by
  unfold fX4_passHour_b118 at h
  refine R_iload DX4_passHour_118 5 rfl ?_
  refine R_istore [(6, .int x5), (0, .ref x0), (1, .int x1), (2, .int x2), (3, .int x3), (4, .int x4), (5, .int x5)] DX4_passHour_120 (by decide) rfl ?_
  refine R.sub (L' := [(0, .ref x0), (1, .int x1), (2, .int x2), (3, .int x3), (4, .int x4), (6, .int x5)]) [1, 2, 3, 4, 5, 0] rfl ?_
  obtain ⟨r25, hi, h⟩ := bind_some h
  have hE : (fun u122 : Hp => R G MX4_passHour 156 [(0, .ref x0), (1, .int x1), (2, .int x2), (3, .int x3)] [] u122 o) r25 → ∀ (q6 : Int32) (qs : Hp), iter (fX4_passHour_l122 x0 x1 x2 x3 x4) FU (q6, qs) = some r25 → R G MX4_passHour 122 [(0, .ref x0), (1, .int x1), (2, .int x2), (3, .int x3), (4, .int x4), (6, .int q6)] [] qs o := fun hX q6 qs hj => loop_R (fX4_passHour_l122 x0 x1 x2 x3 x4) (fun p122 : Int32 × Hp => R G MX4_passHour 122 [(0, .ref x0), (1, .int x1), (2, .int x2), (3, .int x3), (4, .int x4), (6, .int p122.1)] [] p122.2 o) (fun u122 : Hp => R G MX4_passHour 156 [(0, .ref x0), (1, .int x1), (2, .int x2), (3, .int x3)] [] u122 o) (fun a w hw hc he => tX4_passHour_l122 hw (fun q6 qs e => hc (q6, qs) e) (fun qs e => he qs e)) FU (q6, qs) r25 hj hX
  refine hE ?_ _ _ hi
  clear hE hi
  exact tX4_passHour_b156 h hc he0
set_option maxRecDepth 8000 in
theorem tX4_passHour_b91 {G : Gm} {x0 : Nat} {x1 : Int32} {x2 : Int32} {x3 : Int32} {x4 : Int32} {x5 : Int32} {s : Hp} {o : Option Value × Hp} {w : (Int32 × Hp) ⊕ ((Hp))} (h : fX4_passHour_b91 x0 x1 x2 x3 x4 x5 s = some w) (hc : ∀ (q3 : Int32) (qs : Hp), w = .inl (q3, qs) → R G MX4_passHour 22 [(0, .ref x0), (1, .int x1), (2, .int x2), (3, .int q3)] [] qs o) (he0 : ∀ (qs : Hp), w = .inr qs → R G MX4_passHour 162 [(0, .ref x0), (1, .int x1), (2, .int x2)] [] qs o) : R G MX4_passHour 91 [(0, .ref x0), (1, .int x1), (2, .int x2), (3, .int x3), (4, .int x4), (5, .int x5)] [] s o := by
  unfold fX4_passHour_b91 at h
  refine R_aload DX4_passHour_91 0 rfl ?_
  obtain ⟨v17, ev17, h⟩ := bind_some h
  refine R_gR DX4_passHour_92 fl_RX4_120 ev17 ?_
  refine R_iload DX4_passHour_95 1 rfl ?_
  obtain ⟨r18, er18, h⟩ := bind_some h
  refine R_cV1 [.int x1] DX4_passHour_96 kzvX6_coolsIn ml_RX4_168 ⟨Nat.le_of_ble_eq_true rfl, Nat.le_of_ble_eq_true rfl⟩ rfl (Nat.le_of_ble_eq_true rfl) (kX6_coolsIn er18) ?_
  by_cases c19 : r18.1 = 0
  · replace h := if_t h c19
    refine R_if_eq_t DX4_passHour_99 c19 ?_
    exact tX4_passHour_b118 h hc he0
  · replace h := if_f h c19
    refine R_if_eq_f DX4_passHour_99 c19 ?_
    refine R_aload DX4_passHour_102 0 rfl ?_
    refine R_iload DX4_passHour_103 2 rfl ?_
    refine R_iload DX4_passHour_104 3 rfl ?_
    obtain ⟨s26, es26, h⟩ := bind_some h
    refine R_cV0 [.int x2, .int x3] DX4_passHour_105 kzvX4_sinkAll ml_RX4_172 ⟨Nat.le_of_ble_eq_true rfl, Nat.le_of_ble_eq_true rfl⟩ rfl (Nat.le_of_ble_eq_true rfl) (kX4_sinkAll es26) ?_
    refine R_constI DX4_passHour_108 ci_0 ?_
    refine R_iload DX4_passHour_109 5 rfl ?_
    refine R_constI DX4_passHour_111 ci_1 ?_
    refine R_isub DX4_passHour_112 ?_
    refine R_mmax DX4_passHour_113 mw_RX4_133 ⟨Nat.le_of_ble_eq_true rfl, Nat.le_of_ble_eq_true rfl⟩ ?_
    obtain ⟨z27, ez27, h⟩ := lt_some h
    refine R_istoreE ez27 [(5, .int z27), (0, .ref x0), (1, .int x1), (2, .int x2), (3, .int x3), (4, .int x4)] DX4_passHour_116 (by decide) rfl ?_
    refine R.sub (L' := [(0, .ref x0), (1, .int x1), (2, .int x2), (3, .int x3), (4, .int x4), (5, .int z27)]) [1, 2, 3, 4, 5, 0] rfl ?_
    exact tX4_passHour_b118 h hc he0
set_option maxRecDepth 8000 in
theorem tX4_passHour_l22 {G : Gm} {x0 : Nat} {x1 : Int32} {x2 : Int32} {o : Option Value × Hp} {a : Int32 × Hp} {w : (Int32 × Hp) ⊕ ((Hp))} (h : fX4_passHour_l22 x0 x1 x2 a = some w) (hc : ∀ (q3 : Int32) (qs : Hp), w = .inl (q3, qs) → R G MX4_passHour 22 [(0, .ref x0), (1, .int x1), (2, .int x2), (3, .int q3)] [] qs o) (he0 : ∀ (qs : Hp), w = .inr qs → R G MX4_passHour 162 [(0, .ref x0), (1, .int x1), (2, .int x2)] [] qs o) : R G MX4_passHour 22 [(0, .ref x0), (1, .int x1), (2, .int x2), (3, .int a.1)] [] a.2 o := by
  unfold fX4_passHour_l22 at h
  refine R_iload DX4_passHour_22 3 rfl ?_
  by_cases c5 : a.1 < 0
  · replace h := if_t h c5
    refine R_if_lt_t DX4_passHour_23 c5 ?_
    refine R.sub (L' := [(0, .ref x0), (1, .int x1), (2, .int x2)]) [0, 1, 2] rfl ?_
    cases h
    exact he0 _ rfl
  · replace h := if_f h c5
    refine R_if_lt_f DX4_passHour_23 c5 ?_
    refine R_aload DX4_passHour_26 0 rfl ?_
    obtain ⟨v6, ev6, h⟩ := bind_some h
    refine R_gI DX4_passHour_27 fl_RX4_69 ev6 ?_
    refine R_iload DX4_passHour_30 2 rfl ?_
    refine R_iadd DX4_passHour_31 ?_
    refine R_iload DX4_passHour_32 3 rfl ?_
    refine R_isub DX4_passHour_33 ?_
    obtain ⟨z7, ez7, h⟩ := lt_some h
    refine R_istoreE ez7 [(4, .int z7), (0, .ref x0), (1, .int x1), (2, .int x2), (3, .int a.1)] DX4_passHour_34 (by decide) rfl ?_
    refine R_constI DX4_passHour_36 ci_0 ?_
    refine R_iload DX4_passHour_37 0 rfl ?_
    refine R_aload DX4_passHour_39 1 rfl ?_
    obtain ⟨v8, ev8, h⟩ := bind_some h
    refine R_gR DX4_passHour_40 fl_RX4_120 ev8 ?_
    refine R_iload DX4_passHour_43 2 rfl ?_
    obtain ⟨r9, er9, h⟩ := bind_some h
    refine R_cV1 [.int x1] DX4_passHour_44 kzvX6_coolings ml_RX4_162 ⟨Nat.le_of_ble_eq_true rfl, Nat.le_of_ble_eq_true rfl⟩ rfl (Nat.le_of_ble_eq_true rfl) (kX6_coolings er9) ?_
    refine R_isub DX4_passHour_47 ?_
    refine R_mmax DX4_passHour_48 mw_RX4_133 ⟨Nat.le_of_ble_eq_true rfl, Nat.le_of_ble_eq_true rfl⟩ ?_
    obtain ⟨z10, ez10, h⟩ := lt_some h
    refine R_istoreE ez10 [(5, .int z10), (4, .int z7), (0, .ref x0), (1, .int x1), (2, .int x2), (3, .int a.1)] DX4_passHour_51 (by decide) rfl ?_
    refine R_iload DX4_passHour_53 0 rfl ?_
    refine R_istore [(6, .int z10), (5, .int z10), (4, .int z7), (0, .ref x0), (1, .int x1), (2, .int x2), (3, .int a.1)] DX4_passHour_55 (by decide) rfl ?_
    refine R.sub (L' := [(0, .ref x0), (1, .int x1), (2, .int x2), (3, .int a.1), (4, .int z7), (5, .int z10), (6, .int z10)]) [3, 4, 5, 6, 2, 1, 0] rfl ?_
    obtain ⟨r16, hi, h⟩ := bind_some h
    have hE : (fun u57 : Hp => R G MX4_passHour 91 [(0, .ref x0), (1, .int x1), (2, .int x2), (3, .int a.1), (4, .int z7), (5, .int z10)] [] u57 o) r16 → ∀ (q6 : Int32) (qs : Hp), iter (fX4_passHour_l57 x0 x1 x2 a.1 z7 z10) FU (q6, qs) = some r16 → R G MX4_passHour 57 [(0, .ref x0), (1, .int x1), (2, .int x2), (3, .int a.1), (4, .int z7), (5, .int z10), (6, .int q6)] [] qs o := fun hX q6 qs hj => loop_R (fX4_passHour_l57 x0 x1 x2 a.1 z7 z10) (fun p57 : Int32 × Hp => R G MX4_passHour 57 [(0, .ref x0), (1, .int x1), (2, .int x2), (3, .int a.1), (4, .int z7), (5, .int z10), (6, .int p57.1)] [] p57.2 o) (fun u57 : Hp => R G MX4_passHour 91 [(0, .ref x0), (1, .int x1), (2, .int x2), (3, .int a.1), (4, .int z7), (5, .int z10)] [] u57 o) (fun a w hw hc he => tX4_passHour_l57 hw (fun q6 qs e => hc (q6, qs) e) (fun qs e => he qs e)) FU (q6, qs) r16 hj hX
    refine hE ?_ _ _ hi
    clear hE hi
    exact tX4_passHour_b91 h hc he0
set_option maxRecDepth 8000 in
theorem tX4_passHour_l5 {G : Gm} {x0 : Nat} {x1 : Int32} {o : Option Value × Hp} {a : Int32 × Hp} {w : (Int32 × Hp) ⊕ ((Hp))} (h : fX4_passHour_l5 x0 x1 a = some w) (hc : ∀ (q2 : Int32) (qs : Hp), w = .inl (q2, qs) → R G MX4_passHour 5 [(0, .ref x0), (1, .int x1), (2, .int q2)] [] qs o) (he0 : ∀ (qs : Hp), w = .inr qs → R G MX4_passHour 168 [] [] qs o) : R G MX4_passHour 5 [(0, .ref x0), (1, .int x1), (2, .int a.1)] [] a.2 o := by
  unfold fX4_passHour_l5 at h
  refine R_iload DX4_passHour_5 2 rfl ?_
  by_cases c2 : a.1 < 0
  · replace h := if_t h c2
    refine R_if_lt_t DX4_passHour_6 c2 ?_
    refine R.sub (L' := []) [] rfl ?_
    cases h
    exact he0 _ rfl
  · replace h := if_f h c2
    refine R_if_lt_f DX4_passHour_6 c2 ?_
    refine R_aload DX4_passHour_9 0 rfl ?_
    obtain ⟨v3, ev3, h⟩ := bind_some h
    refine R_gI DX4_passHour_10 fl_RX4_145 ev3 ?_
    refine R_iload DX4_passHour_13 1 rfl ?_
    refine R_constI DX4_passHour_14 ci_1 ?_
    refine R_iadd DX4_passHour_15 ?_
    refine R_iload DX4_passHour_16 2 rfl ?_
    refine R_isub DX4_passHour_17 ?_
    refine R_mmin DX4_passHour_18 mw_RX4_127 ⟨Nat.le_of_ble_eq_true rfl, Nat.le_of_ble_eq_true rfl⟩ ?_
    obtain ⟨z4, ez4, h⟩ := lt_some h
    refine R_istoreE ez4 [(3, .int z4), (0, .ref x0), (1, .int x1), (2, .int a.1)] DX4_passHour_21 (by decide) rfl ?_
    refine R.sub (L' := [(0, .ref x0), (1, .int x1), (2, .int a.1), (3, .int z4)]) [1, 2, 3, 0] rfl ?_
    obtain ⟨r28, hi, h⟩ := bind_some h
    have hE : (fun u22 : Hp => R G MX4_passHour 162 [(0, .ref x0), (1, .int x1), (2, .int a.1)] [] u22 o) r28 → ∀ (q3 : Int32) (qs : Hp), iter (fX4_passHour_l22 x0 x1 a.1) FU (q3, qs) = some r28 → R G MX4_passHour 22 [(0, .ref x0), (1, .int x1), (2, .int a.1), (3, .int q3)] [] qs o := fun hX q3 qs hj => loop_R (fX4_passHour_l22 x0 x1 a.1) (fun p22 : Int32 × Hp => R G MX4_passHour 22 [(0, .ref x0), (1, .int x1), (2, .int a.1), (3, .int p22.1)] [] p22.2 o) (fun u22 : Hp => R G MX4_passHour 162 [(0, .ref x0), (1, .int x1), (2, .int a.1)] [] u22 o) (fun a w hw hc he => tX4_passHour_l22 hw (fun q3 qs e => hc (q3, qs) e) (fun qs e => he qs e)) FU (q3, qs) r28 hj hX
    refine hE ?_ _ _ hi
    clear hE hi
    refine R_iinc [(2, .int (a.1 + iI (-1))), (0, .ref x0), (1, .int x1)] DX4_passHour_162 2 rfl (v := a.1 + iI (-1)) (by rfl) (by decide) rfl ?_
    refine R_goto DX4_passHour_165 ?_
    refine R.sub (L' := [(0, .ref x0), (1, .int x1), (2, .int (a.1 + iI (-1)))]) [1, 2, 0] rfl ?_
    cases h
    exact hc _ _ rfl
set_option maxRecDepth 8000 in
theorem kX4_passHour {G : Gm} {x0 : Nat} {x1 : Int32} {s : Hp} {w : Hp} (h : fX4_passHour x0 x1 s = some w) : (s.2.2 x0).1 = 4 ∧ Call G MX4_passHour [.ref x0, .int x1] s (none, w) := by
  unfold fX4_passHour at h
  obtain ⟨_, e0, h⟩ := bind_some h
  refine ⟨ck_some e0, Call.of_R pnRX4 (Nat.le_of_ble_eq_true rfl) ?_⟩
  clear e0
  show R G MX4_passHour 0 [(0, .ref x0), (1, .int x1)] [] s (none, w)
  refine R_aload DX4_passHour_0 0 rfl ?_
  obtain ⟨v1, ev1, h⟩ := bind_some h
  refine R_gI DX4_passHour_1 fl_RX4_142 ev1 ?_
  refine R_istore [(2, .int v1), (0, .ref x0), (1, .int x1)] DX4_passHour_4 (by decide) rfl ?_
  refine R.sub (L' := [(0, .ref x0), (1, .int x1), (2, .int v1)]) [1, 2, 0] rfl ?_
  obtain ⟨r29, hi, h⟩ := bind_some h
  have hE : (fun u5 : Hp => R G MX4_passHour 168 [] [] u5 (none, w)) r29 → ∀ (q2 : Int32) (qs : Hp), iter (fX4_passHour_l5 x0 x1) FU (q2, qs) = some r29 → R G MX4_passHour 5 [(0, .ref x0), (1, .int x1), (2, .int q2)] [] qs (none, w) := fun hX q2 qs hj => loop_R (fX4_passHour_l5 x0 x1) (fun p5 : Int32 × Hp => R G MX4_passHour 5 [(0, .ref x0), (1, .int x1), (2, .int p5.1)] [] p5.2 (none, w)) (fun u5 : Hp => R G MX4_passHour 168 [] [] u5 (none, w)) (fun a w hw hc he => tX4_passHour_l5 hw (fun q2 qs e => hc (q2, qs) e) (fun qs e => he qs e)) FU (q2, qs) r29 hj hX
  refine hE ?_ _ _ hi
  clear hE hi
  cases h
  exact R_return rfl DX4_passHour_168
set_option maxRecDepth 8000 in
theorem tX4_cellsOf_b68 {G : Gm} {x0 : Nat} {s : Hp} {w : Nat × Hp} (h : fX4_cellsOf_b68 x0 s = some w) : R G MX4_cellsOf 68 [(0, .ref x0)] [] s (some (.ref w.1), w.2) := by
  unfold fX4_cellsOf_b68 at h
  refine R_aload DX4_cellsOf_68 0 rfl ?_
  obtain ⟨v7, ev7, h⟩ := bind_some h
  refine R_gR DX4_cellsOf_69 fl_RX4_36 ev7 ?_
  cases h
  exact R_areturn rfl DX4_cellsOf_72
set_option maxRecDepth 8000 in
theorem tX4_cellsOf_l39 {G : Gm} {x0 : Nat} {x1 : Nat} {x3 : Int32} {o : Option Value × Hp} {a : Int32 × Hp} {w : (Int32 × Hp) ⊕ ((Hp))} (h : fX4_cellsOf_l39 x0 x1 x3 a = some w) (hc : ∀ (q4 : Int32) (qs : Hp), w = .inl (q4, qs) → R G MX4_cellsOf 39 [(0, .ref x0), (1, .ref x1), (3, .int x3), (4, .int q4)] [] qs o) (he0 : ∀ (qs : Hp), w = .inr qs → R G MX4_cellsOf 60 [(0, .ref x0), (3, .int x3)] [] qs o) : R G MX4_cellsOf 39 [(0, .ref x0), (1, .ref x1), (3, .int x3), (4, .int a.1)] [] a.2 o := by
  unfold fX4_cellsOf_l39 at h
  refine R_iload DX4_cellsOf_39 3 rfl ?_
  refine R_aload DX4_cellsOf_41 1 rfl ?_
  obtain ⟨v11, ev11, h⟩ := bind_some h
  refine R_gI DX4_cellsOf_42 fl_RX4_51 ev11 ?_
  by_cases c12 : v11 ≤ a.1
  · replace h := if_t h c12
    refine R_icmp_ge_t DX4_cellsOf_45 c12 ?_
    refine R.sub (L' := [(0, .ref x0), (3, .int x3)]) [0, 2] rfl ?_
    cases h
    exact he0 _ rfl
  · replace h := if_f h c12
    refine R_icmp_ge_f DX4_cellsOf_45 c12 ?_
    refine R_aload DX4_cellsOf_48 0 rfl ?_
    refine R_iload DX4_cellsOf_49 3 rfl ?_
    obtain ⟨s13, es13, h⟩ := bind_some h
    refine R_cV0 [.int a.1] DX4_cellsOf_51 kzvX4_passHour ml_RX4_56 ⟨Nat.le_of_ble_eq_true rfl, Nat.le_of_ble_eq_true rfl⟩ rfl (Nat.le_of_ble_eq_true rfl) (kX4_passHour es13) ?_
    refine R_iinc [(4, .int (a.1 + iI 1)), (0, .ref x0), (1, .ref x1), (3, .int x3)] DX4_cellsOf_54 3 rfl (v := a.1 + iI 1) (by rfl) (by decide) rfl ?_
    refine R_goto DX4_cellsOf_57 ?_
    refine R.sub (L' := [(0, .ref x0), (1, .ref x1), (3, .int x3), (4, .int (a.1 + iI 1))]) [1, 2, 3, 0] rfl ?_
    cases h
    exact hc _ _ rfl
set_option maxRecDepth 8000 in
theorem kX4_cellsOf {G : Gm} {x0 : Nat} {x1 : Nat} {x2 : Int32} {x3 : Int32} {s : Hp} {w : Nat × Hp} (h : fX4_cellsOf x0 x1 x2 x3 s = some w) : (s.2.2 x0).1 = 4 ∧ Call G MX4_cellsOf [.ref x0, .ref x1, .int x2, .int x3] s (some (.ref w.1), w.2) := by
  unfold fX4_cellsOf at h
  obtain ⟨_, e0, h⟩ := bind_some h
  refine ⟨ck_some e0, Call.of_R pnRX4 (Nat.le_of_ble_eq_true rfl) ?_⟩
  clear e0
  show R G MX4_cellsOf 0 [(0, .ref x0), (1, .ref x1), (2, .int x2), (3, .int x3)] [] s (some (.ref w.1), w.2)
  refine R_aload DX4_cellsOf_0 0 rfl ?_
  refine R_aload DX4_cellsOf_1 0 rfl ?_
  obtain ⟨v1, ev1, h⟩ := bind_some h
  refine R_gR DX4_cellsOf_2 fl_RX4_31 ev1 ?_
  refine R_iload DX4_cellsOf_5 2 rfl ?_
  obtain ⟨v2, ev2, h⟩ := bind_some h
  refine R_aR rt26 DX4_cellsOf_6 ev2 ?_
  obtain ⟨s3, es3, h⟩ := bind_some h
  refine R_pR DX4_cellsOf_7 fl_RX4_36 es3 ?_
  refine R_aload DX4_cellsOf_10 0 rfl ?_
  obtain ⟨v4, ev4, h⟩ := bind_some h
  refine R_gR DX4_cellsOf_11 fl_RX4_36 ev4 ?_
  obtain ⟨v5, ev5, h⟩ := bind_some h
  refine R_gI DX4_cellsOf_14 fl_RX4_40 ev5 ?_
  refine R_iload DX4_cellsOf_17 3 rfl ?_
  by_cases c6 : v5 = x3
  · replace h := if_t h c6
    refine R_icmp_eq_t DX4_cellsOf_18 c6 ?_
    refine R.sub (L' := [(0, .ref x0)]) [0] rfl ?_
    exact tX4_cellsOf_b68 h
  · replace h := if_f h c6
    refine R_icmp_eq_f DX4_cellsOf_18 c6 ?_
    refine R_aload DX4_cellsOf_21 0 rfl ?_
    obtain ⟨v8, ev8, h⟩ := bind_some h
    refine R_gR DX4_cellsOf_22 fl_RX4_36 ev8 ?_
    obtain ⟨s9, es9, h⟩ := bind_some h
    refine R_cV0 [] DX4_cellsOf_25 kzvX2_clearCells ml_RX4_44 ⟨Nat.le_of_ble_eq_true rfl, Nat.le_of_ble_eq_true rfl⟩ rfl (Nat.le_of_ble_eq_true rfl) (kX2_clearCells es9) ?_
    refine R_aload DX4_cellsOf_28 0 rfl ?_
    refine R_aload DX4_cellsOf_29 1 rfl ?_
    refine R_iload DX4_cellsOf_30 2 rfl ?_
    refine R_constI DX4_cellsOf_31 ci_0 ?_
    refine R_constI DX4_cellsOf_32 ci_1 ?_
    obtain ⟨s10, es10, h⟩ := bind_some h
    refine R_cV0 [.ref x1, .int x2, .int (iI 0), .int (iI 1)] DX4_cellsOf_33 kzvX4_prepare ml_RX4_47 ⟨Nat.le_of_ble_eq_true rfl, Nat.le_of_ble_eq_true rfl⟩ rfl (Nat.le_of_ble_eq_true rfl) (kX4_prepare es10) ?_
    refine R_constI DX4_cellsOf_36 ci_0 ?_
    refine R_istore [(4, .int (iI 0)), (0, .ref x0), (1, .ref x1), (2, .int x2), (3, .int x3)] DX4_cellsOf_37 (by decide) rfl ?_
    refine R.sub (L' := [(0, .ref x0), (1, .ref x1), (3, .int x3), (4, .int (iI 0))]) [1, 2, 4, 0] rfl ?_
    obtain ⟨r14, hi, h⟩ := bind_some h
    have hE : (fun u39 : Hp => R G MX4_cellsOf 60 [(0, .ref x0), (3, .int x3)] [] u39 (some (.ref w.1), w.2)) r14 → ∀ (q4 : Int32) (qs : Hp), iter (fX4_cellsOf_l39 x0 x1 x3) FU (q4, qs) = some r14 → R G MX4_cellsOf 39 [(0, .ref x0), (1, .ref x1), (3, .int x3), (4, .int q4)] [] qs (some (.ref w.1), w.2) := fun hX q4 qs hj => loop_R (fX4_cellsOf_l39 x0 x1 x3) (fun p39 : Int32 × Hp => R G MX4_cellsOf 39 [(0, .ref x0), (1, .ref x1), (3, .int x3), (4, .int p39.1)] [] p39.2 (some (.ref w.1), w.2)) (fun u39 : Hp => R G MX4_cellsOf 60 [(0, .ref x0), (3, .int x3)] [] u39 (some (.ref w.1), w.2)) (fun a w hw hc he => tX4_cellsOf_l39 hw (fun q4 qs e => hc (q4, qs) e) (fun qs e => he qs e)) FU (q4, qs) r14 hj hX
    refine hE ?_ _ _ hi
    clear hE hi
    refine R_aload DX4_cellsOf_60 0 rfl ?_
    obtain ⟨v15, ev15, h⟩ := bind_some h
    refine R_gR DX4_cellsOf_61 fl_RX4_36 ev15 ?_
    refine R_iload DX4_cellsOf_64 1 rfl ?_
    obtain ⟨s16, es16, h⟩ := bind_some h
    refine R_pI DX4_cellsOf_65 fl_RX4_40 es16 ?_
    refine R.sub (L' := [(0, .ref x0)]) [0] rfl ?_
    exact tX4_cellsOf_b68 h
set_option maxRecDepth 8000 in
theorem tX4_toursOf_b100 {G : Gm} {x0 : Nat} {s : Hp} {w : Nat × Hp} (h : fX4_toursOf_b100 x0 s = some w) : R G MX4_toursOf 100 [(0, .ref x0)] [] s (some (.ref w.1), w.2) := by
  unfold fX4_toursOf_b100 at h
  refine R_aload DX4_toursOf_100 0 rfl ?_
  obtain ⟨v7, ev7, h⟩ := bind_some h
  refine R_gR DX4_toursOf_101 fl_RX4_36 ev7 ?_
  cases h
  exact R_areturn rfl DX4_toursOf_104
set_option maxRecDepth 8000 in
theorem tX4_toursOf_l64 {G : Gm} {x0 : Nat} {x1 : Nat} {x3 : Int32} {o : Option Value × Hp} {a : Int32 × Hp} {w : (Int32 × Hp) ⊕ ((Hp))} (h : fX4_toursOf_l64 x0 x1 x3 a = some w) (hc : ∀ (q4 : Int32) (qs : Hp), w = .inl (q4, qs) → R G MX4_toursOf 64 [(0, .ref x0), (1, .ref x1), (3, .int x3), (4, .int q4)] [] qs o) (he0 : ∀ (qs : Hp), w = .inr qs → R G MX4_toursOf 85 [(0, .ref x0), (3, .int x3)] [] qs o) : R G MX4_toursOf 64 [(0, .ref x0), (1, .ref x1), (3, .int x3), (4, .int a.1)] [] a.2 o := by
  unfold fX4_toursOf_l64 at h
  refine R_iload DX4_toursOf_64 3 rfl ?_
  refine R_aload DX4_toursOf_66 1 rfl ?_
  obtain ⟨v16, ev16, h⟩ := bind_some h
  refine R_gI DX4_toursOf_67 fl_RX4_51 ev16 ?_
  by_cases c17 : v16 ≤ a.1
  · replace h := if_t h c17
    refine R_icmp_ge_t DX4_toursOf_70 c17 ?_
    refine R.sub (L' := [(0, .ref x0), (3, .int x3)]) [0, 2] rfl ?_
    cases h
    exact he0 _ rfl
  · replace h := if_f h c17
    refine R_icmp_ge_f DX4_toursOf_70 c17 ?_
    refine R_aload DX4_toursOf_73 0 rfl ?_
    refine R_iload DX4_toursOf_74 3 rfl ?_
    obtain ⟨s18, es18, h⟩ := bind_some h
    refine R_cV0 [.int a.1] DX4_toursOf_76 kzvX4_passHour ml_RX4_56 ⟨Nat.le_of_ble_eq_true rfl, Nat.le_of_ble_eq_true rfl⟩ rfl (Nat.le_of_ble_eq_true rfl) (kX4_passHour es18) ?_
    refine R_iinc [(4, .int (a.1 + iI 1)), (0, .ref x0), (1, .ref x1), (3, .int x3)] DX4_toursOf_79 3 rfl (v := a.1 + iI 1) (by rfl) (by decide) rfl ?_
    refine R_goto DX4_toursOf_82 ?_
    refine R.sub (L' := [(0, .ref x0), (1, .ref x1), (3, .int x3), (4, .int (a.1 + iI 1))]) [1, 2, 3, 0] rfl ?_
    cases h
    exact hc _ _ rfl
set_option maxRecDepth 8000 in
theorem kX4_toursOf {G : Gm} {x0 : Nat} {x1 : Nat} {x2 : Int32} {x3 : Int32} {s : Hp} {w : Nat × Hp} (h : fX4_toursOf x0 x1 x2 x3 s = some w) : (s.2.2 x0).1 = 4 ∧ Call G MX4_toursOf [.ref x0, .ref x1, .int x2, .int x3] s (some (.ref w.1), w.2) := by
  unfold fX4_toursOf at h
  obtain ⟨_, e0, h⟩ := bind_some h
  refine ⟨ck_some e0, Call.of_R pnRX4 (Nat.le_of_ble_eq_true rfl) ?_⟩
  clear e0
  show R G MX4_toursOf 0 [(0, .ref x0), (1, .ref x1), (2, .int x2), (3, .int x3)] [] s (some (.ref w.1), w.2)
  refine R_aload DX4_toursOf_0 0 rfl ?_
  refine R_aload DX4_toursOf_1 0 rfl ?_
  obtain ⟨v1, ev1, h⟩ := bind_some h
  refine R_gR DX4_toursOf_2 fl_RX4_31 ev1 ?_
  refine R_iload DX4_toursOf_5 2 rfl ?_
  obtain ⟨v2, ev2, h⟩ := bind_some h
  refine R_aR rt26 DX4_toursOf_6 ev2 ?_
  obtain ⟨s3, es3, h⟩ := bind_some h
  refine R_pR DX4_toursOf_7 fl_RX4_36 es3 ?_
  refine R_aload DX4_toursOf_10 0 rfl ?_
  obtain ⟨v4, ev4, h⟩ := bind_some h
  refine R_gR DX4_toursOf_11 fl_RX4_36 ev4 ?_
  obtain ⟨v5, ev5, h⟩ := bind_some h
  refine R_gI DX4_toursOf_14 fl_RX4_60 ev5 ?_
  refine R_iload DX4_toursOf_17 3 rfl ?_
  by_cases c6 : v5 = x3
  · replace h := if_t h c6
    refine R_icmp_eq_t DX4_toursOf_18 c6 ?_
    refine R.sub (L' := [(0, .ref x0)]) [0] rfl ?_
    exact tX4_toursOf_b100 h
  · replace h := if_f h c6
    refine R_icmp_eq_f DX4_toursOf_18 c6 ?_
    refine R_aload DX4_toursOf_21 0 rfl ?_
    obtain ⟨v8, ev8, h⟩ := bind_some h
    refine R_gR DX4_toursOf_22 fl_RX4_36 ev8 ?_
    obtain ⟨s9, es9, h⟩ := bind_some h
    refine R_cV0 [] DX4_toursOf_25 kzvX2_clearTours ml_RX4_63 ⟨Nat.le_of_ble_eq_true rfl, Nat.le_of_ble_eq_true rfl⟩ rfl (Nat.le_of_ble_eq_true rfl) (kX2_clearTours es9) ?_
    refine R_aload DX4_toursOf_28 0 rfl ?_
    refine R_aload DX4_toursOf_29 1 rfl ?_
    refine R_iload DX4_toursOf_30 2 rfl ?_
    refine R_constI DX4_toursOf_31 ci_1 ?_
    refine R_constI DX4_toursOf_32 ci_1 ?_
    refine R_aload DX4_toursOf_33 1 rfl ?_
    obtain ⟨v10, ev10, h⟩ := bind_some h
    refine R_gI DX4_toursOf_34 fl_RX4_66 ev10 ?_
    refine R_ishl DX4_toursOf_37 ?_
    obtain ⟨s11, es11, h⟩ := bind_some h
    refine R_cV0 [.ref x1, .int x2, .int (iI 1), .int (ish (iI 1) v10)] DX4_toursOf_38 kzvX4_prepare ml_RX4_47 ⟨Nat.le_of_ble_eq_true rfl, Nat.le_of_ble_eq_true rfl⟩ rfl (Nat.le_of_ble_eq_true rfl) (kX4_prepare es11) ?_
    refine R_aload DX4_toursOf_41 0 rfl ?_
    refine R_constI DX4_toursOf_42 ci_0 ?_
    refine R_aload DX4_toursOf_43 0 rfl ?_
    obtain ⟨v12, ev12, h⟩ := bind_some h
    refine R_gI DX4_toursOf_44 fl_RX4_69 ev12 ?_
    refine R_aload DX4_toursOf_47 0 rfl ?_
    refine R_constI DX4_toursOf_48 ci_0 ?_
    refine R_constI DX4_toursOf_49 ci_0 ?_
    refine R_aload DX4_toursOf_50 0 rfl ?_
    obtain ⟨v13, ev13, h⟩ := bind_some h
    refine R_gI DX4_toursOf_51 fl_RX4_69 ev13 ?_
    obtain ⟨r14, er14, h⟩ := bind_some h
    refine R_cV1 [.int (iI 0), .int (iI 0), .int v13] DX4_toursOf_54 kzvX4_placeOf ml_RX4_72 ⟨Nat.le_of_ble_eq_true rfl, Nat.le_of_ble_eq_true rfl⟩ rfl (Nat.le_of_ble_eq_true rfl) (kX4_placeOf er14) ?_
    refine R_constI DX4_toursOf_57 ci_m1 ?_
    obtain ⟨s15, es15, h⟩ := bind_some h
    refine R_cV0 [.int (iI 0), .int v12, .int r14.1, .int (iI (-1))] DX4_toursOf_58 kzvX4_noteTours ml_RX4_76 ⟨Nat.le_of_ble_eq_true rfl, Nat.le_of_ble_eq_true rfl⟩ rfl (Nat.le_of_ble_eq_true rfl) (kX4_noteTours es15) ?_
    refine R_constI DX4_toursOf_61 ci_0 ?_
    refine R_istore [(4, .int (iI 0)), (0, .ref x0), (1, .ref x1), (2, .int x2), (3, .int x3)] DX4_toursOf_62 (by decide) rfl ?_
    refine R.sub (L' := [(0, .ref x0), (1, .ref x1), (3, .int x3), (4, .int (iI 0))]) [1, 2, 4, 0] rfl ?_
    obtain ⟨r19, hi, h⟩ := bind_some h
    have hE : (fun u64 : Hp => R G MX4_toursOf 85 [(0, .ref x0), (3, .int x3)] [] u64 (some (.ref w.1), w.2)) r19 → ∀ (q4 : Int32) (qs : Hp), iter (fX4_toursOf_l64 x0 x1 x3) FU (q4, qs) = some r19 → R G MX4_toursOf 64 [(0, .ref x0), (1, .ref x1), (3, .int x3), (4, .int q4)] [] qs (some (.ref w.1), w.2) := fun hX q4 qs hj => loop_R (fX4_toursOf_l64 x0 x1 x3) (fun p64 : Int32 × Hp => R G MX4_toursOf 64 [(0, .ref x0), (1, .ref x1), (3, .int x3), (4, .int p64.1)] [] p64.2 (some (.ref w.1), w.2)) (fun u64 : Hp => R G MX4_toursOf 85 [(0, .ref x0), (3, .int x3)] [] u64 (some (.ref w.1), w.2)) (fun a w hw hc he => tX4_toursOf_l64 hw (fun q4 qs e => hc (q4, qs) e) (fun qs e => he qs e)) FU (q4, qs) r19 hj hX
    refine hE ?_ _ _ hi
    clear hE hi
    refine R_aload DX4_toursOf_85 0 rfl ?_
    obtain ⟨v20, ev20, h⟩ := bind_some h
    refine R_gR DX4_toursOf_86 fl_RX4_36 ev20 ?_
    obtain ⟨s21, es21, h⟩ := bind_some h
    refine R_cV0 [] DX4_toursOf_89 kzvX2_spreadTours ml_RX4_80 ⟨Nat.le_of_ble_eq_true rfl, Nat.le_of_ble_eq_true rfl⟩ rfl (Nat.le_of_ble_eq_true rfl) (kX2_spreadTours es21) ?_
    refine R_aload DX4_toursOf_92 0 rfl ?_
    obtain ⟨v22, ev22, h⟩ := bind_some h
    refine R_gR DX4_toursOf_93 fl_RX4_36 ev22 ?_
    refine R_iload DX4_toursOf_96 1 rfl ?_
    obtain ⟨s23, es23, h⟩ := bind_some h
    refine R_pI DX4_toursOf_97 fl_RX4_60 es23 ?_
    refine R.sub (L' := [(0, .ref x0)]) [0] rfl ?_
    exact tX4_toursOf_b100 h
set_option maxRecDepth 8000 in
theorem tX4_highestTag_b39 {G : Gm} {x0 : Nat} {x1 : Int32} {x2 : Int32} {s : Hp} {o : Option Value × Hp} {w : (Int32 × Int32 × Hp) ⊕ ((Int32 × Hp))} (h : fX4_highestTag_b39 x0 x1 x2 s = some w) (hc : ∀ (q1 : Int32) (q2 : Int32) (qs : Hp), w = .inl (q1, q2, qs) → R G MX4_highestTag 4 [(0, .ref x0), (1, .int q1), (2, .int q2)] [] qs o) (he0 : ∀ (q1 : Int32) (qs : Hp), w = .inr (q1, qs) → R G MX4_highestTag 45 [(1, .int q1)] [] qs o) : R G MX4_highestTag 39 [(0, .ref x0), (1, .int x1), (2, .int x2)] [] s o := by
  unfold fX4_highestTag_b39 at h
  refine R_iinc [(2, .int (x2 + iI 1)), (0, .ref x0), (1, .int x1)] DX4_highestTag_39 2 rfl (v := x2 + iI 1) (by rfl) (by decide) rfl ?_
  refine R_goto DX4_highestTag_42 ?_
  refine R.sub (L' := [(0, .ref x0), (1, .int x1), (2, .int (x2 + iI 1))]) [1, 2, 0] rfl ?_
  cases h
  exact hc _ _ _ rfl
set_option maxRecDepth 8000 in
theorem tX4_highestTag_l4 {G : Gm} {x0 : Nat} {o : Option Value × Hp} {a : Int32 × Int32 × Hp} {w : (Int32 × Int32 × Hp) ⊕ ((Int32 × Hp))} (h : fX4_highestTag_l4 x0 a = some w) (hc : ∀ (q1 : Int32) (q2 : Int32) (qs : Hp), w = .inl (q1, q2, qs) → R G MX4_highestTag 4 [(0, .ref x0), (1, .int q1), (2, .int q2)] [] qs o) (he0 : ∀ (q1 : Int32) (qs : Hp), w = .inr (q1, qs) → R G MX4_highestTag 45 [(1, .int q1)] [] qs o) : R G MX4_highestTag 4 [(0, .ref x0), (1, .int a.1), (2, .int a.2.1)] [] a.2.2 o := by
  unfold fX4_highestTag_l4 at h
  refine R_iload DX4_highestTag_4 2 rfl ?_
  refine R_aload DX4_highestTag_5 0 rfl ?_
  obtain ⟨r1, er1, h⟩ := bind_some h
  refine R_cV1 [] DX4_highestTag_6 kzvX4_blockCount ml_RX4_93 ⟨Nat.le_of_ble_eq_true rfl, Nat.le_of_ble_eq_true rfl⟩ rfl (Nat.le_of_ble_eq_true rfl) (kX4_blockCount er1) ?_
  refine R_aload DX4_highestTag_9 0 rfl ?_
  obtain ⟨v2, ev2, h⟩ := bind_some h
  refine R_gI DX4_highestTag_10 fl_RX4_136 ev2 ?_
  refine R_imul DX4_highestTag_13 ?_
  by_cases c3 : (r1.1 * v2) ≤ a.2.1
  · replace h := if_t h c3
    refine R_icmp_ge_t DX4_highestTag_14 c3 ?_
    refine R.sub (L' := [(1, .int a.1)]) [1] rfl ?_
    cases h
    exact he0 _ _ rfl
  · replace h := if_f h c3
    refine R_icmp_ge_f DX4_highestTag_14 c3 ?_
    refine R_aload DX4_highestTag_17 0 rfl ?_
    obtain ⟨v4, ev4, h⟩ := bind_some h
    refine R_gR DX4_highestTag_18 fl_RX4_11 ev4 ?_
    refine R_iload DX4_highestTag_21 2 rfl ?_
    obtain ⟨v5, ev5, h⟩ := bind_some h
    refine R_aL DX4_highestTag_22 ev5 ?_
    refine R_lconst DX4_highestTag_23 ?_
    refine R_lcmp DX4_highestTag_24 ?_
    by_cases c6 : (lg_cmp v5 0) = 0
    · replace h := if_t h c6
      refine R_if_eq_t DX4_highestTag_25 c6 ?_
      exact tX4_highestTag_b39 h hc he0
    · replace h := if_f h c6
      refine R_if_eq_f DX4_highestTag_25 c6 ?_
      refine R_iload DX4_highestTag_28 1 rfl ?_
      refine R_iload DX4_highestTag_29 2 rfl ?_
      refine R_aload DX4_highestTag_30 0 rfl ?_
      obtain ⟨v7, ev7, h⟩ := bind_some h
      refine R_gI DX4_highestTag_31 fl_RX4_136 ev7 ?_
      obtain ⟨v8, ev8, h⟩ := bind_some h
      refine R_mI DX4_highestTag_34 ev8 ?_
      refine R_mmax DX4_highestTag_35 mw_RX4_133 ⟨Nat.le_of_ble_eq_true rfl, Nat.le_of_ble_eq_true rfl⟩ ?_
      obtain ⟨z9, ez9, h⟩ := lt_some h
      refine R_istoreE ez9 [(1, .int z9), (0, .ref x0), (2, .int a.2.1)] DX4_highestTag_38 (by decide) rfl ?_
      refine R.sub (L' := [(0, .ref x0), (1, .int z9), (2, .int a.2.1)]) [1, 0, 2] rfl ?_
      exact tX4_highestTag_b39 h hc he0
set_option maxRecDepth 8000 in
theorem kX4_highestTag {G : Gm} {x0 : Nat} {s : Hp} {w : Int32 × Hp} (h : fX4_highestTag x0 s = some w) : (s.2.2 x0).1 = 4 ∧ Call G MX4_highestTag [.ref x0] s (some (.int w.1), w.2) := by
  unfold fX4_highestTag at h
  obtain ⟨_, e0, h⟩ := bind_some h
  refine ⟨ck_some e0, Call.of_R pnRX4 (Nat.le_of_ble_eq_true rfl) ?_⟩
  clear e0
  show R G MX4_highestTag 0 [(0, .ref x0)] [] s (some (.int w.1), w.2)
  refine R_constI DX4_highestTag_0 ci_0 ?_
  refine R_istore [(1, .int (iI 0)), (0, .ref x0)] DX4_highestTag_1 (by decide) rfl ?_
  refine R_constI DX4_highestTag_2 ci_0 ?_
  refine R_istore [(2, .int (iI 0)), (1, .int (iI 0)), (0, .ref x0)] DX4_highestTag_3 (by decide) rfl ?_
  refine R.sub (L' := [(0, .ref x0), (1, .int (iI 0)), (2, .int (iI 0))]) [2, 1, 0] rfl ?_
  obtain ⟨r10, hi, h⟩ := bind_some h
  have hE : (fun u4 : Int32 × Hp => R G MX4_highestTag 45 [(1, .int u4.1)] [] u4.2 (some (.int w.1), w.2)) r10 → ∀ (q1 : Int32) (q2 : Int32) (qs : Hp), iter (fX4_highestTag_l4 x0) FU (q1, q2, qs) = some r10 → R G MX4_highestTag 4 [(0, .ref x0), (1, .int q1), (2, .int q2)] [] qs (some (.int w.1), w.2) := fun hX q1 q2 qs hj => loop_R (fX4_highestTag_l4 x0) (fun p4 : Int32 × Int32 × Hp => R G MX4_highestTag 4 [(0, .ref x0), (1, .int p4.1), (2, .int p4.2.1)] [] p4.2.2 (some (.int w.1), w.2)) (fun u4 : Int32 × Hp => R G MX4_highestTag 45 [(1, .int u4.1)] [] u4.2 (some (.int w.1), w.2)) (fun a w hw hc he => tX4_highestTag_l4 hw (fun q1 q2 qs e => hc (q1, q2, qs) e) (fun q1 qs e => he (q1, qs) e)) FU (q1, q2, qs) r10 hj hX
  refine hE ?_ _ _ _ hi
  clear hE hi
  refine R_iload DX4_highestTag_45 0 rfl ?_
  cases h
  exact R_ireturn rfl DX4_highestTag_46
set_option maxRecDepth 8000 in
theorem tX4_hoursAtFair_l20 {G : Gm} {x0 : Nat} {x1 : Nat} {o : Option Value × Hp} {a : Int32 × Hp} {w : (Int32 × Hp) ⊕ ((Hp))} (h : fX4_hoursAtFair_l20 x0 x1 a = some w) (hc : ∀ (q3 : Int32) (qs : Hp), w = .inl (q3, qs) → R G MX4_hoursAtFair 20 [(0, .ref x0), (1, .ref x1), (3, .int q3)] [] qs o) (he0 : ∀ (qs : Hp), w = .inr qs → R G MX4_hoursAtFair 39 [(0, .ref x0)] [] qs o) : R G MX4_hoursAtFair 20 [(0, .ref x0), (1, .ref x1), (3, .int a.1)] [] a.2 o := by
  unfold fX4_hoursAtFair_l20 at h
  refine R_iload DX4_hoursAtFair_20 2 rfl ?_
  refine R_aload DX4_hoursAtFair_21 1 rfl ?_
  obtain ⟨v4, ev4, h⟩ := bind_some h
  refine R_gI DX4_hoursAtFair_22 fl_RX4_83 ev4 ?_
  by_cases c5 : v4 < a.1
  · replace h := if_t h c5
    refine R_icmp_gt_t DX4_hoursAtFair_25 c5 ?_
    refine R.sub (L' := [(0, .ref x0)]) [0] rfl ?_
    cases h
    exact he0 _ rfl
  · replace h := if_f h c5
    refine R_icmp_gt_f DX4_hoursAtFair_25 c5 ?_
    refine R_aload DX4_hoursAtFair_28 0 rfl ?_
    refine R_iload DX4_hoursAtFair_29 2 rfl ?_
    obtain ⟨s6, es6, h⟩ := bind_some h
    refine R_cV0 [.int a.1] DX4_hoursAtFair_30 kzvX4_passHour ml_RX4_56 ⟨Nat.le_of_ble_eq_true rfl, Nat.le_of_ble_eq_true rfl⟩ rfl (Nat.le_of_ble_eq_true rfl) (kX4_passHour es6) ?_
    refine R_iinc [(3, .int (a.1 + iI 1)), (0, .ref x0), (1, .ref x1)] DX4_hoursAtFair_33 2 rfl (v := a.1 + iI 1) (by rfl) (by decide) rfl ?_
    refine R_goto DX4_hoursAtFair_36 ?_
    refine R.sub (L' := [(0, .ref x0), (1, .ref x1), (3, .int (a.1 + iI 1))]) [1, 2, 0] rfl ?_
    cases h
    exact hc _ _ rfl
set_option maxRecDepth 8000 in
theorem kX4_hoursAtFair {G : Gm} {x0 : Nat} {x1 : Nat} {x2 : Int32} {s : Hp} {w : Int32 × Hp} (h : fX4_hoursAtFair x0 x1 x2 s = some w) : (s.2.2 x0).1 = 4 ∧ Call G MX4_hoursAtFair [.ref x0, .ref x1, .int x2] s (some (.int w.1), w.2) := by
  unfold fX4_hoursAtFair at h
  obtain ⟨_, e0, h⟩ := bind_some h
  refine ⟨ck_some e0, Call.of_R pnRX4 (Nat.le_of_ble_eq_true rfl) ?_⟩
  clear e0
  show R G MX4_hoursAtFair 0 [(0, .ref x0), (1, .ref x1), (2, .int x2)] [] s (some (.int w.1), w.2)
  refine R_aload DX4_hoursAtFair_0 0 rfl ?_
  refine R_aload DX4_hoursAtFair_1 1 rfl ?_
  refine R_iload DX4_hoursAtFair_2 2 rfl ?_
  refine R_constI DX4_hoursAtFair_3 ci_2 ?_
  refine R_aload DX4_hoursAtFair_4 1 rfl ?_
  obtain ⟨v1, ev1, h⟩ := bind_some h
  refine R_gI DX4_hoursAtFair_5 fl_RX4_83 ev1 ?_
  refine R_aload DX4_hoursAtFair_8 1 rfl ?_
  obtain ⟨v2, ev2, h⟩ := bind_some h
  refine R_gI DX4_hoursAtFair_9 fl_RX4_86 ev2 ?_
  refine R_isub DX4_hoursAtFair_12 ?_
  refine R_constI DX4_hoursAtFair_13 ci_2 ?_
  refine R_iadd DX4_hoursAtFair_14 ?_
  obtain ⟨s3, es3, h⟩ := bind_some h
  refine R_cV0 [.ref x1, .int x2, .int (iI 2), .int ((v1 - v2) + (iI 2))] DX4_hoursAtFair_15 kzvX4_prepare ml_RX4_47 ⟨Nat.le_of_ble_eq_true rfl, Nat.le_of_ble_eq_true rfl⟩ rfl (Nat.le_of_ble_eq_true rfl) (kX4_prepare es3) ?_
  refine R_constI DX4_hoursAtFair_18 ci_0 ?_
  refine R_istore [(3, .int (iI 0)), (0, .ref x0), (1, .ref x1), (2, .int x2)] DX4_hoursAtFair_19 (by decide) rfl ?_
  refine R.sub (L' := [(0, .ref x0), (1, .ref x1), (3, .int (iI 0))]) [1, 2, 0] rfl ?_
  obtain ⟨r7, hi, h⟩ := bind_some h
  have hE : (fun u20 : Hp => R G MX4_hoursAtFair 39 [(0, .ref x0)] [] u20 (some (.int w.1), w.2)) r7 → ∀ (q3 : Int32) (qs : Hp), iter (fX4_hoursAtFair_l20 x0 x1) FU (q3, qs) = some r7 → R G MX4_hoursAtFair 20 [(0, .ref x0), (1, .ref x1), (3, .int q3)] [] qs (some (.int w.1), w.2) := fun hX q3 qs hj => loop_R (fX4_hoursAtFair_l20 x0 x1) (fun p20 : Int32 × Hp => R G MX4_hoursAtFair 20 [(0, .ref x0), (1, .ref x1), (3, .int p20.1)] [] p20.2 (some (.int w.1), w.2)) (fun u20 : Hp => R G MX4_hoursAtFair 39 [(0, .ref x0)] [] u20 (some (.int w.1), w.2)) (fun a w hw hc he => tX4_hoursAtFair_l20 hw (fun q3 qs e => hc (q3, qs) e) (fun qs e => he qs e)) FU (q3, qs) r7 hj hX
  refine hE ?_ _ _ hi
  clear hE hi
  refine R_aload DX4_hoursAtFair_39 0 rfl ?_
  obtain ⟨r8, er8, h⟩ := bind_some h
  refine R_cV1 [] DX4_hoursAtFair_40 kzvX4_highestTag ml_RX4_89 ⟨Nat.le_of_ble_eq_true rfl, Nat.le_of_ble_eq_true rfl⟩ rfl (Nat.le_of_ble_eq_true rfl) (kX4_highestTag er8) ?_
  cases h
  exact R_ireturn rfl DX4_hoursAtFair_43
set_option maxRecDepth 8000 in
theorem tX4_hoursAloft_l15 {G : Gm} {x0 : Nat} {x1 : Nat} {o : Option Value × Hp} {a : Int32 × Hp} {w : (Int32 × Hp) ⊕ ((Hp))} (h : fX4_hoursAloft_l15 x0 x1 a = some w) (hc : ∀ (q3 : Int32) (qs : Hp), w = .inl (q3, qs) → R G MX4_hoursAloft 15 [(0, .ref x0), (1, .ref x1), (3, .int q3)] [] qs o) (he0 : ∀ (qs : Hp), w = .inr qs → R G MX4_hoursAloft 34 [(0, .ref x0)] [] qs o) : R G MX4_hoursAloft 15 [(0, .ref x0), (1, .ref x1), (3, .int a.1)] [] a.2 o := by
  unfold fX4_hoursAloft_l15 at h
  refine R_iload DX4_hoursAloft_15 2 rfl ?_
  refine R_aload DX4_hoursAloft_16 1 rfl ?_
  obtain ⟨v3, ev3, h⟩ := bind_some h
  refine R_gI DX4_hoursAloft_17 fl_RX4_51 ev3 ?_
  by_cases c4 : v3 ≤ a.1
  · replace h := if_t h c4
    refine R_icmp_ge_t DX4_hoursAloft_20 c4 ?_
    refine R.sub (L' := [(0, .ref x0)]) [0] rfl ?_
    cases h
    exact he0 _ rfl
  · replace h := if_f h c4
    refine R_icmp_ge_f DX4_hoursAloft_20 c4 ?_
    refine R_aload DX4_hoursAloft_23 0 rfl ?_
    refine R_iload DX4_hoursAloft_24 2 rfl ?_
    obtain ⟨s5, es5, h⟩ := bind_some h
    refine R_cV0 [.int a.1] DX4_hoursAloft_25 kzvX4_passHour ml_RX4_56 ⟨Nat.le_of_ble_eq_true rfl, Nat.le_of_ble_eq_true rfl⟩ rfl (Nat.le_of_ble_eq_true rfl) (kX4_passHour es5) ?_
    refine R_iinc [(3, .int (a.1 + iI 1)), (0, .ref x0), (1, .ref x1)] DX4_hoursAloft_28 2 rfl (v := a.1 + iI 1) (by rfl) (by decide) rfl ?_
    refine R_goto DX4_hoursAloft_31 ?_
    refine R.sub (L' := [(0, .ref x0), (1, .ref x1), (3, .int (a.1 + iI 1))]) [1, 2, 0] rfl ?_
    cases h
    exact hc _ _ rfl
set_option maxRecDepth 8000 in
theorem kX4_hoursAloft {G : Gm} {x0 : Nat} {x1 : Nat} {x2 : Int32} {s : Hp} {w : Int32 × Hp} (h : fX4_hoursAloft x0 x1 x2 s = some w) : (s.2.2 x0).1 = 4 ∧ Call G MX4_hoursAloft [.ref x0, .ref x1, .int x2] s (some (.int w.1), w.2) := by
  unfold fX4_hoursAloft at h
  obtain ⟨_, e0, h⟩ := bind_some h
  refine ⟨ck_some e0, Call.of_R pnRX4 (Nat.le_of_ble_eq_true rfl) ?_⟩
  clear e0
  show R G MX4_hoursAloft 0 [(0, .ref x0), (1, .ref x1), (2, .int x2)] [] s (some (.int w.1), w.2)
  refine R_aload DX4_hoursAloft_0 0 rfl ?_
  refine R_aload DX4_hoursAloft_1 1 rfl ?_
  refine R_iload DX4_hoursAloft_2 2 rfl ?_
  refine R_constI DX4_hoursAloft_3 ci_3 ?_
  refine R_aload DX4_hoursAloft_4 1 rfl ?_
  obtain ⟨v1, ev1, h⟩ := bind_some h
  refine R_gI DX4_hoursAloft_5 fl_RX4_51 ev1 ?_
  refine R_constI DX4_hoursAloft_8 ci_1 ?_
  refine R_iadd DX4_hoursAloft_9 ?_
  obtain ⟨s2, es2, h⟩ := bind_some h
  refine R_cV0 [.ref x1, .int x2, .int (iI 3), .int (v1 + (iI 1))] DX4_hoursAloft_10 kzvX4_prepare ml_RX4_47 ⟨Nat.le_of_ble_eq_true rfl, Nat.le_of_ble_eq_true rfl⟩ rfl (Nat.le_of_ble_eq_true rfl) (kX4_prepare es2) ?_
  refine R_constI DX4_hoursAloft_13 ci_0 ?_
  refine R_istore [(3, .int (iI 0)), (0, .ref x0), (1, .ref x1), (2, .int x2)] DX4_hoursAloft_14 (by decide) rfl ?_
  refine R.sub (L' := [(0, .ref x0), (1, .ref x1), (3, .int (iI 0))]) [1, 2, 0] rfl ?_
  obtain ⟨r6, hi, h⟩ := bind_some h
  have hE : (fun u15 : Hp => R G MX4_hoursAloft 34 [(0, .ref x0)] [] u15 (some (.int w.1), w.2)) r6 → ∀ (q3 : Int32) (qs : Hp), iter (fX4_hoursAloft_l15 x0 x1) FU (q3, qs) = some r6 → R G MX4_hoursAloft 15 [(0, .ref x0), (1, .ref x1), (3, .int q3)] [] qs (some (.int w.1), w.2) := fun hX q3 qs hj => loop_R (fX4_hoursAloft_l15 x0 x1) (fun p15 : Int32 × Hp => R G MX4_hoursAloft 15 [(0, .ref x0), (1, .ref x1), (3, .int p15.1)] [] p15.2 (some (.int w.1), w.2)) (fun u15 : Hp => R G MX4_hoursAloft 34 [(0, .ref x0)] [] u15 (some (.int w.1), w.2)) (fun a w hw hc he => tX4_hoursAloft_l15 hw (fun q3 qs e => hc (q3, qs) e) (fun qs e => he qs e)) FU (q3, qs) r6 hj hX
  refine hE ?_ _ _ hi
  clear hE hi
  refine R_aload DX4_hoursAloft_34 0 rfl ?_
  obtain ⟨r7, er7, h⟩ := bind_some h
  refine R_cV1 [] DX4_hoursAloft_35 kzvX4_highestTag ml_RX4_89 ⟨Nat.le_of_ble_eq_true rfl, Nat.le_of_ble_eq_true rfl⟩ rfl (Nat.le_of_ble_eq_true rfl) (kX4_highestTag er7) ?_
  cases h
  exact R_ireturn rfl DX4_hoursAloft_38
set_option maxRecDepth 8000 in
theorem tX4_rowsOfActs_l11 {G : Gm} {x0 : Nat} {x3 : Int32} {o : Option Value × Hp} {a : Int32 × Hp} {w : (Int32 × Hp) ⊕ ((Hp))} (h : fX4_rowsOfActs_l11 x0 x3 a = some w) (hc : ∀ (q4 : Int32) (qs : Hp), w = .inl (q4, qs) → R G MX4_rowsOfActs 11 [(0, .ref x0), (3, .int x3), (4, .int q4)] [] qs o) (he0 : ∀ (qs : Hp), w = .inr qs → R G MX4_rowsOfActs 29 [(0, .ref x0)] [] qs o) : R G MX4_rowsOfActs 11 [(0, .ref x0), (3, .int x3), (4, .int a.1)] [] a.2 o := by
  unfold fX4_rowsOfActs_l11 at h
  refine R_iload DX4_rowsOfActs_11 2 rfl ?_
  refine R_iload DX4_rowsOfActs_13 1 rfl ?_
  by_cases c2 : x3 ≤ a.1
  · replace h := if_t h c2
    refine R_icmp_ge_t DX4_rowsOfActs_14 c2 ?_
    refine R.sub (L' := [(0, .ref x0)]) [0] rfl ?_
    cases h
    exact he0 _ rfl
  · replace h := if_f h c2
    refine R_icmp_ge_f DX4_rowsOfActs_14 c2 ?_
    refine R_aload DX4_rowsOfActs_17 0 rfl ?_
    refine R_iload DX4_rowsOfActs_18 2 rfl ?_
    obtain ⟨s3, es3, h⟩ := bind_some h
    refine R_cV0 [.int a.1] DX4_rowsOfActs_20 kzvX4_passHour ml_RX4_56 ⟨Nat.le_of_ble_eq_true rfl, Nat.le_of_ble_eq_true rfl⟩ rfl (Nat.le_of_ble_eq_true rfl) (kX4_passHour es3) ?_
    refine R_iinc [(4, .int (a.1 + iI 1)), (0, .ref x0), (3, .int x3)] DX4_rowsOfActs_23 2 rfl (v := a.1 + iI 1) (by rfl) (by decide) rfl ?_
    refine R_goto DX4_rowsOfActs_26 ?_
    refine R.sub (L' := [(0, .ref x0), (3, .int x3), (4, .int (a.1 + iI 1))]) [1, 2, 0] rfl ?_
    cases h
    exact hc _ _ rfl
set_option maxRecDepth 8000 in
theorem tX4_rowsOfActs_l35 {G : Gm} {x0 : Nat} {o : Option Value × Hp} {a : Int64 × Int32 × Hp} {w : (Int64 × Int32 × Hp) ⊕ ((Int64 × Hp))} (h : fX4_rowsOfActs_l35 x0 a = some w) (hc : ∀ (q4 : Int64) (q6 : Int32) (qs : Hp), w = .inl (q4, q6, qs) → R G MX4_rowsOfActs 35 [(0, .ref x0), (4, .long q4), (6, .int q6)] [] qs o) (he0 : ∀ (q4 : Int64) (qs : Hp), w = .inr (q4, qs) → R G MX4_rowsOfActs 62 [(4, .long q4)] [] qs o) : R G MX4_rowsOfActs 35 [(0, .ref x0), (4, .long a.1), (6, .int a.2.1)] [] a.2.2 o := by
  unfold fX4_rowsOfActs_l35 at h
  refine R_iload DX4_rowsOfActs_35 2 rfl ?_
  refine R_aload DX4_rowsOfActs_37 0 rfl ?_
  obtain ⟨r5, er5, h⟩ := bind_some h
  refine R_cV1 [] DX4_rowsOfActs_38 kzvX4_blockCount ml_RX4_93 ⟨Nat.le_of_ble_eq_true rfl, Nat.le_of_ble_eq_true rfl⟩ rfl (Nat.le_of_ble_eq_true rfl) (kX4_blockCount er5) ?_
  by_cases c6 : r5.1 ≤ a.2.1
  · replace h := if_t h c6
    refine R_icmp_ge_t DX4_rowsOfActs_41 c6 ?_
    refine R.sub (L' := [(4, .long a.1)]) [1] rfl ?_
    cases h
    exact he0 _ _ rfl
  · replace h := if_f h c6
    refine R_icmp_ge_f DX4_rowsOfActs_41 c6 ?_
    refine R_lload DX4_rowsOfActs_44 1 rfl ?_
    refine R_aload DX4_rowsOfActs_46 0 rfl ?_
    obtain ⟨v7, ev7, h⟩ := bind_some h
    refine R_gR DX4_rowsOfActs_47 fl_RX4_11 ev7 ?_
    refine R_iload DX4_rowsOfActs_50 2 rfl ?_
    obtain ⟨v8, ev8, h⟩ := bind_some h
    refine R_aL DX4_rowsOfActs_52 ev8 ?_
    refine R_ladd DX4_rowsOfActs_53 ?_
    obtain ⟨z9, ez9, h⟩ := lt_some h
    refine R_lstoreE ez9 [(4, .long z9), (0, .ref x0), (6, .int a.2.1)] DX4_rowsOfActs_54 (by decide) rfl ?_
    refine R_iinc [(6, .int (a.2.1 + iI 1)), (4, .long z9), (0, .ref x0)] DX4_rowsOfActs_56 2 rfl (v := a.2.1 + iI 1) (by rfl) (by decide) rfl ?_
    refine R_goto DX4_rowsOfActs_59 ?_
    refine R.sub (L' := [(0, .ref x0), (4, .long z9), (6, .int (a.2.1 + iI 1))]) [2, 1, 0] rfl ?_
    cases h
    exact hc _ _ _ rfl
set_option maxRecDepth 8000 in
theorem kX4_rowsOfActs {G : Gm} {x0 : Nat} {x1 : Nat} {x2 : Int32} {x3 : Int32} {s : Hp} {w : Int64 × Hp} (h : fX4_rowsOfActs x0 x1 x2 x3 s = some w) : (s.2.2 x0).1 = 4 ∧ Call G MX4_rowsOfActs [.ref x0, .ref x1, .int x2, .int x3] s (some (.long w.1), w.2) := by
  unfold fX4_rowsOfActs at h
  obtain ⟨_, e0, h⟩ := bind_some h
  refine ⟨ck_some e0, Call.of_R pnRX4 (Nat.le_of_ble_eq_true rfl) ?_⟩
  clear e0
  show R G MX4_rowsOfActs 0 [(0, .ref x0), (1, .ref x1), (2, .int x2), (3, .int x3)] [] s (some (.long w.1), w.2)
  refine R_aload DX4_rowsOfActs_0 0 rfl ?_
  refine R_aload DX4_rowsOfActs_1 1 rfl ?_
  refine R_iload DX4_rowsOfActs_2 2 rfl ?_
  refine R_constI DX4_rowsOfActs_3 ci_4 ?_
  refine R_constI DX4_rowsOfActs_4 ci_1 ?_
  obtain ⟨s1, es1, h⟩ := bind_some h
  refine R_cV0 [.ref x1, .int x2, .int (iI 4), .int (iI 1)] DX4_rowsOfActs_5 kzvX4_prepare ml_RX4_47 ⟨Nat.le_of_ble_eq_true rfl, Nat.le_of_ble_eq_true rfl⟩ rfl (Nat.le_of_ble_eq_true rfl) (kX4_prepare es1) ?_
  refine R_constI DX4_rowsOfActs_8 ci_0 ?_
  refine R_istore [(4, .int (iI 0)), (0, .ref x0), (1, .ref x1), (2, .int x2), (3, .int x3)] DX4_rowsOfActs_9 (by decide) rfl ?_
  refine R.sub (L' := [(0, .ref x0), (3, .int x3), (4, .int (iI 0))]) [1, 4, 0] rfl ?_
  obtain ⟨r4, hi, h⟩ := bind_some h
  have hE : (fun u11 : Hp => R G MX4_rowsOfActs 29 [(0, .ref x0)] [] u11 (some (.long w.1), w.2)) r4 → ∀ (q4 : Int32) (qs : Hp), iter (fX4_rowsOfActs_l11 x0 x3) FU (q4, qs) = some r4 → R G MX4_rowsOfActs 11 [(0, .ref x0), (3, .int x3), (4, .int q4)] [] qs (some (.long w.1), w.2) := fun hX q4 qs hj => loop_R (fX4_rowsOfActs_l11 x0 x3) (fun p11 : Int32 × Hp => R G MX4_rowsOfActs 11 [(0, .ref x0), (3, .int x3), (4, .int p11.1)] [] p11.2 (some (.long w.1), w.2)) (fun u11 : Hp => R G MX4_rowsOfActs 29 [(0, .ref x0)] [] u11 (some (.long w.1), w.2)) (fun a w hw hc he => tX4_rowsOfActs_l11 hw (fun q4 qs e => hc (q4, qs) e) (fun qs e => he qs e)) FU (q4, qs) r4 hj hX
  refine hE ?_ _ _ hi
  clear hE hi
  refine R_lconst DX4_rowsOfActs_29 ?_
  refine R_lstore [(4, .long 0), (0, .ref x0)] DX4_rowsOfActs_30 (by decide) rfl ?_
  refine R_constI DX4_rowsOfActs_32 ci_0 ?_
  refine R_istore [(6, .int (iI 0)), (4, .long 0), (0, .ref x0)] DX4_rowsOfActs_33 (by decide) rfl ?_
  refine R.sub (L' := [(0, .ref x0), (4, .long 0), (6, .int (iI 0))]) [2, 1, 0] rfl ?_
  obtain ⟨r10, hi, h⟩ := bind_some h
  have hE : (fun u35 : Int64 × Hp => R G MX4_rowsOfActs 62 [(4, .long u35.1)] [] u35.2 (some (.long w.1), w.2)) r10 → ∀ (q4 : Int64) (q6 : Int32) (qs : Hp), iter (fX4_rowsOfActs_l35 x0) FU (q4, q6, qs) = some r10 → R G MX4_rowsOfActs 35 [(0, .ref x0), (4, .long q4), (6, .int q6)] [] qs (some (.long w.1), w.2) := fun hX q4 q6 qs hj => loop_R (fX4_rowsOfActs_l35 x0) (fun p35 : Int64 × Int32 × Hp => R G MX4_rowsOfActs 35 [(0, .ref x0), (4, .long p35.1), (6, .int p35.2.1)] [] p35.2.2 (some (.long w.1), w.2)) (fun u35 : Int64 × Hp => R G MX4_rowsOfActs 62 [(4, .long u35.1)] [] u35.2 (some (.long w.1), w.2)) (fun a w hw hc he => tX4_rowsOfActs_l35 hw (fun q4 q6 qs e => hc (q4, q6, qs) e) (fun q4 qs e => he (q4, qs) e)) FU (q4, q6, qs) r10 hj hX
  refine hE ?_ _ _ _ hi
  clear hE hi
  refine R_lload DX4_rowsOfActs_62 0 rfl ?_
  cases h
  exact R_lreturn rfl DX4_rowsOfActs_64
set_option maxRecDepth 8000 in
theorem tX4_actOnWay_b77 {G : Gm} {x0 : Nat} {x4 : Int32} {s : Hp} {w : Int32 × Hp} (h : fX4_actOnWay_b77 x0 x4 s = some w) : R G MX4_actOnWay 77 [(0, .ref x0), (4, .int x4)] [] s (some (.int w.1), w.2) := by
  unfold fX4_actOnWay_b77 at h
  refine R_aload DX4_actOnWay_77 0 rfl ?_
  obtain ⟨v6, ev6, h⟩ := bind_some h
  refine R_gR DX4_actOnWay_78 fl_RX4_25 ev6 ?_
  refine R_iload DX4_actOnWay_81 1 rfl ?_
  obtain ⟨r7, er7, h⟩ := bind_some h
  refine R_cV1 [.int x4] DX4_actOnWay_83 kzvX1_actIn ml_RX4_116 ⟨Nat.le_of_ble_eq_true rfl, Nat.le_of_ble_eq_true rfl⟩ rfl (Nat.le_of_ble_eq_true rfl) (kX1_actIn er7) ?_
  cases h
  exact R_ireturn rfl DX4_actOnWay_86
set_option maxRecDepth 8000 in
theorem kX4_actOnWay {G : Gm} {x0 : Nat} {x1 : Nat} {x2 : Int32} {x3 : Int32} {x4 : Int32} {x5 : Int32} {x6 : Int32} {s : Hp} {w : Int32 × Hp} (h : fX4_actOnWay x0 x1 x2 x3 x4 x5 x6 s = some w) : (s.2.2 x0).1 = 4 ∧ Call G MX4_actOnWay [.ref x0, .ref x1, .int x2, .int x3, .int x4, .int x5, .int x6] s (some (.int w.1), w.2) := by
  unfold fX4_actOnWay at h
  obtain ⟨_, e0, h⟩ := bind_some h
  refine ⟨ck_some e0, Call.of_R pnRX4 (Nat.le_of_ble_eq_true rfl) ?_⟩
  clear e0
  show R G MX4_actOnWay 0 [(0, .ref x0), (1, .ref x1), (2, .int x2), (3, .int x3), (4, .int x4), (5, .int x5), (6, .int x6)] [] s (some (.int w.1), w.2)
  refine R_aload DX4_actOnWay_0 0 rfl ?_
  refine R_aload DX4_actOnWay_1 1 rfl ?_
  refine R_iload DX4_actOnWay_2 2 rfl ?_
  refine R_iload DX4_actOnWay_3 3 rfl ?_
  obtain ⟨r1, er1, h⟩ := bind_some h
  refine R_cV1 [.ref x1, .int x2, .int x3] DX4_actOnWay_4 kzvX4_cellsOf ml_RX4_96 ⟨Nat.le_of_ble_eq_true rfl, Nat.le_of_ble_eq_true rfl⟩ rfl (Nat.le_of_ble_eq_true rfl) (kX4_cellsOf er1) ?_
  refine R_astore [(7, .ref r1.1), (0, .ref x0), (1, .ref x1), (2, .int x2), (3, .int x3), (4, .int x4), (5, .int x5), (6, .int x6)] DX4_actOnWay_7 (by decide) rfl ?_
  refine R_iload DX4_actOnWay_9 7 rfl ?_
  refine R_constI DX4_actOnWay_11 ci_8 ?_
  refine R_imul DX4_actOnWay_13 ?_
  refine R_constI DX4_actOnWay_14 ci_8 ?_
  refine R_imul DX4_actOnWay_16 ?_
  refine R_iload DX4_actOnWay_17 6 rfl ?_
  refine R_iadd DX4_actOnWay_19 ?_
  obtain ⟨z2, ez2, h⟩ := lt_some h
  refine R_istoreE ez2 [(8, .int z2), (7, .ref r1.1), (0, .ref x0), (1, .ref x1), (2, .int x2), (3, .int x3), (4, .int x4), (5, .int x5), (6, .int x6)] DX4_actOnWay_20 (by decide) rfl ?_
  refine R_aload DX4_actOnWay_22 2 rfl ?_
  obtain ⟨v3, ev3, h⟩ := bind_some h
  refine R_gR DX4_actOnWay_23 fl_RX4_25 ev3 ?_
  refine R_iload DX4_actOnWay_26 5 rfl ?_
  refine R_iload DX4_actOnWay_27 4 rfl ?_
  refine R_iload DX4_actOnWay_28 0 rfl ?_
  obtain ⟨r4, er4, h⟩ := bind_some h
  refine R_cV1 [.int x3, .int x2, .int z2] DX4_actOnWay_30 kzvX1_knows ml_RX4_100 ⟨Nat.le_of_ble_eq_true rfl, Nat.le_of_ble_eq_true rfl⟩ rfl (Nat.le_of_ble_eq_true rfl) (kX1_knows er4) ?_
  by_cases c5 : r4.1 = 0
  · replace h := if_t h c5
    refine R_if_ne_f DX4_actOnWay_33 c5 ?_
    refine R_aload DX4_actOnWay_36 2 rfl ?_
    obtain ⟨v8, ev8, h⟩ := bind_some h
    refine R_gR DX4_actOnWay_37 fl_RX4_25 ev8 ?_
    refine R_aload DX4_actOnWay_40 2 rfl ?_
    obtain ⟨v9, ev9, h⟩ := bind_some h
    refine R_gR DX4_actOnWay_41 fl_RX4_11 ev9 ?_
    refine R_aload DX4_actOnWay_44 2 rfl ?_
    obtain ⟨v10, ev10, h⟩ := bind_some h
    refine R_gR DX4_actOnWay_45 fl_RX4_18 ev10 ?_
    obtain ⟨s11, es11, h⟩ := bind_some h
    refine R_cV0 [.ref v9, .ref v10] DX4_actOnWay_48 kzvX1_take ml_RX4_104 ⟨Nat.le_of_ble_eq_true rfl, Nat.le_of_ble_eq_true rfl⟩ rfl (Nat.le_of_ble_eq_true rfl) (kX1_take es11) ?_
    refine R_aload DX4_actOnWay_51 2 rfl ?_
    obtain ⟨v12, ev12, h⟩ := bind_some h
    refine R_gR DX4_actOnWay_52 fl_RX4_25 ev12 ?_
    refine R_aload DX4_actOnWay_55 3 rfl ?_
    refine R_iload DX4_actOnWay_56 4 rfl ?_
    refine R_aload DX4_actOnWay_57 1 rfl ?_
    refine R_iload DX4_actOnWay_59 7 rfl ?_
    refine R_iload DX4_actOnWay_61 8 rfl ?_
    obtain ⟨s13, es13, h⟩ := bind_some h
    refine R_cV0 [.ref x1, .int x2, .ref r1.1, .int x5, .int x6] DX4_actOnWay_63 kzvX1_find ml_RX4_108 ⟨Nat.le_of_ble_eq_true rfl, Nat.le_of_ble_eq_true rfl⟩ rfl (Nat.le_of_ble_eq_true rfl) (kX1_find es13) ?_
    refine R_aload DX4_actOnWay_66 2 rfl ?_
    obtain ⟨v14, ev14, h⟩ := bind_some h
    refine R_gR DX4_actOnWay_67 fl_RX4_25 ev14 ?_
    refine R_iload DX4_actOnWay_70 5 rfl ?_
    refine R_iload DX4_actOnWay_71 4 rfl ?_
    refine R_iload DX4_actOnWay_72 0 rfl ?_
    obtain ⟨s15, es15, h⟩ := bind_some h
    refine R_cV0 [.int x3, .int x2, .int z2] DX4_actOnWay_74 kzvX1_remember ml_RX4_112 ⟨Nat.le_of_ble_eq_true rfl, Nat.le_of_ble_eq_true rfl⟩ rfl (Nat.le_of_ble_eq_true rfl) (kX1_remember es15) ?_
    refine R.sub (L' := [(0, .ref x0), (4, .int x4)]) [2, 6] rfl ?_
    exact tX4_actOnWay_b77 h
  · replace h := if_f h c5
    refine R_if_ne_t DX4_actOnWay_33 c5 ?_
    refine R.sub (L' := [(0, .ref x0), (4, .int x4)]) [2, 6] rfl ?_
    exact tX4_actOnWay_b77 h
set_option maxRecDepth 8000 in
theorem kX5_init {G : Gm} {x0 : Nat} {s : Hp} {w : Hp} (h : fX5_init x0 s = some w) : (s.2.2 x0).1 = 5 ∧ Call G MX5_init [.ref x0] s (none, w) := by
  unfold fX5_init at h
  obtain ⟨_, e0, h⟩ := bind_some h
  refine ⟨ck_some e0, Call.of_R pnRX5 (Nat.le_of_ble_eq_true rfl) ?_⟩
  clear e0
  show R G MX5_init 0 [(0, .ref x0)] [] s (none, w)
  refine R_aload DX5_init_0 0 rfl ?_
  refine R_objInit DX5_init_1 oi_RX5_3 ⟨Nat.le_of_ble_eq_true rfl, Nat.le_of_ble_eq_true rfl⟩ ?_
  refine R_aload DX5_init_4 0 rfl ?_
  refine R_constI DX5_init_5 ci_60 ?_
  obtain ⟨s1, es1, h⟩ := bind_some h
  refine R_newa at21 aw21 DX5_init_7 es1 ?_
  obtain ⟨s2, es2, h⟩ := bind_some h
  refine R_pAF DX5_init_9 fl_RX5_9 ⟨rfl, _, rfl⟩ es2 ?_
  refine R_aload DX5_init_12 0 rfl ?_
  refine R_constI DX5_init_13 ci_m1 ?_
  obtain ⟨s3, es3, h⟩ := bind_some h
  refine R_pI DX5_init_14 fl_RX5_15 es3 ?_
  cases h
  exact R_return rfl DX5_init_17
set_option maxRecDepth 8000 in
theorem kX5_isThere {G : Gm} {x0 : Nat} {s : Hp} {w : Int32 × Hp} (h : fX5_isThere x0 s = some w) : (s.2.2 x0).1 = 5 ∧ Call G MX5_isThere [.ref x0] s (some (.int w.1), w.2) := by
  unfold fX5_isThere at h
  obtain ⟨_, e0, h⟩ := bind_some h
  refine ⟨ck_some e0, Call.of_R pnRX5 (Nat.le_of_ble_eq_true rfl) ?_⟩
  clear e0
  show R G MX5_isThere 0 [(0, .ref x0)] [] s (some (.int w.1), w.2)
  refine R_aload DX5_isThere_0 0 rfl ?_
  obtain ⟨v1, ev1, h⟩ := bind_some h
  refine R_gI DX5_isThere_1 fl_RX5_15 ev1 ?_
  by_cases c2 : v1 < 0
  · replace h := if_t h c2
    refine R_if_lt_t DX5_isThere_4 c2 ?_
    refine R_constI DX5_isThere_11 ci_0 ?_
    cases h
    exact R_zreturn rfl DX5_isThere_12 (by decide)
  · replace h := if_f h c2
    refine R_if_lt_f DX5_isThere_4 c2 ?_
    refine R_constI DX5_isThere_7 ci_1 ?_
    refine R_goto DX5_isThere_8 ?_
    cases h
    exact R_zreturn rfl DX5_isThere_12 (by decide)
set_option maxRecDepth 8000 in
theorem tX5_renew_l12 {G : Gm} {x0 : Nat} {o : Option Value × Hp} {a : Int32 × Hp} {w : (Int32 × Hp) ⊕ ((Hp))} (h : fX5_renew_l12 x0 a = some w) (hc : ∀ (q3 : Int32) (qs : Hp), w = .inl (q3, qs) → R G MX5_renew 12 [(0, .ref x0), (3, .int q3)] [] qs o) (he0 : ∀ (qs : Hp), w = .inr qs → R G MX5_renew 33 [] [] qs o) : R G MX5_renew 12 [(0, .ref x0), (3, .int a.1)] [] a.2 o := by
  unfold fX5_renew_l12 at h
  refine R_iload DX5_renew_12 1 rfl ?_
  refine R_aload DX5_renew_13 0 rfl ?_
  obtain ⟨v3, ev3, h⟩ := bind_some h
  refine R_gI DX5_renew_14 fl_RX5_15 ev3 ?_
  by_cases c4 : v3 ≤ a.1
  · replace h := if_t h c4
    refine R_icmp_ge_t DX5_renew_17 c4 ?_
    refine R.sub (L' := []) [] rfl ?_
    cases h
    exact he0 _ rfl
  · replace h := if_f h c4
    refine R_icmp_ge_f DX5_renew_17 c4 ?_
    refine R_aload DX5_renew_20 0 rfl ?_
    obtain ⟨v5, ev5, h⟩ := bind_some h
    refine R_gR DX5_renew_21 fl_RX5_9 ev5 ?_
    refine R_iload DX5_renew_24 1 rfl ?_
    refine R_lconst DX5_renew_25 ?_
    obtain ⟨s6, es6, h⟩ := bind_some h
    refine R_sL DX5_renew_26 es6 ?_
    refine R_iinc [(3, .int (a.1 + iI 1)), (0, .ref x0)] DX5_renew_27 1 rfl (v := a.1 + iI 1) (by rfl) (by decide) rfl ?_
    refine R_goto DX5_renew_30 ?_
    refine R.sub (L' := [(0, .ref x0), (3, .int (a.1 + iI 1))]) [1, 0] rfl ?_
    cases h
    exact hc _ _ rfl
set_option maxRecDepth 8000 in
theorem kX5_renew {G : Gm} {x0 : Nat} {x1 : Int32} {x2 : Int32} {s : Hp} {w : Hp} (h : fX5_renew x0 x1 x2 s = some w) : (s.2.2 x0).1 = 5 ∧ Call G MX5_renew [.ref x0, .int x1, .int x2] s (none, w) := by
  unfold fX5_renew at h
  obtain ⟨_, e0, h⟩ := bind_some h
  refine ⟨ck_some e0, Call.of_R pnRX5 (Nat.le_of_ble_eq_true rfl) ?_⟩
  clear e0
  show R G MX5_renew 0 [(0, .ref x0), (1, .int x1), (2, .int x2)] [] s (none, w)
  refine R_aload DX5_renew_0 0 rfl ?_
  refine R_iload DX5_renew_1 1 rfl ?_
  obtain ⟨s1, es1, h⟩ := bind_some h
  refine R_pI DX5_renew_2 fl_RX5_19 es1 ?_
  refine R_aload DX5_renew_5 0 rfl ?_
  refine R_iload DX5_renew_6 2 rfl ?_
  obtain ⟨s2, es2, h⟩ := bind_some h
  refine R_pI DX5_renew_7 fl_RX5_15 es2 ?_
  refine R_constI DX5_renew_10 ci_0 ?_
  refine R_istore [(3, .int (iI 0)), (0, .ref x0), (1, .int x1), (2, .int x2)] DX5_renew_11 (by decide) rfl ?_
  refine R.sub (L' := [(0, .ref x0), (3, .int (iI 0))]) [1, 0] rfl ?_
  obtain ⟨r7, hi, h⟩ := bind_some h
  have hE : (fun u12 : Hp => R G MX5_renew 33 [] [] u12 (none, w)) r7 → ∀ (q3 : Int32) (qs : Hp), iter (fX5_renew_l12 x0) FU (q3, qs) = some r7 → R G MX5_renew 12 [(0, .ref x0), (3, .int q3)] [] qs (none, w) := fun hX q3 qs hj => loop_R (fX5_renew_l12 x0) (fun p12 : Int32 × Hp => R G MX5_renew 12 [(0, .ref x0), (3, .int p12.1)] [] p12.2 (none, w)) (fun u12 : Hp => R G MX5_renew 33 [] [] u12 (none, w)) (fun a w hw hc he => tX5_renew_l12 hw (fun q3 qs e => hc (q3, qs) e) (fun qs e => he qs e)) FU (q3, qs) r7 hj hX
  refine hE ?_ _ _ hi
  clear hE hi
  cases h
  exact R_return rfl DX5_renew_33
set_option maxRecDepth 8000 in
theorem tX5_holds_b30 {G : Gm} {s : Hp} {w : Int32 × Hp} (h : fX5_holds_b30 s = some w) : R G MX5_holds 30 [] [] s (some (.int w.1), w.2) := by
  unfold fX5_holds_b30 at h
  refine R_constI DX5_holds_30 ci_0 ?_
  cases h
  exact R_zreturn rfl DX5_holds_31 (by decide)
set_option maxRecDepth 8000 in
theorem kX5_holds {G : Gm} {x0 : Nat} {x1 : Int32} {x2 : Int32} {s : Hp} {w : Int32 × Hp} (h : fX5_holds x0 x1 x2 s = some w) : (s.2.2 x0).1 = 5 ∧ Call G MX5_holds [.ref x0, .int x1, .int x2] s (some (.int w.1), w.2) := by
  unfold fX5_holds at h
  obtain ⟨_, e0, h⟩ := bind_some h
  refine ⟨ck_some e0, Call.of_R pnRX5 (Nat.le_of_ble_eq_true rfl) ?_⟩
  clear e0
  show R G MX5_holds 0 [(0, .ref x0), (1, .int x1), (2, .int x2)] [] s (some (.int w.1), w.2)
  refine R_iload DX5_holds_0 1 rfl ?_
  by_cases c1 : x1 < 0
  · replace h := if_t h c1
    refine R_if_lt_t DX5_holds_1 c1 ?_
    refine R.sub (L' := []) [] rfl ?_
    exact tX5_holds_b30 h
  · replace h := if_f h c1
    refine R_if_lt_f DX5_holds_1 c1 ?_
    refine R_iload DX5_holds_4 2 rfl ?_
    by_cases c2 : x2 < 0
    · replace h := if_t h c2
      refine R_if_lt_t DX5_holds_5 c2 ?_
      refine R.sub (L' := []) [] rfl ?_
      exact tX5_holds_b30 h
    · replace h := if_f h c2
      refine R_if_lt_f DX5_holds_5 c2 ?_
      refine R_iload DX5_holds_8 1 rfl ?_
      refine R_aload DX5_holds_9 0 rfl ?_
      obtain ⟨v3, ev3, h⟩ := bind_some h
      refine R_gI DX5_holds_10 fl_RX5_15 ev3 ?_
      by_cases c4 : v3 < x1
      · replace h := if_t h c4
        refine R_icmp_gt_t DX5_holds_13 c4 ?_
        refine R.sub (L' := []) [] rfl ?_
        exact tX5_holds_b30 h
      · replace h := if_f h c4
        refine R_icmp_gt_f DX5_holds_13 c4 ?_
        refine R_iload DX5_holds_16 2 rfl ?_
        refine R_aload DX5_holds_17 0 rfl ?_
        obtain ⟨v5, ev5, h⟩ := bind_some h
        refine R_gI DX5_holds_18 fl_RX5_15 ev5 ?_
        refine R_iload DX5_holds_21 1 rfl ?_
        refine R_isub DX5_holds_22 ?_
        by_cases c6 : (v5 - x1) < x2
        · replace h := if_t h c6
          refine R_icmp_gt_t DX5_holds_23 c6 ?_
          refine R.sub (L' := []) [] rfl ?_
          exact tX5_holds_b30 h
        · replace h := if_f h c6
          refine R_icmp_gt_f DX5_holds_23 c6 ?_
          refine R_constI DX5_holds_26 ci_1 ?_
          refine R_goto DX5_holds_27 ?_
          cases h
          exact R_zreturn rfl DX5_holds_31 (by decide)
set_option maxRecDepth 8000 in
theorem kX5_put {G : Gm} {x0 : Nat} {x1 : Int32} {x2 : Int64} {s : Hp} {w : Hp} (h : fX5_put x0 x1 x2 s = some w) : (s.2.2 x0).1 = 5 ∧ Call G MX5_put [.ref x0, .int x1, .long x2] s (none, w) := by
  unfold fX5_put at h
  obtain ⟨_, e0, h⟩ := bind_some h
  refine ⟨ck_some e0, Call.of_R pnRX5 (Nat.le_of_ble_eq_true rfl) ?_⟩
  clear e0
  show R G MX5_put 0 [(0, .ref x0), (1, .int x1), (2, .long x2)] [] s (none, w)
  refine R_aload DX5_put_0 0 rfl ?_
  obtain ⟨v1, ev1, h⟩ := bind_some h
  refine R_gI DX5_put_1 fl_RX5_19 ev1 ?_
  by_cases c2 : v1 = 0
  · replace h := if_t h c2
    refine R_if_ne_f DX5_put_4 c2 ?_
    refine R_aload DX5_put_7 0 rfl ?_
    obtain ⟨v13, ev13, h⟩ := bind_some h
    refine R_gR DX5_put_8 fl_RX5_9 ev13 ?_
    refine R_iload DX5_put_11 1 rfl ?_
    refine R_lload DX5_put_12 2 rfl ?_
    refine R_l2i DX5_put_13 ?_
    refine R_i2b DX5_put_14 ?_
    refine R_i2l DX5_put_15 ?_
    obtain ⟨s14, es14, h⟩ := bind_some h
    refine R_sL DX5_put_16 es14 ?_
    refine R_goto DX5_put_17 ?_
    cases h
    exact R_return rfl DX5_put_68
  · replace h := if_f h c2
    refine R_if_ne_t DX5_put_4 c2 ?_
    refine R_aload DX5_put_20 0 rfl ?_
    obtain ⟨v3, ev3, h⟩ := bind_some h
    refine R_gI DX5_put_21 fl_RX5_19 ev3 ?_
    refine R_constI DX5_put_24 ci_1 ?_
    by_cases c4 : v3 = (iI 1)
    · replace h := if_t h c4
      refine R_icmp_ne_f DX5_put_25 c4 ?_
      refine R_aload DX5_put_28 0 rfl ?_
      obtain ⟨v11, ev11, h⟩ := bind_some h
      refine R_gR DX5_put_29 fl_RX5_9 ev11 ?_
      refine R_iload DX5_put_32 1 rfl ?_
      refine R_lload DX5_put_33 2 rfl ?_
      refine R_l2i DX5_put_34 ?_
      refine R_i2s DX5_put_35 ?_
      refine R_i2l DX5_put_36 ?_
      obtain ⟨s12, es12, h⟩ := bind_some h
      refine R_sL DX5_put_37 es12 ?_
      refine R_goto DX5_put_38 ?_
      cases h
      exact R_return rfl DX5_put_68
    · replace h := if_f h c4
      refine R_icmp_ne_t DX5_put_25 c4 ?_
      refine R_aload DX5_put_41 0 rfl ?_
      obtain ⟨v5, ev5, h⟩ := bind_some h
      refine R_gI DX5_put_42 fl_RX5_19 ev5 ?_
      refine R_constI DX5_put_45 ci_2 ?_
      by_cases c6 : v5 = (iI 2)
      · replace h := if_t h c6
        refine R_icmp_ne_f DX5_put_46 c6 ?_
        refine R_aload DX5_put_49 0 rfl ?_
        obtain ⟨v9, ev9, h⟩ := bind_some h
        refine R_gR DX5_put_50 fl_RX5_9 ev9 ?_
        refine R_iload DX5_put_53 1 rfl ?_
        refine R_lload DX5_put_54 2 rfl ?_
        refine R_l2i DX5_put_55 ?_
        refine R_i2l DX5_put_56 ?_
        obtain ⟨s10, es10, h⟩ := bind_some h
        refine R_sL DX5_put_57 es10 ?_
        refine R_goto DX5_put_58 ?_
        cases h
        exact R_return rfl DX5_put_68
      · replace h := if_f h c6
        refine R_icmp_ne_t DX5_put_46 c6 ?_
        refine R_aload DX5_put_61 0 rfl ?_
        obtain ⟨v7, ev7, h⟩ := bind_some h
        refine R_gR DX5_put_62 fl_RX5_9 ev7 ?_
        refine R_iload DX5_put_65 1 rfl ?_
        refine R_lload DX5_put_66 2 rfl ?_
        obtain ⟨s8, es8, h⟩ := bind_some h
        refine R_sL DX5_put_67 es8 ?_
        cases h
        exact R_return rfl DX5_put_68
set_option maxRecDepth 8000 in
theorem kX5_copyTo {G : Gm} {x0 : Nat} {x1 : Int32} {x2 : Nat} {x3 : Int32} {x4 : Int32} {s : Hp} {w : Hp} (h : fX5_copyTo x0 x1 x2 x3 x4 s = some w) : (s.2.2 x0).1 = 5 ∧ Call G MX5_copyTo [.ref x0, .int x1, .ref x2, .int x3, .int x4] s (none, w) := by
  unfold fX5_copyTo at h
  obtain ⟨_, e0, h⟩ := bind_some h
  refine ⟨ck_some e0, Call.of_R pnRX5 (Nat.le_of_ble_eq_true rfl) ?_⟩
  clear e0
  show R G MX5_copyTo 0 [(0, .ref x0), (1, .int x1), (2, .ref x2), (3, .int x3), (4, .int x4)] [] s (none, w)
  refine R_aload DX5_copyTo_0 0 rfl ?_
  obtain ⟨v1, ev1, h⟩ := bind_some h
  refine R_gR DX5_copyTo_1 fl_RX5_9 ev1 ?_
  refine R_iload DX5_copyTo_4 1 rfl ?_
  refine R_aload DX5_copyTo_5 2 rfl ?_
  obtain ⟨v2, ev2, h⟩ := bind_some h
  refine R_gR DX5_copyTo_6 fl_RX5_9 ev2 ?_
  refine R_iload DX5_copyTo_9 3 rfl ?_
  refine R_iload DX5_copyTo_10 4 rfl ?_
  obtain ⟨s3, es3, h⟩ := bind_some h
  refine R_cpyL DX5_copyTo_12 wc_RX5_22 ⟨Nat.le_of_ble_eq_true rfl, Nat.le_of_ble_eq_true rfl⟩ es3 ?_
  cases h
  exact R_return rfl DX5_copyTo_15
set_option maxRecDepth 8000 in
theorem tX5_keepsWithin_b15 {G : Gm} {s : Hp} {w : Int32 × Hp} (h : fX5_keepsWithin_b15 s = some w) : R G MX5_keepsWithin 15 [] [] s (some (.int w.1), w.2) := by
  unfold fX5_keepsWithin_b15 at h
  refine R_constI DX5_keepsWithin_15 ci_0 ?_
  cases h
  exact R_zreturn rfl DX5_keepsWithin_16 (by decide)
set_option maxRecDepth 8000 in
theorem tX5_keepsWithin_l19 {G : Gm} {x0 : Nat} {x1 : Nat} {o : Option Value × Hp} {a : Int32 × Hp} {w : (Int32 × Hp) ⊕ ((Hp) ⊕ (Hp))} (h : fX5_keepsWithin_l19 x0 x1 a = some w) (hc : ∀ (q2 : Int32) (qs : Hp), w = .inl (q2, qs) → R G MX5_keepsWithin 19 [(0, .ref x0), (1, .ref x1), (2, .int q2)] [] qs o) (he0 : ∀ (qs : Hp), w = .inr (.inl qs) → R G MX5_keepsWithin 63 [] [] qs o) (he1 : ∀ (qs : Hp), w = .inr (.inr qs) → R G MX5_keepsWithin 55 [] [] qs o) : R G MX5_keepsWithin 19 [(0, .ref x0), (1, .ref x1), (2, .int a.1)] [] a.2 o := by
  unfold fX5_keepsWithin_l19 at h
  refine R_iload DX5_keepsWithin_19 2 rfl ?_
  refine R_aload DX5_keepsWithin_20 0 rfl ?_
  obtain ⟨v7, ev7, h⟩ := bind_some h
  refine R_gI DX5_keepsWithin_21 fl_RX5_15 ev7 ?_
  by_cases c8 : v7 ≤ a.1
  · replace h := if_t h c8
    refine R_icmp_ge_t DX5_keepsWithin_24 c8 ?_
    refine R.sub (L' := []) [] rfl ?_
    cases h
    exact he0 _ rfl
  · replace h := if_f h c8
    refine R_icmp_ge_f DX5_keepsWithin_24 c8 ?_
    refine R_aload DX5_keepsWithin_27 0 rfl ?_
    obtain ⟨v9, ev9, h⟩ := bind_some h
    refine R_gR DX5_keepsWithin_28 fl_RX5_9 ev9 ?_
    refine R_iload DX5_keepsWithin_31 2 rfl ?_
    obtain ⟨v10, ev10, h⟩ := bind_some h
    refine R_aL DX5_keepsWithin_32 ev10 ?_
    refine R_lconst DX5_keepsWithin_33 ?_
    refine R_lcmp DX5_keepsWithin_34 ?_
    by_cases c11 : (lg_cmp v10 0) < 0
    · replace h := if_t h c11
      refine R_if_lt_t DX5_keepsWithin_35 c11 ?_
      refine R.sub (L' := []) [] rfl ?_
      cases h
      exact he1 _ rfl
    · replace h := if_f h c11
      refine R_if_lt_f DX5_keepsWithin_35 c11 ?_
      refine R_aload DX5_keepsWithin_38 0 rfl ?_
      obtain ⟨v12, ev12, h⟩ := bind_some h
      refine R_gR DX5_keepsWithin_39 fl_RX5_9 ev12 ?_
      refine R_iload DX5_keepsWithin_42 2 rfl ?_
      obtain ⟨v13, ev13, h⟩ := bind_some h
      refine R_aL DX5_keepsWithin_43 ev13 ?_
      refine R_aload DX5_keepsWithin_44 1 rfl ?_
      refine R_iload DX5_keepsWithin_45 2 rfl ?_
      refine R_aload DX5_keepsWithin_46 1 rfl ?_
      obtain ⟨v14, ev14, h⟩ := bind_some h
      refine R_aN DX5_keepsWithin_47 ev14 ?_
      obtain ⟨v15, ev15, h⟩ := bind_some h
      refine R_mI DX5_keepsWithin_48 ev15 ?_
      obtain ⟨v16, ev16, h⟩ := bind_some h
      refine R_aI DX5_keepsWithin_49 ev16 ?_
      refine R_i2l DX5_keepsWithin_50 ?_
      refine R_lcmp DX5_keepsWithin_51 ?_
      by_cases c17 : (lg_cmp v13 (Int32.toInt64 v16)) < 0
      · replace h := if_t h c17
        refine R_if_lt_t DX5_keepsWithin_52 c17 ?_
        refine R_iinc [(2, .int (a.1 + iI 1)), (0, .ref x0), (1, .ref x1)] DX5_keepsWithin_57 2 rfl (v := a.1 + iI 1) (by rfl) (by decide) rfl ?_
        refine R_goto DX5_keepsWithin_60 ?_
        refine R.sub (L' := [(0, .ref x0), (1, .ref x1), (2, .int (a.1 + iI 1))]) [1, 2, 0] rfl ?_
        cases h
        exact hc _ _ rfl
      · replace h := if_f h c17
        refine R_if_lt_f DX5_keepsWithin_52 c17 ?_
        refine R.sub (L' := []) [] rfl ?_
        cases h
        exact he1 _ rfl
set_option maxRecDepth 8000 in
theorem tX5_keepsWithin_b55 {G : Gm} {s : Hp} {w : Int32 × Hp} (h : fX5_keepsWithin_b55 s = some w) : R G MX5_keepsWithin 55 [] [] s (some (.int w.1), w.2) := by
  unfold fX5_keepsWithin_b55 at h
  refine R_constI DX5_keepsWithin_55 ci_0 ?_
  cases h
  exact R_zreturn rfl DX5_keepsWithin_56 (by decide)
set_option maxRecDepth 8000 in
theorem kX5_keepsWithin {G : Gm} {x0 : Nat} {x1 : Nat} {s : Hp} {w : Int32 × Hp} (h : fX5_keepsWithin x0 x1 s = some w) : (s.2.2 x0).1 = 5 ∧ Call G MX5_keepsWithin [.ref x0, .ref x1] s (some (.int w.1), w.2) := by
  unfold fX5_keepsWithin at h
  obtain ⟨_, e0, h⟩ := bind_some h
  refine ⟨ck_some e0, Call.of_R pnRX5 (Nat.le_of_ble_eq_true rfl) ?_⟩
  clear e0
  show R G MX5_keepsWithin 0 [(0, .ref x0), (1, .ref x1)] [] s (some (.int w.1), w.2)
  refine R_aload DX5_keepsWithin_0 1 rfl ?_
  obtain ⟨v1, ev1, h⟩ := bind_some h
  refine R_aN DX5_keepsWithin_1 ev1 ?_
  by_cases c2 : v1 = 0
  · replace h := if_t h c2
    refine R_if_eq_t DX5_keepsWithin_2 c2 ?_
    refine R.sub (L' := []) [] rfl ?_
    exact tX5_keepsWithin_b15 h
  · replace h := if_f h c2
    refine R_if_eq_f DX5_keepsWithin_2 c2 ?_
    refine R_aload DX5_keepsWithin_5 0 rfl ?_
    obtain ⟨v3, ev3, h⟩ := bind_some h
    refine R_gI DX5_keepsWithin_6 fl_RX5_15 ev3 ?_
    refine R_aload DX5_keepsWithin_9 1 rfl ?_
    obtain ⟨v4, ev4, h⟩ := bind_some h
    refine R_aN DX5_keepsWithin_10 ev4 ?_
    obtain ⟨v5, ev5, h⟩ := bind_some h
    refine R_mI DX5_keepsWithin_11 ev5 ?_
    by_cases c6 : v5 = 0
    · replace h := if_t h c6
      refine R_if_eq_t DX5_keepsWithin_12 c6 ?_
      refine R_constI DX5_keepsWithin_17 ci_0 ?_
      refine R_istore [(2, .int (iI 0)), (0, .ref x0), (1, .ref x1)] DX5_keepsWithin_18 (by decide) rfl ?_
      refine R.sub (L' := [(0, .ref x0), (1, .ref x1), (2, .int (iI 0))]) [1, 2, 0] rfl ?_
      obtain ⟨r18, hi, h⟩ := bind_some h
      have hE : (Sum.elim (fun u19 : Hp => R G MX5_keepsWithin 63 [] [] u19 (some (.int w.1), w.2)) (fun u19 : Hp => R G MX5_keepsWithin 55 [] [] u19 (some (.int w.1), w.2))) r18 → ∀ (q2 : Int32) (qs : Hp), iter (fX5_keepsWithin_l19 x0 x1) FU (q2, qs) = some r18 → R G MX5_keepsWithin 19 [(0, .ref x0), (1, .ref x1), (2, .int q2)] [] qs (some (.int w.1), w.2) := fun hX q2 qs hj => loop_R (fX5_keepsWithin_l19 x0 x1) (fun p19 : Int32 × Hp => R G MX5_keepsWithin 19 [(0, .ref x0), (1, .ref x1), (2, .int p19.1)] [] p19.2 (some (.int w.1), w.2)) (Sum.elim (fun u19 : Hp => R G MX5_keepsWithin 63 [] [] u19 (some (.int w.1), w.2)) (fun u19 : Hp => R G MX5_keepsWithin 55 [] [] u19 (some (.int w.1), w.2))) (fun a w hw hc he => tX5_keepsWithin_l19 hw (fun q2 qs e => hc (q2, qs) e) (fun qs e => he (.inl qs) e) (fun qs e => he (.inr qs) e)) FU (q2, qs) r18 hj hX
      refine hE ?_ _ _ hi
      clear hE hi
      rcases r18 with r18a | r18b
      · replace h := el_l h
        refine R_constI DX5_keepsWithin_63 ci_1 ?_
        cases h
        exact R_zreturn rfl DX5_keepsWithin_64 (by decide)
      replace h := el_r h
      exact tX5_keepsWithin_b55 h
    · replace h := if_f h c6
      refine R_if_eq_f DX5_keepsWithin_12 c6 ?_
      refine R.sub (L' := []) [] rfl ?_
      exact tX5_keepsWithin_b15 h
set_option maxRecDepth 8000 in
theorem kX5_at {G : Gm} {x0 : Nat} {x1 : Int32} {s : Hp} {w : Int32 × Hp} (h : fX5_at x0 x1 s = some w) : (s.2.2 x0).1 = 5 ∧ Call G MX5_at [.ref x0, .int x1] s (some (.int w.1), w.2) := by
  unfold fX5_at at h
  obtain ⟨_, e0, h⟩ := bind_some h
  refine ⟨ck_some e0, Call.of_R pnRX5 (Nat.le_of_ble_eq_true rfl) ?_⟩
  clear e0
  show R G MX5_at 0 [(0, .ref x0), (1, .int x1)] [] s (some (.int w.1), w.2)
  refine R_aload DX5_at_0 0 rfl ?_
  obtain ⟨v1, ev1, h⟩ := bind_some h
  refine R_gR DX5_at_1 fl_RX5_9 ev1 ?_
  refine R_iload DX5_at_4 1 rfl ?_
  obtain ⟨v2, ev2, h⟩ := bind_some h
  refine R_aL DX5_at_5 ev2 ?_
  refine R_l2i DX5_at_6 ?_
  cases h
  exact R_ireturn rfl DX5_at_7
set_option maxRecDepth 8000 in
theorem kX6_init {G : Gm} {x0 : Nat} {s : Hp} {w : Hp} (h : fX6_init x0 s = some w) : (s.2.2 x0).1 = 6 ∧ Call G MX6_init [.ref x0] s (none, w) := by
  unfold fX6_init at h
  obtain ⟨_, e0, h⟩ := bind_some h
  refine ⟨ck_some e0, Call.of_R pnRX6 (Nat.le_of_ble_eq_true rfl) ?_⟩
  clear e0
  show R G MX6_init 0 [(0, .ref x0)] [] s (none, w)
  refine R_aload DX6_init_0 0 rfl ?_
  refine R_objInit DX6_init_1 oi_RX6_3 ⟨Nat.le_of_ble_eq_true rfl, Nat.le_of_ble_eq_true rfl⟩ ?_
  refine R_aload DX6_init_4 0 rfl ?_
  refine R_constI DX6_init_5 ci_m1 ?_
  obtain ⟨s1, es1, h⟩ := bind_some h
  refine R_pI DX6_init_6 fl_RX6_9 es1 ?_
  refine R_aload DX6_init_9 0 rfl ?_
  refine R_constI DX6_init_10 ci_120 ?_
  obtain ⟨s2, es2, h⟩ := bind_some h
  refine R_newa at20 aw20 DX6_init_12 es2 ?_
  obtain ⟨s3, es3, h⟩ := bind_some h
  refine R_pAF DX6_init_14 fl_RX6_15 ⟨rfl, _, rfl⟩ es3 ?_
  refine R_aload DX6_init_17 0 rfl ?_
  refine R_constI DX6_init_18 ci_24 ?_
  obtain ⟨s4, es4, h⟩ := bind_some h
  refine R_newa at20 aw20 DX6_init_20 es4 ?_
  obtain ⟨s5, es5, h⟩ := bind_some h
  refine R_pAF DX6_init_22 fl_RX6_19 ⟨rfl, _, rfl⟩ es5 ?_
  refine R_aload DX6_init_25 0 rfl ?_
  refine R_constI DX6_init_26 ci_15 ?_
  obtain ⟨s6, es6, h⟩ := bind_some h
  refine R_newa at20 aw20 DX6_init_28 es6 ?_
  obtain ⟨s7, es7, h⟩ := bind_some h
  refine R_pAF DX6_init_30 fl_RX6_22 ⟨rfl, _, rfl⟩ es7 ?_
  refine R_aload DX6_init_33 0 rfl ?_
  refine R_constI DX6_init_34 ci_96 ?_
  obtain ⟨s8, es8, h⟩ := bind_some h
  refine R_newa at20 aw20 DX6_init_36 es8 ?_
  obtain ⟨s9, es9, h⟩ := bind_some h
  refine R_pAF DX6_init_38 fl_RX6_25 ⟨rfl, _, rfl⟩ es9 ?_
  refine R_aload DX6_init_41 0 rfl ?_
  refine R_constI DX6_init_42 ci_240 ?_
  obtain ⟨s10, es10, h⟩ := bind_some h
  refine R_newa at20 aw20 DX6_init_45 es10 ?_
  obtain ⟨s11, es11, h⟩ := bind_some h
  refine R_pAF DX6_init_47 fl_RX6_28 ⟨rfl, _, rfl⟩ es11 ?_
  cases h
  exact R_return rfl DX6_init_50
set_option maxRecDepth 8000 in
theorem kX6_stands {G : Gm} {x0 : Nat} {s : Hp} {w : Int32 × Hp} (h : fX6_stands x0 s = some w) : (s.2.2 x0).1 = 6 ∧ Call G MX6_stands [.ref x0] s (some (.int w.1), w.2) := by
  unfold fX6_stands at h
  obtain ⟨_, e0, h⟩ := bind_some h
  refine ⟨ck_some e0, Call.of_R pnRX6 (Nat.le_of_ble_eq_true rfl) ?_⟩
  clear e0
  show R G MX6_stands 0 [(0, .ref x0)] [] s (some (.int w.1), w.2)
  refine R_aload DX6_stands_0 0 rfl ?_
  obtain ⟨v1, ev1, h⟩ := bind_some h
  refine R_gI DX6_stands_1 fl_RX6_31 ev1 ?_
  by_cases c2 : v1 ≤ 0
  · replace h := if_t h c2
    refine R_if_le_t DX6_stands_4 c2 ?_
    refine R_constI DX6_stands_11 ci_0 ?_
    cases h
    exact R_zreturn rfl DX6_stands_12 (by decide)
  · replace h := if_f h c2
    refine R_if_le_f DX6_stands_4 c2 ?_
    refine R_constI DX6_stands_7 ci_1 ?_
    refine R_goto DX6_stands_8 ?_
    cases h
    exact R_zreturn rfl DX6_stands_12 (by decide)
set_option maxRecDepth 8000 in
theorem tX6_hasShop_b16 {G : Gm} {s : Hp} {w : Int32 × Hp} (h : fX6_hasShop_b16 s = some w) : R G MX6_hasShop 16 [] [] s (some (.int w.1), w.2) := by
  unfold fX6_hasShop_b16 at h
  refine R_constI DX6_hasShop_16 ci_0 ?_
  cases h
  exact R_zreturn rfl DX6_hasShop_17 (by decide)
set_option maxRecDepth 8000 in
theorem kX6_hasShop {G : Gm} {x0 : Nat} {x1 : Int32} {s : Hp} {w : Int32 × Hp} (h : fX6_hasShop x0 x1 s = some w) : (s.2.2 x0).1 = 6 ∧ Call G MX6_hasShop [.ref x0, .int x1] s (some (.int w.1), w.2) := by
  unfold fX6_hasShop at h
  obtain ⟨_, e0, h⟩ := bind_some h
  refine ⟨ck_some e0, Call.of_R pnRX6 (Nat.le_of_ble_eq_true rfl) ?_⟩
  clear e0
  show R G MX6_hasShop 0 [(0, .ref x0), (1, .int x1)] [] s (some (.int w.1), w.2)
  refine R_iload DX6_hasShop_0 1 rfl ?_
  by_cases c1 : x1 < 0
  · replace h := if_t h c1
    refine R_if_lt_t DX6_hasShop_1 c1 ?_
    refine R.sub (L' := []) [] rfl ?_
    exact tX6_hasShop_b16 h
  · replace h := if_f h c1
    refine R_if_lt_f DX6_hasShop_1 c1 ?_
    refine R_iload DX6_hasShop_4 1 rfl ?_
    refine R_aload DX6_hasShop_5 0 rfl ?_
    obtain ⟨v2, ev2, h⟩ := bind_some h
    refine R_gI DX6_hasShop_6 fl_RX6_34 ev2 ?_
    by_cases c3 : v2 ≤ x1
    · replace h := if_t h c3
      refine R_icmp_ge_t DX6_hasShop_9 c3 ?_
      refine R.sub (L' := []) [] rfl ?_
      exact tX6_hasShop_b16 h
    · replace h := if_f h c3
      refine R_icmp_ge_f DX6_hasShop_9 c3 ?_
      refine R_constI DX6_hasShop_12 ci_1 ?_
      refine R_goto DX6_hasShop_13 ?_
      cases h
      exact R_zreturn rfl DX6_hasShop_17 (by decide)
set_option maxRecDepth 8000 in
theorem tX6_hasTwoShops_b25 {G : Gm} {s : Hp} {w : Int32 × Hp} (h : fX6_hasTwoShops_b25 s = some w) : R G MX6_hasTwoShops 25 [] [] s (some (.int w.1), w.2) := by
  unfold fX6_hasTwoShops_b25 at h
  refine R_constI DX6_hasTwoShops_25 ci_0 ?_
  cases h
  exact R_zreturn rfl DX6_hasTwoShops_26 (by decide)
set_option maxRecDepth 8000 in
theorem kX6_hasTwoShops {G : Gm} {x0 : Nat} {x1 : Int32} {x2 : Int32} {s : Hp} {w : Int32 × Hp} (h : fX6_hasTwoShops x0 x1 x2 s = some w) : (s.2.2 x0).1 = 6 ∧ Call G MX6_hasTwoShops [.ref x0, .int x1, .int x2] s (some (.int w.1), w.2) := by
  unfold fX6_hasTwoShops at h
  obtain ⟨_, e0, h⟩ := bind_some h
  refine ⟨ck_some e0, Call.of_R pnRX6 (Nat.le_of_ble_eq_true rfl) ?_⟩
  clear e0
  show R G MX6_hasTwoShops 0 [(0, .ref x0), (1, .int x1), (2, .int x2)] [] s (some (.int w.1), w.2)
  refine R_aload DX6_hasTwoShops_0 0 rfl ?_
  refine R_iload DX6_hasTwoShops_1 1 rfl ?_
  obtain ⟨r1, er1, h⟩ := bind_some h
  refine R_cV1 [.int x1] DX6_hasTwoShops_2 kzvX6_hasShop ml_RX6_37 ⟨Nat.le_of_ble_eq_true rfl, Nat.le_of_ble_eq_true rfl⟩ rfl (Nat.le_of_ble_eq_true rfl) (kX6_hasShop er1) ?_
  by_cases c2 : r1.1 = 0
  · replace h := if_t h c2
    refine R_if_eq_t DX6_hasTwoShops_5 c2 ?_
    refine R.sub (L' := []) [] rfl ?_
    exact tX6_hasTwoShops_b25 h
  · replace h := if_f h c2
    refine R_if_eq_f DX6_hasTwoShops_5 c2 ?_
    refine R_aload DX6_hasTwoShops_8 0 rfl ?_
    refine R_iload DX6_hasTwoShops_9 2 rfl ?_
    obtain ⟨r3, er3, h⟩ := bind_some h
    refine R_cV1 [.int x2] DX6_hasTwoShops_10 kzvX6_hasShop ml_RX6_37 ⟨Nat.le_of_ble_eq_true rfl, Nat.le_of_ble_eq_true rfl⟩ rfl (Nat.le_of_ble_eq_true rfl) (kX6_hasShop er3) ?_
    by_cases c4 : r3.1 = 0
    · replace h := if_t h c4
      refine R_if_eq_t DX6_hasTwoShops_13 c4 ?_
      refine R.sub (L' := []) [] rfl ?_
      exact tX6_hasTwoShops_b25 h
    · replace h := if_f h c4
      refine R_if_eq_f DX6_hasTwoShops_13 c4 ?_
      refine R_iload DX6_hasTwoShops_16 1 rfl ?_
      refine R_iload DX6_hasTwoShops_17 2 rfl ?_
      by_cases c5 : x1 = x2
      · replace h := if_t h c5
        refine R_icmp_eq_t DX6_hasTwoShops_18 c5 ?_
        refine R.sub (L' := []) [] rfl ?_
        exact tX6_hasTwoShops_b25 h
      · replace h := if_f h c5
        refine R_icmp_eq_f DX6_hasTwoShops_18 c5 ?_
        refine R_constI DX6_hasTwoShops_21 ci_1 ?_
        refine R_goto DX6_hasTwoShops_22 ?_
        cases h
        exact R_zreturn rfl DX6_hasTwoShops_26 (by decide)
set_option maxRecDepth 8000 in
theorem tX6_hasDoor_b16 {G : Gm} {s : Hp} {w : Int32 × Hp} (h : fX6_hasDoor_b16 s = some w) : R G MX6_hasDoor 16 [] [] s (some (.int w.1), w.2) := by
  unfold fX6_hasDoor_b16 at h
  refine R_constI DX6_hasDoor_16 ci_0 ?_
  cases h
  exact R_zreturn rfl DX6_hasDoor_17 (by decide)
set_option maxRecDepth 8000 in
theorem kX6_hasDoor {G : Gm} {x0 : Nat} {x1 : Int32} {s : Hp} {w : Int32 × Hp} (h : fX6_hasDoor x0 x1 s = some w) : (s.2.2 x0).1 = 6 ∧ Call G MX6_hasDoor [.ref x0, .int x1] s (some (.int w.1), w.2) := by
  unfold fX6_hasDoor at h
  obtain ⟨_, e0, h⟩ := bind_some h
  refine ⟨ck_some e0, Call.of_R pnRX6 (Nat.le_of_ble_eq_true rfl) ?_⟩
  clear e0
  show R G MX6_hasDoor 0 [(0, .ref x0), (1, .int x1)] [] s (some (.int w.1), w.2)
  refine R_iload DX6_hasDoor_0 1 rfl ?_
  by_cases c1 : x1 < 0
  · replace h := if_t h c1
    refine R_if_lt_t DX6_hasDoor_1 c1 ?_
    refine R.sub (L' := []) [] rfl ?_
    exact tX6_hasDoor_b16 h
  · replace h := if_f h c1
    refine R_if_lt_f DX6_hasDoor_1 c1 ?_
    refine R_iload DX6_hasDoor_4 1 rfl ?_
    refine R_aload DX6_hasDoor_5 0 rfl ?_
    obtain ⟨v2, ev2, h⟩ := bind_some h
    refine R_gI DX6_hasDoor_6 fl_RX6_41 ev2 ?_
    by_cases c3 : v2 ≤ x1
    · replace h := if_t h c3
      refine R_icmp_ge_t DX6_hasDoor_9 c3 ?_
      refine R.sub (L' := []) [] rfl ?_
      exact tX6_hasDoor_b16 h
    · replace h := if_f h c3
      refine R_icmp_ge_f DX6_hasDoor_9 c3 ?_
      refine R_constI DX6_hasDoor_12 ci_1 ?_
      refine R_goto DX6_hasDoor_13 ?_
      cases h
      exact R_zreturn rfl DX6_hasDoor_17 (by decide)
set_option maxRecDepth 8000 in
theorem tX6_hasDoors_b18 {G : Gm} {s : Hp} {w : Int32 × Hp} (h : fX6_hasDoors_b18 s = some w) : R G MX6_hasDoors 18 [] [] s (some (.int w.1), w.2) := by
  unfold fX6_hasDoors_b18 at h
  refine R_constI DX6_hasDoors_18 ci_0 ?_
  cases h
  exact R_zreturn rfl DX6_hasDoors_19 (by decide)
set_option maxRecDepth 8000 in
theorem kX6_hasDoors {G : Gm} {x0 : Nat} {x1 : Int32} {s : Hp} {w : Int32 × Hp} (h : fX6_hasDoors x0 x1 s = some w) : (s.2.2 x0).1 = 6 ∧ Call G MX6_hasDoors [.ref x0, .int x1] s (some (.int w.1), w.2) := by
  unfold fX6_hasDoors at h
  obtain ⟨_, e0, h⟩ := bind_some h
  refine ⟨ck_some e0, Call.of_R pnRX6 (Nat.le_of_ble_eq_true rfl) ?_⟩
  clear e0
  show R G MX6_hasDoors 0 [(0, .ref x0), (1, .int x1)] [] s (some (.int w.1), w.2)
  refine R_iload DX6_hasDoors_0 1 rfl ?_
  by_cases c1 : x1 < 0
  · replace h := if_t h c1
    refine R_if_lt_t DX6_hasDoors_1 c1 ?_
    refine R.sub (L' := []) [] rfl ?_
    exact tX6_hasDoors_b18 h
  · replace h := if_f h c1
    refine R_if_lt_f DX6_hasDoors_1 c1 ?_
    refine R_iload DX6_hasDoors_4 1 rfl ?_
    refine R_constI DX6_hasDoors_5 ci_1 ?_
    refine R_aload DX6_hasDoors_6 0 rfl ?_
    obtain ⟨v2, ev2, h⟩ := bind_some h
    refine R_gI DX6_hasDoors_7 fl_RX6_41 ev2 ?_
    refine R_ishl DX6_hasDoors_10 ?_
    by_cases c3 : (ish (iI 1) v2) ≤ x1
    · replace h := if_t h c3
      refine R_icmp_ge_t DX6_hasDoors_11 c3 ?_
      refine R.sub (L' := []) [] rfl ?_
      exact tX6_hasDoors_b18 h
    · replace h := if_f h c3
      refine R_icmp_ge_f DX6_hasDoors_11 c3 ?_
      refine R_constI DX6_hasDoors_14 ci_1 ?_
      refine R_goto DX6_hasDoors_15 ?_
      cases h
      exact R_zreturn rfl DX6_hasDoors_19 (by decide)
set_option maxRecDepth 8000 in
theorem tX6_hasLayer_b16 {G : Gm} {s : Hp} {w : Int32 × Hp} (h : fX6_hasLayer_b16 s = some w) : R G MX6_hasLayer 16 [] [] s (some (.int w.1), w.2) := by
  unfold fX6_hasLayer_b16 at h
  refine R_constI DX6_hasLayer_16 ci_0 ?_
  cases h
  exact R_zreturn rfl DX6_hasLayer_17 (by decide)
set_option maxRecDepth 8000 in
theorem kX6_hasLayer {G : Gm} {x0 : Nat} {x1 : Int32} {s : Hp} {w : Int32 × Hp} (h : fX6_hasLayer x0 x1 s = some w) : (s.2.2 x0).1 = 6 ∧ Call G MX6_hasLayer [.ref x0, .int x1] s (some (.int w.1), w.2) := by
  unfold fX6_hasLayer at h
  obtain ⟨_, e0, h⟩ := bind_some h
  refine ⟨ck_some e0, Call.of_R pnRX6 (Nat.le_of_ble_eq_true rfl) ?_⟩
  clear e0
  show R G MX6_hasLayer 0 [(0, .ref x0), (1, .int x1)] [] s (some (.int w.1), w.2)
  refine R_iload DX6_hasLayer_0 1 rfl ?_
  by_cases c1 : x1 < 0
  · replace h := if_t h c1
    refine R_if_lt_t DX6_hasLayer_1 c1 ?_
    refine R.sub (L' := []) [] rfl ?_
    exact tX6_hasLayer_b16 h
  · replace h := if_f h c1
    refine R_if_lt_f DX6_hasLayer_1 c1 ?_
    refine R_iload DX6_hasLayer_4 1 rfl ?_
    refine R_aload DX6_hasLayer_5 0 rfl ?_
    obtain ⟨v2, ev2, h⟩ := bind_some h
    refine R_gI DX6_hasLayer_6 fl_RX6_44 ev2 ?_
    by_cases c3 : v2 ≤ x1
    · replace h := if_t h c3
      refine R_icmp_ge_t DX6_hasLayer_9 c3 ?_
      refine R.sub (L' := []) [] rfl ?_
      exact tX6_hasLayer_b16 h
    · replace h := if_f h c3
      refine R_icmp_ge_f DX6_hasLayer_9 c3 ?_
      refine R_constI DX6_hasLayer_12 ci_1 ?_
      refine R_goto DX6_hasLayer_13 ?_
      cases h
      exact R_zreturn rfl DX6_hasLayer_17 (by decide)
set_option maxRecDepth 8000 in
theorem tX6_hasHour_b16 {G : Gm} {s : Hp} {w : Int32 × Hp} (h : fX6_hasHour_b16 s = some w) : R G MX6_hasHour 16 [] [] s (some (.int w.1), w.2) := by
  unfold fX6_hasHour_b16 at h
  refine R_constI DX6_hasHour_16 ci_0 ?_
  cases h
  exact R_zreturn rfl DX6_hasHour_17 (by decide)
set_option maxRecDepth 8000 in
theorem kX6_hasHour {G : Gm} {x0 : Nat} {x1 : Int32} {s : Hp} {w : Int32 × Hp} (h : fX6_hasHour x0 x1 s = some w) : (s.2.2 x0).1 = 6 ∧ Call G MX6_hasHour [.ref x0, .int x1] s (some (.int w.1), w.2) := by
  unfold fX6_hasHour at h
  obtain ⟨_, e0, h⟩ := bind_some h
  refine ⟨ck_some e0, Call.of_R pnRX6 (Nat.le_of_ble_eq_true rfl) ?_⟩
  clear e0
  show R G MX6_hasHour 0 [(0, .ref x0), (1, .int x1)] [] s (some (.int w.1), w.2)
  refine R_iload DX6_hasHour_0 1 rfl ?_
  by_cases c1 : x1 < 0
  · replace h := if_t h c1
    refine R_if_lt_t DX6_hasHour_1 c1 ?_
    refine R.sub (L' := []) [] rfl ?_
    exact tX6_hasHour_b16 h
  · replace h := if_f h c1
    refine R_if_lt_f DX6_hasHour_1 c1 ?_
    refine R_iload DX6_hasHour_4 1 rfl ?_
    refine R_aload DX6_hasHour_5 0 rfl ?_
    obtain ⟨v2, ev2, h⟩ := bind_some h
    refine R_gI DX6_hasHour_6 fl_RX6_47 ev2 ?_
    by_cases c3 : v2 ≤ x1
    · replace h := if_t h c3
      refine R_icmp_ge_t DX6_hasHour_9 c3 ?_
      refine R.sub (L' := []) [] rfl ?_
      exact tX6_hasHour_b16 h
    · replace h := if_f h c3
      refine R_icmp_ge_f DX6_hasHour_9 c3 ?_
      refine R_constI DX6_hasHour_12 ci_1 ?_
      refine R_goto DX6_hasHour_13 ?_
      cases h
      exact R_zreturn rfl DX6_hasHour_17 (by decide)
set_option maxRecDepth 8000 in
theorem kX6_actAt {G : Gm} {x0 : Nat} {x1 : Int32} {x2 : Int32} {s : Hp} {w : Int32 × Hp} (h : fX6_actAt x0 x1 x2 s = some w) : (s.2.2 x0).1 = 6 ∧ Call G MX6_actAt [.ref x0, .int x1, .int x2] s (some (.int w.1), w.2) := by
  unfold fX6_actAt at h
  obtain ⟨_, e0, h⟩ := bind_some h
  refine ⟨ck_some e0, Call.of_R pnRX6 (Nat.le_of_ble_eq_true rfl) ?_⟩
  clear e0
  show R G MX6_actAt 0 [(0, .ref x0), (1, .int x1), (2, .int x2)] [] s (some (.int w.1), w.2)
  refine R_aload DX6_actAt_0 0 rfl ?_
  obtain ⟨v1, ev1, h⟩ := bind_some h
  refine R_gR DX6_actAt_1 fl_RX6_25 ev1 ?_
  refine R_iload DX6_actAt_4 1 rfl ?_
  refine R_constI DX6_actAt_5 ci_24 ?_
  refine R_imul DX6_actAt_7 ?_
  refine R_iload DX6_actAt_8 2 rfl ?_
  refine R_iadd DX6_actAt_9 ?_
  obtain ⟨v2, ev2, h⟩ := bind_some h
  refine R_aI DX6_actAt_10 ev2 ?_
  cases h
  exact R_ireturn rfl DX6_actAt_11
set_option maxRecDepth 8000 in
theorem kX6_changeFact {G : Gm} {x0 : Nat} {x1 : Int32} {x2 : Int32} {s : Hp} {w : Int32 × Hp} (h : fX6_changeFact x0 x1 x2 s = some w) : (s.2.2 x0).1 = 6 ∧ Call G MX6_changeFact [.ref x0, .int x1, .int x2] s (some (.int w.1), w.2) := by
  unfold fX6_changeFact at h
  obtain ⟨_, e0, h⟩ := bind_some h
  refine ⟨ck_some e0, Call.of_R pnRX6 (Nat.le_of_ble_eq_true rfl) ?_⟩
  clear e0
  show R G MX6_changeFact 0 [(0, .ref x0), (1, .int x1), (2, .int x2)] [] s (some (.int w.1), w.2)
  refine R_aload DX6_changeFact_0 0 rfl ?_
  obtain ⟨v1, ev1, h⟩ := bind_some h
  refine R_gR DX6_changeFact_1 fl_RX6_28 ev1 ?_
  refine R_iload DX6_changeFact_4 1 rfl ?_
  refine R_constI DX6_changeFact_5 ci_4 ?_
  refine R_imul DX6_changeFact_6 ?_
  refine R_iload DX6_changeFact_7 2 rfl ?_
  refine R_iadd DX6_changeFact_8 ?_
  obtain ⟨v2, ev2, h⟩ := bind_some h
  refine R_aI DX6_changeFact_9 ev2 ?_
  cases h
  exact R_ireturn rfl DX6_changeFact_10
set_option maxRecDepth 8000 in
theorem kX6_saleBrings {G : Gm} {x0 : Nat} {x1 : Int32} {s : Hp} {w : Int32 × Hp} (h : fX6_saleBrings x0 x1 s = some w) : (s.2.2 x0).1 = 6 ∧ Call G MX6_saleBrings [.ref x0, .int x1] s (some (.int w.1), w.2) := by
  unfold fX6_saleBrings at h
  obtain ⟨_, e0, h⟩ := bind_some h
  refine ⟨ck_some e0, Call.of_R pnRX6 (Nat.le_of_ble_eq_true rfl) ?_⟩
  clear e0
  show R G MX6_saleBrings 0 [(0, .ref x0), (1, .int x1)] [] s (some (.int w.1), w.2)
  refine R_constI DX6_saleBrings_0 ci_0 ?_
  refine R_aload DX6_saleBrings_1 0 rfl ?_
  obtain ⟨v1, ev1, h⟩ := bind_some h
  refine R_gI DX6_saleBrings_2 fl_RX6_69 ev1 ?_
  refine R_iload DX6_saleBrings_5 1 rfl ?_
  refine R_isub DX6_saleBrings_6 ?_
  refine R_mmax DX6_saleBrings_7 mw_RX6_72 ⟨Nat.le_of_ble_eq_true rfl, Nat.le_of_ble_eq_true rfl⟩ ?_
  cases h
  exact R_ireturn rfl DX6_saleBrings_10
set_option maxRecDepth 8000 in
theorem kX6_change {G : Gm} {x0 : Nat} {x1 : Int32} {x2 : Int32} {x3 : Int32} {s : Hp} {w : Int32 × Hp} (h : fX6_change x0 x1 x2 x3 s = some w) : (s.2.2 x0).1 = 6 ∧ Call G MX6_change [.ref x0, .int x1, .int x2, .int x3] s (some (.int w.1), w.2) := by
  unfold fX6_change at h
  obtain ⟨_, e0, h⟩ := bind_some h
  refine ⟨ck_some e0, Call.of_R pnRX6 (Nat.le_of_ble_eq_true rfl) ?_⟩
  clear e0
  show R G MX6_change 0 [(0, .ref x0), (1, .int x1), (2, .int x2), (3, .int x3)] [] s (some (.int w.1), w.2)
  refine R_aload DX6_change_0 0 rfl ?_
  refine R_iload DX6_change_1 1 rfl ?_
  refine R_iload DX6_change_2 2 rfl ?_
  obtain ⟨r1, er1, h⟩ := bind_some h
  refine R_cV1 [.int x1, .int x2] DX6_change_3 kzvX6_actAt ml_RX6_88 ⟨Nat.le_of_ble_eq_true rfl, Nat.le_of_ble_eq_true rfl⟩ rfl (Nat.le_of_ble_eq_true rfl) (kX6_actAt er1) ?_
  refine R_istore [(4, .int r1.1), (0, .ref x0), (1, .int x1), (2, .int x2), (3, .int x3)] DX6_change_6 (by decide) rfl ?_
  refine R_aload DX6_change_8 1 rfl ?_
  obtain ⟨v2, ev2, h⟩ := bind_some h
  refine R_gI DX6_change_9 fl_RX6_91 ev2 ?_
  refine R_constI DX6_change_12 ci_4 ?_
  refine R_imul DX6_change_13 ?_
  obtain ⟨z3, ez3, h⟩ := lt_some h
  refine R_istoreE ez3 [(5, .int z3), (4, .int r1.1), (0, .ref x0), (1, .int x1), (2, .int x2), (3, .int x3)] DX6_change_14 (by decide) rfl ?_
  refine R_aload DX6_change_16 2 rfl ?_
  obtain ⟨v4, ev4, h⟩ := bind_some h
  refine R_gR DX6_change_17 fl_RX6_28 ev4 ?_
  refine R_iload DX6_change_20 0 rfl ?_
  refine R_iload DX6_change_22 3 rfl ?_
  obtain ⟨s5, es5, h⟩ := bind_some h
  refine R_sI DX6_change_23 es5 ?_
  refine R_aload DX6_change_24 2 rfl ?_
  obtain ⟨v6, ev6, h⟩ := bind_some h
  refine R_gR DX6_change_25 fl_RX6_28 ev6 ?_
  refine R_iload DX6_change_28 0 rfl ?_
  refine R_constI DX6_change_30 ci_1 ?_
  refine R_iadd DX6_change_31 ?_
  refine R_iload DX6_change_32 4 rfl ?_
  obtain ⟨s7, es7, h⟩ := bind_some h
  refine R_sI DX6_change_33 es7 ?_
  refine R_aload DX6_change_34 2 rfl ?_
  obtain ⟨v8, ev8, h⟩ := bind_some h
  refine R_gR DX6_change_35 fl_RX6_28 ev8 ?_
  refine R_iload DX6_change_38 0 rfl ?_
  refine R_constI DX6_change_40 ci_2 ?_
  refine R_iadd DX6_change_41 ?_
  refine R_iload DX6_change_42 5 rfl ?_
  obtain ⟨s9, es9, h⟩ := bind_some h
  refine R_sI DX6_change_43 es9 ?_
  refine R_aload DX6_change_44 2 rfl ?_
  obtain ⟨v10, ev10, h⟩ := bind_some h
  refine R_gR DX6_change_45 fl_RX6_28 ev10 ?_
  refine R_iload DX6_change_48 0 rfl ?_
  refine R_constI DX6_change_50 ci_3 ?_
  refine R_iadd DX6_change_51 ?_
  refine R_iload DX6_change_52 1 rfl ?_
  obtain ⟨s11, es11, h⟩ := bind_some h
  refine R_sI DX6_change_54 es11 ?_
  refine R_aload DX6_change_55 2 rfl ?_
  refine R_dup DX6_change_56 rfl ?_
  obtain ⟨v12, ev12, h⟩ := bind_some h
  refine R_gI DX6_change_57 fl_RX6_91 ev12 ?_
  refine R_constI DX6_change_60 ci_1 ?_
  refine R_iadd DX6_change_61 ?_
  obtain ⟨s13, es13, h⟩ := bind_some h
  refine R_pI DX6_change_62 fl_RX6_91 es13 ?_
  refine R_aload DX6_change_65 2 rfl ?_
  refine R_iload DX6_change_66 3 rfl ?_
  refine R_iload DX6_change_67 4 rfl ?_
  refine R_iload DX6_change_68 5 rfl ?_
  obtain ⟨s14, es14, h⟩ := bind_some h
  refine R_cV0 [.int x1, .int x2, .int x3] DX6_change_69 kzvX6_setAct ml_RX6_94 ⟨Nat.le_of_ble_eq_true rfl, Nat.le_of_ble_eq_true rfl⟩ rfl (Nat.le_of_ble_eq_true rfl) (kX6_setAct es14) ?_
  refine R_iload DX6_change_72 1 rfl ?_
  cases h
  exact R_ireturn rfl DX6_change_74
set_option maxRecDepth 8000 in
theorem kX6_takeBack {G : Gm} {x0 : Nat} {s : Hp} {w : Hp} (h : fX6_takeBack x0 s = some w) : (s.2.2 x0).1 = 6 ∧ Call G MX6_takeBack [.ref x0] s (none, w) := by
  unfold fX6_takeBack at h
  obtain ⟨_, e0, h⟩ := bind_some h
  refine ⟨ck_some e0, Call.of_R pnRX6 (Nat.le_of_ble_eq_true rfl) ?_⟩
  clear e0
  show R G MX6_takeBack 0 [(0, .ref x0)] [] s (none, w)
  refine R_aload DX6_takeBack_0 0 rfl ?_
  refine R_dup DX6_takeBack_1 rfl ?_
  obtain ⟨v1, ev1, h⟩ := bind_some h
  refine R_gI DX6_takeBack_2 fl_RX6_91 ev1 ?_
  refine R_constI DX6_takeBack_5 ci_1 ?_
  refine R_isub DX6_takeBack_6 ?_
  obtain ⟨s2, es2, h⟩ := bind_some h
  refine R_pI DX6_takeBack_7 fl_RX6_91 es2 ?_
  refine R_aload DX6_takeBack_10 0 rfl ?_
  refine R_aload DX6_takeBack_11 0 rfl ?_
  refine R_aload DX6_takeBack_12 0 rfl ?_
  obtain ⟨v3, ev3, h⟩ := bind_some h
  refine R_gI DX6_takeBack_13 fl_RX6_91 ev3 ?_
  refine R_constI DX6_takeBack_16 ci_0 ?_
  obtain ⟨r4, er4, h⟩ := bind_some h
  refine R_cV1 [.int v3, .int (iI 0)] DX6_takeBack_17 kzvX6_changeFact ml_RX6_98 ⟨Nat.le_of_ble_eq_true rfl, Nat.le_of_ble_eq_true rfl⟩ rfl (Nat.le_of_ble_eq_true rfl) (kX6_changeFact er4) ?_
  refine R_aload DX6_takeBack_20 0 rfl ?_
  refine R_aload DX6_takeBack_21 0 rfl ?_
  obtain ⟨v5, ev5, h⟩ := bind_some h
  refine R_gI DX6_takeBack_22 fl_RX6_91 ev5 ?_
  refine R_constI DX6_takeBack_25 ci_1 ?_
  obtain ⟨r6, er6, h⟩ := bind_some h
  refine R_cV1 [.int v5, .int (iI 1)] DX6_takeBack_26 kzvX6_changeFact ml_RX6_98 ⟨Nat.le_of_ble_eq_true rfl, Nat.le_of_ble_eq_true rfl⟩ rfl (Nat.le_of_ble_eq_true rfl) (kX6_changeFact er6) ?_
  refine R_aload DX6_takeBack_29 0 rfl ?_
  refine R_aload DX6_takeBack_30 0 rfl ?_
  obtain ⟨v7, ev7, h⟩ := bind_some h
  refine R_gI DX6_takeBack_31 fl_RX6_91 ev7 ?_
  refine R_constI DX6_takeBack_34 ci_3 ?_
  obtain ⟨r8, er8, h⟩ := bind_some h
  refine R_cV1 [.int v7, .int (iI 3)] DX6_takeBack_35 kzvX6_changeFact ml_RX6_98 ⟨Nat.le_of_ble_eq_true rfl, Nat.le_of_ble_eq_true rfl⟩ rfl (Nat.le_of_ble_eq_true rfl) (kX6_changeFact er8) ?_
  obtain ⟨s9, es9, h⟩ := bind_some h
  refine R_cV0 [.int r4.1, .int r6.1, .int r8.1] DX6_takeBack_38 kzvX6_setAct ml_RX6_94 ⟨Nat.le_of_ble_eq_true rfl, Nat.le_of_ble_eq_true rfl⟩ rfl (Nat.le_of_ble_eq_true rfl) (kX6_setAct es9) ?_
  cases h
  exact R_return rfl DX6_takeBack_41
set_option maxRecDepth 8000 in
theorem kX6_copyFrom {G : Gm} {x0 : Nat} {x1 : Nat} {s : Hp} {w : Hp} (h : fX6_copyFrom x0 x1 s = some w) : (s.2.2 x0).1 = 6 ∧ Call G MX6_copyFrom [.ref x0, .ref x1] s (none, w) := by
  unfold fX6_copyFrom at h
  obtain ⟨_, e0, h⟩ := bind_some h
  refine ⟨ck_some e0, Call.of_R pnRX6 (Nat.le_of_ble_eq_true rfl) ?_⟩
  clear e0
  show R G MX6_copyFrom 0 [(0, .ref x0), (1, .ref x1)] [] s (none, w)
  refine R_aload DX6_copyFrom_0 0 rfl ?_
  refine R_aload DX6_copyFrom_1 1 rfl ?_
  obtain ⟨v1, ev1, h⟩ := bind_some h
  refine R_gI DX6_copyFrom_2 fl_RX6_31 ev1 ?_
  obtain ⟨s2, es2, h⟩ := bind_some h
  refine R_pI DX6_copyFrom_5 fl_RX6_31 es2 ?_
  refine R_aload DX6_copyFrom_8 0 rfl ?_
  refine R_aload DX6_copyFrom_9 1 rfl ?_
  obtain ⟨v3, ev3, h⟩ := bind_some h
  refine R_gI DX6_copyFrom_10 fl_RX6_50 ev3 ?_
  obtain ⟨s4, es4, h⟩ := bind_some h
  refine R_pI DX6_copyFrom_13 fl_RX6_50 es4 ?_
  refine R_aload DX6_copyFrom_16 0 rfl ?_
  refine R_aload DX6_copyFrom_17 1 rfl ?_
  obtain ⟨v5, ev5, h⟩ := bind_some h
  refine R_gI DX6_copyFrom_18 fl_RX6_53 ev5 ?_
  obtain ⟨s6, es6, h⟩ := bind_some h
  refine R_pI DX6_copyFrom_21 fl_RX6_53 es6 ?_
  refine R_aload DX6_copyFrom_24 0 rfl ?_
  refine R_aload DX6_copyFrom_25 1 rfl ?_
  obtain ⟨v7, ev7, h⟩ := bind_some h
  refine R_gI DX6_copyFrom_26 fl_RX6_44 ev7 ?_
  obtain ⟨s8, es8, h⟩ := bind_some h
  refine R_pI DX6_copyFrom_29 fl_RX6_44 es8 ?_
  refine R_aload DX6_copyFrom_32 0 rfl ?_
  refine R_aload DX6_copyFrom_33 1 rfl ?_
  obtain ⟨v9, ev9, h⟩ := bind_some h
  refine R_gI DX6_copyFrom_34 fl_RX6_47 ev9 ?_
  obtain ⟨s10, es10, h⟩ := bind_some h
  refine R_pI DX6_copyFrom_37 fl_RX6_47 es10 ?_
  refine R_aload DX6_copyFrom_40 0 rfl ?_
  refine R_aload DX6_copyFrom_41 1 rfl ?_
  obtain ⟨v11, ev11, h⟩ := bind_some h
  refine R_gI DX6_copyFrom_42 fl_RX6_66 ev11 ?_
  obtain ⟨s12, es12, h⟩ := bind_some h
  refine R_pI DX6_copyFrom_45 fl_RX6_66 es12 ?_
  refine R_aload DX6_copyFrom_48 0 rfl ?_
  refine R_aload DX6_copyFrom_49 1 rfl ?_
  obtain ⟨v13, ev13, h⟩ := bind_some h
  refine R_gI DX6_copyFrom_50 fl_RX6_101 ev13 ?_
  obtain ⟨s14, es14, h⟩ := bind_some h
  refine R_pI DX6_copyFrom_53 fl_RX6_101 es14 ?_
  refine R_aload DX6_copyFrom_56 0 rfl ?_
  refine R_aload DX6_copyFrom_57 1 rfl ?_
  obtain ⟨v15, ev15, h⟩ := bind_some h
  refine R_gI DX6_copyFrom_58 fl_RX6_69 ev15 ?_
  obtain ⟨s16, es16, h⟩ := bind_some h
  refine R_pI DX6_copyFrom_61 fl_RX6_69 es16 ?_
  refine R_aload DX6_copyFrom_64 0 rfl ?_
  refine R_aload DX6_copyFrom_65 1 rfl ?_
  obtain ⟨v17, ev17, h⟩ := bind_some h
  refine R_gI DX6_copyFrom_66 fl_RX6_34 ev17 ?_
  obtain ⟨s18, es18, h⟩ := bind_some h
  refine R_pI DX6_copyFrom_69 fl_RX6_34 es18 ?_
  refine R_aload DX6_copyFrom_72 0 rfl ?_
  refine R_aload DX6_copyFrom_73 1 rfl ?_
  obtain ⟨v19, ev19, h⟩ := bind_some h
  refine R_gI DX6_copyFrom_74 fl_RX6_41 ev19 ?_
  obtain ⟨s20, es20, h⟩ := bind_some h
  refine R_pI DX6_copyFrom_77 fl_RX6_41 es20 ?_
  refine R_aload DX6_copyFrom_80 0 rfl ?_
  refine R_aload DX6_copyFrom_81 1 rfl ?_
  obtain ⟨v21, ev21, h⟩ := bind_some h
  refine R_gI DX6_copyFrom_82 fl_RX6_9 ev21 ?_
  obtain ⟨s22, es22, h⟩ := bind_some h
  refine R_pI DX6_copyFrom_85 fl_RX6_9 es22 ?_
  refine R_aload DX6_copyFrom_88 0 rfl ?_
  refine R_aload DX6_copyFrom_89 1 rfl ?_
  obtain ⟨v23, ev23, h⟩ := bind_some h
  refine R_gI DX6_copyFrom_90 fl_RX6_104 ev23 ?_
  obtain ⟨s24, es24, h⟩ := bind_some h
  refine R_pI DX6_copyFrom_93 fl_RX6_104 es24 ?_
  refine R_aload DX6_copyFrom_96 0 rfl ?_
  refine R_aload DX6_copyFrom_97 1 rfl ?_
  obtain ⟨v25, ev25, h⟩ := bind_some h
  refine R_gI DX6_copyFrom_98 fl_RX6_107 ev25 ?_
  obtain ⟨s26, es26, h⟩ := bind_some h
  refine R_pI DX6_copyFrom_101 fl_RX6_107 es26 ?_
  refine R_aload DX6_copyFrom_104 0 rfl ?_
  refine R_aload DX6_copyFrom_105 1 rfl ?_
  obtain ⟨v27, ev27, h⟩ := bind_some h
  refine R_gI DX6_copyFrom_106 fl_RX6_91 ev27 ?_
  obtain ⟨s28, es28, h⟩ := bind_some h
  refine R_pI DX6_copyFrom_109 fl_RX6_91 es28 ?_
  refine R_aload DX6_copyFrom_112 1 rfl ?_
  obtain ⟨v29, ev29, h⟩ := bind_some h
  refine R_gR DX6_copyFrom_113 fl_RX6_15 ev29 ?_
  refine R_constI DX6_copyFrom_116 ci_0 ?_
  refine R_aload DX6_copyFrom_117 0 rfl ?_
  obtain ⟨v30, ev30, h⟩ := bind_some h
  refine R_gR DX6_copyFrom_118 fl_RX6_15 ev30 ?_
  refine R_constI DX6_copyFrom_121 ci_0 ?_
  refine R_aload DX6_copyFrom_122 0 rfl ?_
  obtain ⟨v31, ev31, h⟩ := bind_some h
  refine R_gR DX6_copyFrom_123 fl_RX6_15 ev31 ?_
  obtain ⟨v32, ev32, h⟩ := bind_some h
  refine R_aN DX6_copyFrom_126 ev32 ?_
  obtain ⟨s33, es33, h⟩ := bind_some h
  refine R_cpyI DX6_copyFrom_127 wc_RX6_110 ⟨Nat.le_of_ble_eq_true rfl, Nat.le_of_ble_eq_true rfl⟩ es33 ?_
  refine R_aload DX6_copyFrom_130 1 rfl ?_
  obtain ⟨v34, ev34, h⟩ := bind_some h
  refine R_gR DX6_copyFrom_131 fl_RX6_19 ev34 ?_
  refine R_constI DX6_copyFrom_134 ci_0 ?_
  refine R_aload DX6_copyFrom_135 0 rfl ?_
  obtain ⟨v35, ev35, h⟩ := bind_some h
  refine R_gR DX6_copyFrom_136 fl_RX6_19 ev35 ?_
  refine R_constI DX6_copyFrom_139 ci_0 ?_
  refine R_aload DX6_copyFrom_140 0 rfl ?_
  obtain ⟨v36, ev36, h⟩ := bind_some h
  refine R_gR DX6_copyFrom_141 fl_RX6_19 ev36 ?_
  obtain ⟨v37, ev37, h⟩ := bind_some h
  refine R_aN DX6_copyFrom_144 ev37 ?_
  obtain ⟨s38, es38, h⟩ := bind_some h
  refine R_cpyI DX6_copyFrom_145 wc_RX6_110 ⟨Nat.le_of_ble_eq_true rfl, Nat.le_of_ble_eq_true rfl⟩ es38 ?_
  refine R_aload DX6_copyFrom_148 1 rfl ?_
  obtain ⟨v39, ev39, h⟩ := bind_some h
  refine R_gR DX6_copyFrom_149 fl_RX6_22 ev39 ?_
  refine R_constI DX6_copyFrom_152 ci_0 ?_
  refine R_aload DX6_copyFrom_153 0 rfl ?_
  obtain ⟨v40, ev40, h⟩ := bind_some h
  refine R_gR DX6_copyFrom_154 fl_RX6_22 ev40 ?_
  refine R_constI DX6_copyFrom_157 ci_0 ?_
  refine R_aload DX6_copyFrom_158 0 rfl ?_
  obtain ⟨v41, ev41, h⟩ := bind_some h
  refine R_gR DX6_copyFrom_159 fl_RX6_22 ev41 ?_
  obtain ⟨v42, ev42, h⟩ := bind_some h
  refine R_aN DX6_copyFrom_162 ev42 ?_
  obtain ⟨s43, es43, h⟩ := bind_some h
  refine R_cpyI DX6_copyFrom_163 wc_RX6_110 ⟨Nat.le_of_ble_eq_true rfl, Nat.le_of_ble_eq_true rfl⟩ es43 ?_
  refine R_aload DX6_copyFrom_166 1 rfl ?_
  obtain ⟨v44, ev44, h⟩ := bind_some h
  refine R_gR DX6_copyFrom_167 fl_RX6_25 ev44 ?_
  refine R_constI DX6_copyFrom_170 ci_0 ?_
  refine R_aload DX6_copyFrom_171 0 rfl ?_
  obtain ⟨v45, ev45, h⟩ := bind_some h
  refine R_gR DX6_copyFrom_172 fl_RX6_25 ev45 ?_
  refine R_constI DX6_copyFrom_175 ci_0 ?_
  refine R_aload DX6_copyFrom_176 0 rfl ?_
  obtain ⟨v46, ev46, h⟩ := bind_some h
  refine R_gR DX6_copyFrom_177 fl_RX6_25 ev46 ?_
  obtain ⟨v47, ev47, h⟩ := bind_some h
  refine R_aN DX6_copyFrom_180 ev47 ?_
  obtain ⟨s48, es48, h⟩ := bind_some h
  refine R_cpyI DX6_copyFrom_181 wc_RX6_110 ⟨Nat.le_of_ble_eq_true rfl, Nat.le_of_ble_eq_true rfl⟩ es48 ?_
  refine R_aload DX6_copyFrom_184 1 rfl ?_
  obtain ⟨v49, ev49, h⟩ := bind_some h
  refine R_gR DX6_copyFrom_185 fl_RX6_28 ev49 ?_
  refine R_constI DX6_copyFrom_188 ci_0 ?_
  refine R_aload DX6_copyFrom_189 0 rfl ?_
  obtain ⟨v50, ev50, h⟩ := bind_some h
  refine R_gR DX6_copyFrom_190 fl_RX6_28 ev50 ?_
  refine R_constI DX6_copyFrom_193 ci_0 ?_
  refine R_aload DX6_copyFrom_194 0 rfl ?_
  obtain ⟨v51, ev51, h⟩ := bind_some h
  refine R_gR DX6_copyFrom_195 fl_RX6_28 ev51 ?_
  obtain ⟨v52, ev52, h⟩ := bind_some h
  refine R_aN DX6_copyFrom_198 ev52 ?_
  obtain ⟨s53, es53, h⟩ := bind_some h
  refine R_cpyI DX6_copyFrom_199 wc_RX6_110 ⟨Nat.le_of_ble_eq_true rfl, Nat.le_of_ble_eq_true rfl⟩ es53 ?_
  cases h
  exact R_return rfl DX6_copyFrom_202
set_option maxRecDepth 8000 in
theorem kX7_init {G : Gm} {x0 : Nat} {s : Hp} {w : Hp} (h : fX7_init x0 s = some w) : (s.2.2 x0).1 = 7 ∧ Call G MX7_init [.ref x0] s (none, w) := by
  unfold fX7_init at h
  obtain ⟨_, e0, h⟩ := bind_some h
  refine ⟨ck_some e0, Call.of_R pnRX7 (Nat.le_of_ble_eq_true rfl) ?_⟩
  clear e0
  show R G MX7_init 0 [(0, .ref x0)] [] s (none, w)
  refine R_aload DX7_init_0 0 rfl ?_
  refine R_objInit DX7_init_1 oi_RX7_3 ⟨Nat.le_of_ble_eq_true rfl, Nat.le_of_ble_eq_true rfl⟩ ?_
  refine R_aload DX7_init_4 0 rfl ?_
  refine R_constI DX7_init_5 ci_700 ?_
  obtain ⟨s1, es1, h⟩ := bind_some h
  refine R_newa at20 aw20 DX7_init_8 es1 ?_
  obtain ⟨s2, es2, h⟩ := bind_some h
  refine R_pAF DX7_init_10 fl_RX7_11 ⟨rfl, _, rfl⟩ es2 ?_
  refine R_aload DX7_init_13 0 rfl ?_
  refine R_constI DX7_init_14 ci_125 ?_
  obtain ⟨s3, es3, h⟩ := bind_some h
  refine R_newa at20 aw20 DX7_init_16 es3 ?_
  obtain ⟨s4, es4, h⟩ := bind_some h
  refine R_pAF DX7_init_18 fl_RX7_15 ⟨rfl, _, rfl⟩ es4 ?_
  refine R_aload DX7_init_21 0 rfl ?_
  refine R_constI DX7_init_22 ci_96 ?_
  obtain ⟨s5, es5, h⟩ := bind_some h
  refine R_newa at20 aw20 DX7_init_24 es5 ?_
  obtain ⟨s6, es6, h⟩ := bind_some h
  refine R_pAF DX7_init_26 fl_RX7_18 ⟨rfl, _, rfl⟩ es6 ?_
  refine R_aload DX7_init_29 0 rfl ?_
  refine R_constI DX7_init_30 ci_96 ?_
  obtain ⟨s7, es7, h⟩ := bind_some h
  refine R_newa at23 aw23 DX7_init_32 es7 ?_
  obtain ⟨s8, es8, h⟩ := bind_some h
  refine R_pAF DX7_init_34 fl_RX7_21 ⟨rfl, _, rfl⟩ es8 ?_
  refine R_aload DX7_init_37 0 rfl ?_
  refine R_constI DX7_init_38 ci_96 ?_
  obtain ⟨s9, es9, h⟩ := bind_some h
  refine R_newa at20 aw20 DX7_init_40 es9 ?_
  obtain ⟨s10, es10, h⟩ := bind_some h
  refine R_pAF DX7_init_42 fl_RX7_25 ⟨rfl, _, rfl⟩ es10 ?_
  refine R_aload DX7_init_45 0 rfl ?_
  refine R_constI DX7_init_46 ci_5 ?_
  obtain ⟨s11, es11, h⟩ := bind_some h
  refine R_newa at23 aw23 DX7_init_47 es11 ?_
  obtain ⟨s12, es12, h⟩ := bind_some h
  refine R_pAF DX7_init_49 fl_RX7_28 ⟨rfl, _, rfl⟩ es12 ?_
  cases h
  exact R_return rfl DX7_init_52
set_option maxRecDepth 8000 in
theorem kX7_pageOf {G : Gm} {x0 : Nat} {x1 : Int32} {x2 : Int32} {s : Hp} {w : Int32 × Hp} (h : fX7_pageOf x0 x1 x2 s = some w) : (s.2.2 x0).1 = 7 ∧ Call G MX7_pageOf [.ref x0, .int x1, .int x2] s (some (.int w.1), w.2) := by
  unfold fX7_pageOf at h
  obtain ⟨_, e0, h⟩ := bind_some h
  refine ⟨ck_some e0, Call.of_R pnRX7 (Nat.le_of_ble_eq_true rfl) ?_⟩
  clear e0
  show R G MX7_pageOf 0 [(0, .ref x0), (1, .int x1), (2, .int x2)] [] s (some (.int w.1), w.2)
  refine R_iload DX7_pageOf_0 2 rfl ?_
  refine R_constI DX7_pageOf_1 ci_28 ?_
  refine R_imul DX7_pageOf_3 ?_
  refine R_iload DX7_pageOf_4 1 rfl ?_
  refine R_constI DX7_pageOf_5 ci_7 ?_
  refine R_imul DX7_pageOf_7 ?_
  refine R_iadd DX7_pageOf_8 ?_
  cases h
  exact R_ireturn rfl DX7_pageOf_9
