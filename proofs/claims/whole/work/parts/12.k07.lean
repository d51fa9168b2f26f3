set_option maxRecDepth 8000 in
theorem tX9_line_b90 {G : Gm} {x0 : Nat} {x1 : Int32} {x2 : Int32} {s : Hp} {w : Hp} (h : fX9_line_b90 x0 x1 x2 s = some w) : R G MX9_line 90 [(0, .ref x0), (1, .int x1), (2, .int x2)] [] s (none, w) := by
  unfold fX9_line_b90 at h
  refine R_aload DX9_line_90 0 rfl ?_
  obtain ⟨s10, es10, h⟩ := bind_some h
  refine R_cV0 [] DX9_line_91 kzvX9_next ml_RX9_154 ⟨Nat.le_of_ble_eq_true rfl, Nat.le_of_ble_eq_true rfl⟩ rfl (Nat.le_of_ble_eq_true rfl) (kX9_next es10) ?_
  refine R_iload DX9_line_94 1 rfl ?_
  by_cases c11 : x1 = 0
  · replace h := if_t h c11
    refine R_if_eq_t DX9_line_95 c11 ?_
    refine R_iload DX9_line_105 2 rfl ?_
    by_cases c12 : x2 = 0
    · replace h := if_t h c12
      refine R_if_eq_t DX9_line_106 c12 ?_
      refine R_aload DX9_line_116 0 rfl ?_
      obtain ⟨s13, es13, h⟩ := bind_some h
      refine R_cV0 [] DX9_line_117 kzvX9_doorLine ml_RX9_250 ⟨Nat.le_of_ble_eq_true rfl, Nat.le_of_ble_eq_true rfl⟩ rfl (Nat.le_of_ble_eq_true rfl) (kX9_doorLine es13) ?_
      refine R_goto DX9_line_120 ?_
      cases h
      exact R_return rfl DX9_line_208
    · replace h := if_f h c12
      refine R_if_eq_f DX9_line_106 c12 ?_
      refine R_aload DX9_line_109 0 rfl ?_
      obtain ⟨s14, es14, h⟩ := bind_some h
      refine R_cV0 [] DX9_line_110 kzvX9_shopLine ml_RX9_247 ⟨Nat.le_of_ble_eq_true rfl, Nat.le_of_ble_eq_true rfl⟩ rfl (Nat.le_of_ble_eq_true rfl) (kX9_shopLine es14) ?_
      refine R_goto DX9_line_113 ?_
      cases h
      exact R_return rfl DX9_line_208
  · replace h := if_f h c11
    refine R_if_eq_f DX9_line_95 c11 ?_
    refine R_aload DX9_line_98 0 rfl ?_
    obtain ⟨s15, es15, h⟩ := bind_some h
    refine R_cV0 [] DX9_line_99 kzvX9_windLine ml_RX9_244 ⟨Nat.le_of_ble_eq_true rfl, Nat.le_of_ble_eq_true rfl⟩ rfl (Nat.le_of_ble_eq_true rfl) (kX9_windLine es15) ?_
    refine R_goto DX9_line_102 ?_
    cases h
    exact R_return rfl DX9_line_208
set_option maxRecDepth 8000 in
theorem tX9_line_b70 {G : Gm} {x0 : Nat} {x1 : Int32} {x2 : Int32} {x3 : Int32} {s : Hp} {w : Hp} (h : fX9_line_b70 x0 x1 x2 x3 s = some w) : R G MX9_line 70 [(0, .ref x0), (1, .int x1), (2, .int x2), (3, .int x3)] [] s (none, w) := by
  unfold fX9_line_b70 at h
  refine R_aload DX9_line_70 0 rfl ?_
  obtain ⟨v7, ev7, h⟩ := bind_some h
  refine R_gI DX9_line_71 fl_RX9_144 ev7 ?_
  by_cases c8 : v7 = 0
  · replace h := if_t h c8
    refine R_if_eq_t DX9_line_74 c8 ?_
    refine R_iload DX9_line_78 1 rfl ?_
    by_cases c9 : x1 = 0
    · replace h := if_t h c9
      refine R_if_ne_f DX9_line_79 c9 ?_
      refine R_iload DX9_line_82 2 rfl ?_
      by_cases c16 : x2 = 0
      · replace h := if_t h c16
        refine R_if_ne_f DX9_line_83 c16 ?_
        refine R_iload DX9_line_86 3 rfl ?_
        by_cases c17 : x3 = 0
        · replace h := if_t h c17
          refine R_if_eq_t DX9_line_87 c17 ?_
          refine R_aload DX9_line_123 0 rfl ?_
          refine R_ldc2 DX9_line_124 cw_RX9_253 ?_
          obtain ⟨r18, er18, h⟩ := bind_some h
          refine R_cV1 [.long 10204885] DX9_line_127 kzvX9_takes ml_RX9_157 ⟨Nat.le_of_ble_eq_true rfl, Nat.le_of_ble_eq_true rfl⟩ rfl (Nat.le_of_ble_eq_true rfl) (kX9_takes er18) ?_
          by_cases c19 : r18.1 = 0
          · replace h := if_t h c19
            refine R_if_eq_t DX9_line_130 c19 ?_
            refine R_aload DX9_line_180 0 rfl ?_
            refine R_ldc2 DX9_line_181 cw_RX9_259 ?_
            obtain ⟨r20, er20, h⟩ := bind_some h
            refine R_cV1 [.long 119088] DX9_line_184 kzvX9_takes ml_RX9_157 ⟨Nat.le_of_ble_eq_true rfl, Nat.le_of_ble_eq_true rfl⟩ rfl (Nat.le_of_ble_eq_true rfl) (kX9_takes er20) ?_
            by_cases c21 : r20.1 = 0
            · replace h := if_t h c21
              refine R_if_eq_t DX9_line_187 c21 ?_
              refine R_aload DX9_line_197 0 rfl ?_
              refine R_ldc2 DX9_line_198 cw_RX9_264 ?_
              obtain ⟨s22, es22, h⟩ := bind_some h
              refine R_cV0 [.long 323717] DX9_line_201 kzvX9_asks ml_RX9_163 ⟨Nat.le_of_ble_eq_true rfl, Nat.le_of_ble_eq_true rfl⟩ rfl (Nat.le_of_ble_eq_true rfl) (kX9_asks es22) ?_
              refine R_aload DX9_line_204 0 rfl ?_
              obtain ⟨s23, es23, h⟩ := bind_some h
              refine R_cV0 [] DX9_line_205 kzvX9_planLine ml_RX9_266 ⟨Nat.le_of_ble_eq_true rfl, Nat.le_of_ble_eq_true rfl⟩ rfl (Nat.le_of_ble_eq_true rfl) (kX9_planLine es23) ?_
              cases h
              exact R_return rfl DX9_line_208
            · replace h := if_f h c21
              refine R_if_eq_f DX9_line_187 c21 ?_
              refine R_aload DX9_line_190 0 rfl ?_
              obtain ⟨s24, es24, h⟩ := bind_some h
              refine R_cV0 [] DX9_line_191 kzvX9_fairLine ml_RX9_261 ⟨Nat.le_of_ble_eq_true rfl, Nat.le_of_ble_eq_true rfl⟩ rfl (Nat.le_of_ble_eq_true rfl) (kX9_fairLine es24) ?_
              refine R_goto DX9_line_194 ?_
              cases h
              exact R_return rfl DX9_line_208
          · replace h := if_f h c19
            refine R_if_eq_f DX9_line_130 c19 ?_
            refine R_aload DX9_line_133 0 rfl ?_
            refine R_ldc2 DX9_line_134 cw_RX9_255 ?_
            refine R_constI DX9_line_137 ci_0 ?_
            refine R_aload DX9_line_138 0 rfl ?_
            refine R_constI DX9_line_139 ci_2 ?_
            obtain ⟨r25, er25, h⟩ := bind_some h
            refine R_cV1 [.int (iI 2)] DX9_line_140 kzvX9_hasRead ml_RX9_193 ⟨Nat.le_of_ble_eq_true rfl, Nat.le_of_ble_eq_true rfl⟩ rfl (Nat.le_of_ble_eq_true rfl) (kX9_hasRead er25) ?_
            refine R_constI DX9_line_143 ci_1 ?_
            refine R_isub DX9_line_144 ?_
            obtain ⟨r26, er26, h⟩ := bind_some h
            refine R_cV1 [.long 335207579, .int (iI 0), .int (r25.1 - (iI 1))] DX9_line_145 kzvX9_number_ ml_RX9_178 ⟨Nat.le_of_ble_eq_true rfl, Nat.le_of_ble_eq_true rfl⟩ rfl (Nat.le_of_ble_eq_true rfl) (kX9_number_ er26) ?_
            refine R_istore [(4, .int r26.1), (0, .ref x0), (1, .int x1), (2, .int x2), (3, .int x3)] DX9_line_148 (by decide) rfl ?_
            refine R_aload DX9_line_150 1 rfl ?_
            refine R_ldc2 DX9_line_151 cw_RX9_257 ?_
            refine R_constI DX9_line_154 ci_0 ?_
            refine R_constI DX9_line_155 ci_99 ?_
            obtain ⟨r27, er27, h⟩ := bind_some h
            refine R_cV1 [.long 8863997, .int (iI 0), .int (iI 99)] DX9_line_157 kzvX9_number_ ml_RX9_178 ⟨Nat.le_of_ble_eq_true rfl, Nat.le_of_ble_eq_true rfl⟩ rfl (Nat.le_of_ble_eq_true rfl) (kX9_number_ er27) ?_
            refine R_istore [(5, .int r27.1), (4, .int r26.1), (0, .ref x0), (1, .int x1), (2, .int x2), (3, .int x3)] DX9_line_160 (by decide) rfl ?_
            refine R_aload DX9_line_162 2 rfl ?_
            refine R_constI DX9_line_163 ci_5 ?_
            refine R_iload DX9_line_164 1 rfl ?_
            obtain ⟨s28, es28, h⟩ := bind_some h
            refine R_cV0 [.int (iI 5), .int r26.1] DX9_line_166 kzvX9_reads ml_RX9_181 ⟨Nat.le_of_ble_eq_true rfl, Nat.le_of_ble_eq_true rfl⟩ rfl (Nat.le_of_ble_eq_true rfl) (kX9_reads es28) ?_
            refine R_aload DX9_line_169 2 rfl ?_
            refine R_constI DX9_line_170 ci_6 ?_
            refine R_iload DX9_line_172 0 rfl ?_
            obtain ⟨s29, es29, h⟩ := bind_some h
            refine R_cV0 [.int (iI 6), .int r27.1] DX9_line_174 kzvX9_reads ml_RX9_181 ⟨Nat.le_of_ble_eq_true rfl, Nat.le_of_ble_eq_true rfl⟩ rfl (Nat.le_of_ble_eq_true rfl) (kX9_reads es29) ?_
            refine R_goto DX9_line_177 ?_
            cases h
            exact R_return rfl DX9_line_208
        · replace h := if_f h c17
          refine R_if_eq_f DX9_line_87 c17 ?_
          refine R.sub (L' := [(0, .ref x0), (1, .int x1), (2, .int x2)]) [0, 1, 2] rfl ?_
          exact tX9_line_b90 h
      · replace h := if_f h c16
        refine R_if_ne_t DX9_line_83 c16 ?_
        refine R.sub (L' := [(0, .ref x0), (1, .int x1), (2, .int x2)]) [0, 1, 2] rfl ?_
        exact tX9_line_b90 h
    · replace h := if_f h c9
      refine R_if_ne_t DX9_line_79 c9 ?_
      refine R.sub (L' := [(0, .ref x0), (1, .int x1), (2, .int x2)]) [0, 1, 2] rfl ?_
      exact tX9_line_b90 h
  · replace h := if_f h c8
    refine R_if_eq_f DX9_line_74 c8 ?_
    cases h
    exact R_return rfl DX9_line_77
set_option maxRecDepth 8000 in
theorem tX9_line_b65 {G : Gm} {x0 : Nat} {x1 : Int32} {x2 : Int32} {x3 : Int32} {s : Hp} {w : Hp} (h : fX9_line_b65 x0 x1 x2 x3 s = some w) : R G MX9_line 65 [(0, .ref x0), (1, .int x1), (2, .int x2), (3, .int x3)] [] s (none, w) := by
  unfold fX9_line_b65 at h
  refine R_aload DX9_line_65 0 rfl ?_
  refine R_constI DX9_line_66 ci_3 ?_
  obtain ⟨s32, es32, h⟩ := bind_some h
  refine R_cV0 [.int (iI 3)] DX9_line_67 kzvX9_fails ml_RX9_160 ⟨Nat.le_of_ble_eq_true rfl, Nat.le_of_ble_eq_true rfl⟩ rfl (Nat.le_of_ble_eq_true rfl) (kX9_fails es32) ?_
  exact tX9_line_b70 h
set_option maxRecDepth 8000 in
theorem tX9_line_b51 {G : Gm} {x0 : Nat} {x1 : Int32} {x2 : Int32} {x3 : Int32} {s : Hp} {w : Hp} (h : fX9_line_b51 x0 x1 x2 x3 s = some w) : R G MX9_line 51 [(0, .ref x0), (1, .int x1), (2, .int x2), (3, .int x3)] [] s (none, w) := by
  unfold fX9_line_b51 at h
  refine R_iload DX9_line_51 3 rfl ?_
  by_cases c6 : x3 = 0
  · replace h := if_t h c6
    refine R_if_eq_t DX9_line_52 c6 ?_
    exact tX9_line_b70 h
  · replace h := if_f h c6
    refine R_if_eq_f DX9_line_52 c6 ?_
    refine R_aload DX9_line_55 0 rfl ?_
    refine R_constI DX9_line_56 ci_8 ?_
    obtain ⟨r30, er30, h⟩ := bind_some h
    refine R_cV1 [.int (iI 8)] DX9_line_58 kzvX9_hasRead ml_RX9_193 ⟨Nat.le_of_ble_eq_true rfl, Nat.le_of_ble_eq_true rfl⟩ rfl (Nat.le_of_ble_eq_true rfl) (kX9_hasRead er30) ?_
    refine R_constI DX9_line_61 ci_5 ?_
    by_cases c31 : r30.1 = (iI 5)
    · replace h := if_t h c31
      refine R_icmp_ne_f DX9_line_62 c31 ?_
      exact tX9_line_b65 h
    · replace h := if_f h c31
      refine R_icmp_ne_t DX9_line_62 c31 ?_
      exact tX9_line_b70 h
set_option maxRecDepth 8000 in
theorem tX9_line_b37 {G : Gm} {x0 : Nat} {x1 : Int32} {x2 : Int32} {x3 : Int32} {s : Hp} {w : Hp} (h : fX9_line_b37 x0 x1 x2 x3 s = some w) : R G MX9_line 37 [(0, .ref x0), (1, .int x1), (2, .int x2), (3, .int x3)] [] s (none, w) := by
  unfold fX9_line_b37 at h
  refine R_iload DX9_line_37 2 rfl ?_
  by_cases c5 : x2 = 0
  · replace h := if_t h c5
    refine R_if_eq_t DX9_line_38 c5 ?_
    exact tX9_line_b51 h
  · replace h := if_f h c5
    refine R_if_eq_f DX9_line_38 c5 ?_
    refine R_aload DX9_line_41 0 rfl ?_
    refine R_constI DX9_line_42 ci_7 ?_
    obtain ⟨r33, er33, h⟩ := bind_some h
    refine R_cV1 [.int (iI 7)] DX9_line_44 kzvX9_hasRead ml_RX9_193 ⟨Nat.le_of_ble_eq_true rfl, Nat.le_of_ble_eq_true rfl⟩ rfl (Nat.le_of_ble_eq_true rfl) (kX9_hasRead er33) ?_
    refine R_constI DX9_line_47 ci_4 ?_
    by_cases c34 : r33.1 = (iI 4)
    · replace h := if_t h c34
      refine R_icmp_eq_t DX9_line_48 c34 ?_
      exact tX9_line_b65 h
    · replace h := if_f h c34
      refine R_icmp_eq_f DX9_line_48 c34 ?_
      exact tX9_line_b51 h
set_option maxRecDepth 8000 in
theorem kX9_line {G : Gm} {x0 : Nat} {s : Hp} {w : Hp} (h : fX9_line x0 s = some w) : (s.2.2 x0).1 = 9 ∧ Call G MX9_line [.ref x0] s (none, w) := by
  unfold fX9_line at h
  obtain ⟨_, e0, h⟩ := bind_some h
  refine ⟨ck_some e0, Call.of_R pnRX9 (Nat.le_of_ble_eq_true rfl) ?_⟩
  clear e0
  show R G MX9_line 0 [(0, .ref x0)] [] s (none, w)
  refine R_aload DX9_line_0 0 rfl ?_
  refine R_ldc2 DX9_line_1 cw_RX9_238 ?_
  obtain ⟨r1, er1, h⟩ := bind_some h
  refine R_cV1 [.long 459652] DX9_line_4 kzvX9_is ml_RX9_150 ⟨Nat.le_of_ble_eq_true rfl, Nat.le_of_ble_eq_true rfl⟩ rfl (Nat.le_of_ble_eq_true rfl) (kX9_is er1) ?_
  refine R_istore [(1, .int r1.1), (0, .ref x0)] DX9_line_7 (by decide) rfl ?_
  refine R_aload DX9_line_8 1 rfl ?_
  refine R_ldc2 DX9_line_9 cw_RX9_240 ?_
  obtain ⟨r2, er2, h⟩ := bind_some h
  refine R_cV1 [.long 380230] DX9_line_12 kzvX9_is ml_RX9_150 ⟨Nat.le_of_ble_eq_true rfl, Nat.le_of_ble_eq_true rfl⟩ rfl (Nat.le_of_ble_eq_true rfl) (kX9_is er2) ?_
  refine R_istore [(2, .int r2.1), (1, .int r1.1), (0, .ref x0)] DX9_line_15 (by decide) rfl ?_
  refine R_aload DX9_line_16 2 rfl ?_
  refine R_ldc2 DX9_line_17 cw_RX9_242 ?_
  obtain ⟨r3, er3, h⟩ := bind_some h
  refine R_cV1 [.long 90090] DX9_line_20 kzvX9_is ml_RX9_150 ⟨Nat.le_of_ble_eq_true rfl, Nat.le_of_ble_eq_true rfl⟩ rfl (Nat.le_of_ble_eq_true rfl) (kX9_is er3) ?_
  refine R_istore [(3, .int r3.1), (2, .int r2.1), (1, .int r1.1), (0, .ref x0)] DX9_line_23 (by decide) rfl ?_
  refine R_iload DX9_line_24 2 rfl ?_
  by_cases c4 : r1.1 = 0
  · replace h := if_t h c4
    refine R_if_eq_t DX9_line_25 c4 ?_
    refine R.sub (L' := [(0, .ref x0), (1, .int r1.1), (2, .int r2.1), (3, .int r3.1)]) [3, 2, 1, 0] rfl ?_
    exact tX9_line_b37 h
  · replace h := if_f h c4
    refine R_if_eq_f DX9_line_25 c4 ?_
    refine R_aload DX9_line_28 3 rfl ?_
    obtain ⟨v35, ev35, h⟩ := bind_some h
    refine R_gI DX9_line_29 fl_RX9_213 ev35 ?_
    refine R_constI DX9_line_32 ci_20 ?_
    by_cases c36 : v35 = (iI 20)
    · replace h := if_t h c36
      refine R_icmp_eq_t DX9_line_34 c36 ?_
      refine R.sub (L' := [(0, .ref x0), (1, .int r1.1), (2, .int r2.1), (3, .int r3.1)]) [3, 2, 1, 0] rfl ?_
      exact tX9_line_b65 h
    · replace h := if_f h c36
      refine R_icmp_eq_f DX9_line_34 c36 ?_
      refine R.sub (L' := [(0, .ref x0), (1, .int r1.1), (2, .int r2.1), (3, .int r3.1)]) [3, 2, 1, 0] rfl ?_
      exact tX9_line_b37 h
set_option maxRecDepth 8000 in
theorem tX9_clears_l14 {G : Gm} {x0 : Nat} {o : Option Value × Hp} {a : Int32 × Hp} {w : (Int32 × Hp) ⊕ ((Hp))} (h : fX9_clears_l14 x0 a = some w) (hc : ∀ (q1 : Int32) (qs : Hp), w = .inl (q1, qs) → R G MX9_clears 14 [(0, .ref x0), (1, .int q1)] [] qs o) (he0 : ∀ (qs : Hp), w = .inr qs → R G MX9_clears 32 [(0, .ref x0)] [] qs o) : R G MX9_clears 14 [(0, .ref x0), (1, .int a.1)] [] a.2 o := by
  unfold fX9_clears_l14 at h
  refine R_iload DX9_clears_14 1 rfl ?_
  refine R_constI DX9_clears_15 ci_15 ?_
  by_cases c4 : (iI 15) ≤ a.1
  · replace h := if_t h c4
    refine R_icmp_ge_t DX9_clears_17 c4 ?_
    refine R.sub (L' := [(0, .ref x0)]) [0] rfl ?_
    cases h
    exact he0 _ rfl
  · replace h := if_f h c4
    refine R_icmp_ge_f DX9_clears_17 c4 ?_
    refine R_aload DX9_clears_20 0 rfl ?_
    refine R_iload DX9_clears_21 1 rfl ?_
    refine R_constI DX9_clears_22 ci_0 ?_
    obtain ⟨s5, es5, h⟩ := bind_some h
    refine R_cV0 [.int a.1, .int (iI 0)] DX9_clears_23 kzvX9_reads ml_RX9_181 ⟨Nat.le_of_ble_eq_true rfl, Nat.le_of_ble_eq_true rfl⟩ rfl (Nat.le_of_ble_eq_true rfl) (kX9_reads es5) ?_
    refine R_iinc [(1, .int (a.1 + iI 1)), (0, .ref x0)] DX9_clears_26 1 rfl (v := a.1 + iI 1) (by rfl) (by decide) rfl ?_
    refine R_goto DX9_clears_29 ?_
    refine R.sub (L' := [(0, .ref x0), (1, .int (a.1 + iI 1))]) [1, 0] rfl ?_
    cases h
    exact hc _ _ rfl
set_option maxRecDepth 8000 in
theorem tX9_clears_l34 {G : Gm} {x0 : Nat} {o : Option Value × Hp} {a : Int32 × Hp} {w : (Int32 × Hp) ⊕ ((Hp))} (h : fX9_clears_l34 x0 a = some w) (hc : ∀ (q1 : Int32) (qs : Hp), w = .inl (q1, qs) → R G MX9_clears 34 [(0, .ref x0), (1, .int q1)] [] qs o) (he0 : ∀ (qs : Hp), w = .inr qs → R G MX9_clears 64 [] [] qs o) : R G MX9_clears 34 [(0, .ref x0), (1, .int a.1)] [] a.2 o := by
  unfold fX9_clears_l34 at h
  refine R_iload DX9_clears_34 1 rfl ?_
  refine R_constI DX9_clears_35 ci_120 ?_
  by_cases c7 : (iI 120) ≤ a.1
  · replace h := if_t h c7
    refine R_icmp_ge_t DX9_clears_37 c7 ?_
    refine R.sub (L' := []) [] rfl ?_
    cases h
    exact he0 _ rfl
  · replace h := if_f h c7
    refine R_icmp_ge_f DX9_clears_37 c7 ?_
    refine R_aload DX9_clears_40 0 rfl ?_
    obtain ⟨v8, ev8, h⟩ := bind_some h
    refine R_gR DX9_clears_41 fl_RX9_37 ev8 ?_
    refine R_constI DX9_clears_44 ci_480 ?_
    refine R_iload DX9_clears_47 1 rfl ?_
    refine R_iadd DX9_clears_48 ?_
    refine R_constI DX9_clears_49 ci_0 ?_
    obtain ⟨s9, es9, h⟩ := bind_some h
    refine R_sI DX9_clears_50 es9 ?_
    refine R_aload DX9_clears_51 0 rfl ?_
    obtain ⟨v10, ev10, h⟩ := bind_some h
    refine R_gR DX9_clears_52 fl_RX9_40 ev10 ?_
    refine R_iload DX9_clears_55 1 rfl ?_
    refine R_constI DX9_clears_56 ci_m1 ?_
    obtain ⟨s11, es11, h⟩ := bind_some h
    refine R_sI DX9_clears_57 es11 ?_
    refine R_iinc [(1, .int (a.1 + iI 1)), (0, .ref x0)] DX9_clears_58 1 rfl (v := a.1 + iI 1) (by rfl) (by decide) rfl ?_
    refine R_goto DX9_clears_61 ?_
    refine R.sub (L' := [(0, .ref x0), (1, .int (a.1 + iI 1))]) [1, 0] rfl ?_
    cases h
    exact hc _ _ rfl
set_option maxRecDepth 8000 in
theorem kX9_clears {G : Gm} {x0 : Nat} {s : Hp} {w : Hp} (h : fX9_clears x0 s = some w) : (s.2.2 x0).1 = 9 ∧ Call G MX9_clears [.ref x0] s (none, w) := by
  unfold fX9_clears at h
  obtain ⟨_, e0, h⟩ := bind_some h
  refine ⟨ck_some e0, Call.of_R pnRX9 (Nat.le_of_ble_eq_true rfl) ?_⟩
  clear e0
  show R G MX9_clears 0 [(0, .ref x0)] [] s (none, w)
  refine R_aload DX9_clears_0 0 rfl ?_
  obtain ⟨v1, ev1, h⟩ := bind_some h
  refine R_gR DX9_clears_1 fl_RX9_31 ev1 ?_
  refine R_constI DX9_clears_4 ci_4 ?_
  refine R_constI DX9_clears_5 ci_0 ?_
  obtain ⟨s2, es2, h⟩ := bind_some h
  refine R_sI DX9_clears_6 es2 ?_
  refine R_aload DX9_clears_7 0 rfl ?_
  refine R_constI DX9_clears_8 ci_0 ?_
  obtain ⟨s3, es3, h⟩ := bind_some h
  refine R_pI DX9_clears_9 fl_RX9_213 es3 ?_
  refine R_constI DX9_clears_12 ci_0 ?_
  refine R_istore [(1, .int (iI 0)), (0, .ref x0)] DX9_clears_13 (by decide) rfl ?_
  refine R.sub (L' := [(0, .ref x0), (1, .int (iI 0))]) [1, 0] rfl ?_
  obtain ⟨r6, hi, h⟩ := bind_some h
  have hE : (fun u14 : Hp => R G MX9_clears 32 [(0, .ref x0)] [] u14 (none, w)) r6 → ∀ (q1 : Int32) (qs : Hp), iter (fX9_clears_l14 x0) FU (q1, qs) = some r6 → R G MX9_clears 14 [(0, .ref x0), (1, .int q1)] [] qs (none, w) := fun hX q1 qs hj => loop_R (fX9_clears_l14 x0) (fun p14 : Int32 × Hp => R G MX9_clears 14 [(0, .ref x0), (1, .int p14.1)] [] p14.2 (none, w)) (fun u14 : Hp => R G MX9_clears 32 [(0, .ref x0)] [] u14 (none, w)) (fun a w hw hc he => tX9_clears_l14 hw (fun q1 qs e => hc (q1, qs) e) (fun qs e => he qs e)) FU (q1, qs) r6 hj hX
  refine hE ?_ _ _ hi
  clear hE hi
  refine R_constI DX9_clears_32 ci_0 ?_
  refine R_istore [(1, .int (iI 0)), (0, .ref x0)] DX9_clears_33 (by decide) rfl ?_
  refine R.sub (L' := [(0, .ref x0), (1, .int (iI 0))]) [1, 0] rfl ?_
  obtain ⟨r12, hi, h⟩ := bind_some h
  have hE : (fun u34 : Hp => R G MX9_clears 64 [] [] u34 (none, w)) r12 → ∀ (q1 : Int32) (qs : Hp), iter (fX9_clears_l34 x0) FU (q1, qs) = some r12 → R G MX9_clears 34 [(0, .ref x0), (1, .int q1)] [] qs (none, w) := fun hX q1 qs hj => loop_R (fX9_clears_l34 x0) (fun p34 : Int32 × Hp => R G MX9_clears 34 [(0, .ref x0), (1, .int p34.1)] [] p34.2 (none, w)) (fun u34 : Hp => R G MX9_clears 64 [] [] u34 (none, w)) (fun a w hw hc he => tX9_clears_l34 hw (fun q1 qs e => hc (q1, qs) e) (fun qs e => he qs e)) FU (q1, qs) r12 hj hX
  refine hE ?_ _ _ hi
  clear hE hi
  cases h
  exact R_return rfl DX9_clears_64
set_option maxRecDepth 8000 in
theorem tX9_copyRow_l3 {G : Gm} {x0 : Nat} {x1 : Int32} {x2 : Int32} {x3 : Int32} {o : Option Value × Hp} {a : Int32 × Hp} {w : (Int32 × Hp) ⊕ ((Hp))} (h : fX9_copyRow_l3 x0 x1 x2 x3 a = some w) (hc : ∀ (q4 : Int32) (qs : Hp), w = .inl (q4, qs) → R G MX9_copyRow 3 [(0, .ref x0), (1, .int x1), (2, .int x2), (3, .int x3), (4, .int q4)] [] qs o) (he0 : ∀ (qs : Hp), w = .inr qs → R G MX9_copyRow 31 [] [] qs o) : R G MX9_copyRow 3 [(0, .ref x0), (1, .int x1), (2, .int x2), (3, .int x3), (4, .int a.1)] [] a.2 o := by
  unfold fX9_copyRow_l3 at h
  refine R_iload DX9_copyRow_3 4 rfl ?_
  refine R_iload DX9_copyRow_5 1 rfl ?_
  by_cases c1 : x1 ≤ a.1
  · replace h := if_t h c1
    refine R_icmp_ge_t DX9_copyRow_6 c1 ?_
    refine R.sub (L' := []) [] rfl ?_
    cases h
    exact he0 _ rfl
  · replace h := if_f h c1
    refine R_icmp_ge_f DX9_copyRow_6 c1 ?_
    refine R_aload DX9_copyRow_9 0 rfl ?_
    refine R_iload DX9_copyRow_10 1 rfl ?_
    refine R_iload DX9_copyRow_11 3 rfl ?_
    refine R_imul DX9_copyRow_12 ?_
    refine R_iload DX9_copyRow_13 4 rfl ?_
    refine R_iadd DX9_copyRow_15 ?_
    refine R_aload DX9_copyRow_16 0 rfl ?_
    refine R_iload DX9_copyRow_17 1 rfl ?_
    refine R_iload DX9_copyRow_18 2 rfl ?_
    refine R_imul DX9_copyRow_19 ?_
    refine R_iload DX9_copyRow_20 4 rfl ?_
    refine R_iadd DX9_copyRow_22 ?_
    obtain ⟨v2, ev2, h⟩ := bind_some h
    refine R_aI DX9_copyRow_23 ev2 ?_
    obtain ⟨s3, es3, h⟩ := bind_some h
    refine R_sI DX9_copyRow_24 es3 ?_
    refine R_iinc [(4, .int (a.1 + iI 1)), (0, .ref x0), (1, .int x1), (2, .int x2), (3, .int x3)] DX9_copyRow_25 4 rfl (v := a.1 + iI 1) (by rfl) (by decide) rfl ?_
    refine R_goto DX9_copyRow_28 ?_
    refine R.sub (L' := [(0, .ref x0), (1, .int x1), (2, .int x2), (3, .int x3), (4, .int (a.1 + iI 1))]) [1, 2, 3, 4, 0] rfl ?_
    cases h
    exact hc _ _ rfl
set_option maxRecDepth 8000 in
theorem kX9_copyRow {G : Gm} {x0 : Nat} {x1 : Int32} {x2 : Int32} {x3 : Int32} {s : Hp} {w : Hp} (h : fX9_copyRow x0 x1 x2 x3 s = some w) : Call G MX9_copyRow [.ref x0, .int x1, .int x2, .int x3] s (none, w) := by
  unfold fX9_copyRow at h
  refine Call.of_R pnRX9 (Nat.le_of_ble_eq_true rfl) ?_
  show R G MX9_copyRow 0 [(0, .ref x0), (1, .int x1), (2, .int x2), (3, .int x3)] [] s (none, w)
  refine R_constI DX9_copyRow_0 ci_0 ?_
  refine R_istore [(4, .int (iI 0)), (0, .ref x0), (1, .int x1), (2, .int x2), (3, .int x3)] DX9_copyRow_1 (by decide) rfl ?_
  refine R.sub (L' := [(0, .ref x0), (1, .int x1), (2, .int x2), (3, .int x3), (4, .int (iI 0))]) [1, 2, 3, 4, 0] rfl ?_
  obtain ⟨r4, hi, h⟩ := bind_some h
  have hE : (fun u3 : Hp => R G MX9_copyRow 31 [] [] u3 (none, w)) r4 → ∀ (q4 : Int32) (qs : Hp), iter (fX9_copyRow_l3 x0 x1 x2 x3) FU (q4, qs) = some r4 → R G MX9_copyRow 3 [(0, .ref x0), (1, .int x1), (2, .int x2), (3, .int x3), (4, .int q4)] [] qs (none, w) := fun hX q4 qs hj => loop_R (fX9_copyRow_l3 x0 x1 x2 x3) (fun p3 : Int32 × Hp => R G MX9_copyRow 3 [(0, .ref x0), (1, .int x1), (2, .int x2), (3, .int x3), (4, .int p3.1)] [] p3.2 (none, w)) (fun u3 : Hp => R G MX9_copyRow 31 [] [] u3 (none, w)) (fun a w hw hc he => tX9_copyRow_l3 hw (fun q4 qs e => hc (q4, qs) e) (fun qs e => he qs e)) FU (q4, qs) r4 hj hX
  refine hE ?_ _ _ hi
  clear hE hi
  cases h
  exact R_return rfl DX9_copyRow_31
set_option maxRecDepth 8000 in
theorem kX9_copyValley {G : Gm} {x0 : Nat} {x1 : Int32} {x2 : Int32} {s : Hp} {w : Hp} (h : fX9_copyValley x0 x1 x2 s = some w) : (s.2.2 x0).1 = 9 ∧ Call G MX9_copyValley [.ref x0, .int x1, .int x2] s (none, w) := by
  unfold fX9_copyValley at h
  obtain ⟨_, e0, h⟩ := bind_some h
  refine ⟨ck_some e0, Call.of_R pnRX9 (Nat.le_of_ble_eq_true rfl) ?_⟩
  clear e0
  show R G MX9_copyValley 0 [(0, .ref x0), (1, .int x1), (2, .int x2)] [] s (none, w)
  refine R_aload DX9_copyValley_0 0 rfl ?_
  obtain ⟨v1, ev1, h⟩ := bind_some h
  refine R_gR DX9_copyValley_1 fl_RX9_31 ev1 ?_
  refine R_constI DX9_copyValley_4 ci_1 ?_
  refine R_iload DX9_copyValley_5 1 rfl ?_
  refine R_iload DX9_copyValley_6 2 rfl ?_
  obtain ⟨s2, es2, h⟩ := bind_some h
  refine R_cS0 [.ref v1, .int (iI 1), .int x1, .int x2] DX9_copyValley_7 kzsX9_copyRow ml_RX9_294 ⟨Nat.le_of_ble_eq_true rfl, Nat.le_of_ble_eq_true rfl⟩ rfl (Nat.le_of_ble_eq_true rfl) (kX9_copyRow es2) ?_
  refine R_aload DX9_copyValley_10 0 rfl ?_
  obtain ⟨v3, ev3, h⟩ := bind_some h
  refine R_gR DX9_copyValley_11 fl_RX9_34 ev3 ?_
  refine R_constI DX9_copyValley_14 ci_15 ?_
  refine R_iload DX9_copyValley_16 1 rfl ?_
  refine R_iload DX9_copyValley_17 2 rfl ?_
  obtain ⟨s4, es4, h⟩ := bind_some h
  refine R_cS0 [.ref v3, .int (iI 15), .int x1, .int x2] DX9_copyValley_18 kzsX9_copyRow ml_RX9_294 ⟨Nat.le_of_ble_eq_true rfl, Nat.le_of_ble_eq_true rfl⟩ rfl (Nat.le_of_ble_eq_true rfl) (kX9_copyRow es4) ?_
  refine R_aload DX9_copyValley_21 0 rfl ?_
  obtain ⟨v5, ev5, h⟩ := bind_some h
  refine R_gR DX9_copyValley_22 fl_RX9_37 ev5 ?_
  refine R_constI DX9_copyValley_25 ci_120 ?_
  refine R_iload DX9_copyValley_27 1 rfl ?_
  refine R_iload DX9_copyValley_28 2 rfl ?_
  obtain ⟨s6, es6, h⟩ := bind_some h
  refine R_cS0 [.ref v5, .int (iI 120), .int x1, .int x2] DX9_copyValley_29 kzsX9_copyRow ml_RX9_294 ⟨Nat.le_of_ble_eq_true rfl, Nat.le_of_ble_eq_true rfl⟩ rfl (Nat.le_of_ble_eq_true rfl) (kX9_copyRow es6) ?_
  refine R_aload DX9_copyValley_32 0 rfl ?_
  obtain ⟨v7, ev7, h⟩ := bind_some h
  refine R_gR DX9_copyValley_33 fl_RX9_43 ev7 ?_
  refine R_constI DX9_copyValley_36 ci_24 ?_
  refine R_iload DX9_copyValley_38 1 rfl ?_
  refine R_iload DX9_copyValley_39 2 rfl ?_
  obtain ⟨s8, es8, h⟩ := bind_some h
  refine R_cS0 [.ref v7, .int (iI 24), .int x1, .int x2] DX9_copyValley_40 kzsX9_copyRow ml_RX9_294 ⟨Nat.le_of_ble_eq_true rfl, Nat.le_of_ble_eq_true rfl⟩ rfl (Nat.le_of_ble_eq_true rfl) (kX9_copyRow es8) ?_
  refine R_aload DX9_copyValley_43 0 rfl ?_
  obtain ⟨v9, ev9, h⟩ := bind_some h
  refine R_gR DX9_copyValley_44 fl_RX9_46 ev9 ?_
  refine R_constI DX9_copyValley_47 ci_15 ?_
  refine R_iload DX9_copyValley_49 1 rfl ?_
  refine R_iload DX9_copyValley_50 2 rfl ?_
  obtain ⟨s10, es10, h⟩ := bind_some h
  refine R_cS0 [.ref v9, .int (iI 15), .int x1, .int x2] DX9_copyValley_51 kzsX9_copyRow ml_RX9_294 ⟨Nat.le_of_ble_eq_true rfl, Nat.le_of_ble_eq_true rfl⟩ rfl (Nat.le_of_ble_eq_true rfl) (kX9_copyRow es10) ?_
  refine R_aload DX9_copyValley_54 0 rfl ?_
  obtain ⟨v11, ev11, h⟩ := bind_some h
  refine R_gR DX9_copyValley_55 fl_RX9_49 ev11 ?_
  refine R_constI DX9_copyValley_58 ci_96 ?_
  refine R_iload DX9_copyValley_60 1 rfl ?_
  refine R_iload DX9_copyValley_61 2 rfl ?_
  obtain ⟨s12, es12, h⟩ := bind_some h
  refine R_cS0 [.ref v11, .int (iI 96), .int x1, .int x2] DX9_copyValley_62 kzsX9_copyRow ml_RX9_294 ⟨Nat.le_of_ble_eq_true rfl, Nat.le_of_ble_eq_true rfl⟩ rfl (Nat.le_of_ble_eq_true rfl) (kX9_copyRow es12) ?_
  refine R_aload DX9_copyValley_65 0 rfl ?_
  obtain ⟨v13, ev13, h⟩ := bind_some h
  refine R_gR DX9_copyValley_66 fl_RX9_52 ev13 ?_
  refine R_constI DX9_copyValley_69 ci_240 ?_
  refine R_iload DX9_copyValley_72 1 rfl ?_
  refine R_iload DX9_copyValley_73 2 rfl ?_
  obtain ⟨s14, es14, h⟩ := bind_some h
  refine R_cS0 [.ref v13, .int (iI 240), .int x1, .int x2] DX9_copyValley_74 kzsX9_copyRow ml_RX9_294 ⟨Nat.le_of_ble_eq_true rfl, Nat.le_of_ble_eq_true rfl⟩ rfl (Nat.le_of_ble_eq_true rfl) (kX9_copyRow es14) ?_
  cases h
  exact R_return rfl DX9_copyValley_77
set_option maxRecDepth 8000 in
theorem tX9_valley_b58 {G : Gm} {x0 : Nat} {s : Hp} {o : Option Value × Hp} {w : (Hp) ⊕ ((Hp))} (h : fX9_valley_b58 x0 s = some w) (hc : ∀ (qs : Hp), w = .inl qs → R G MX9_valley 13 [(0, .ref x0)] [] qs o) (he0 : ∀ (qs : Hp), w = .inr qs → R G MX9_valley 71 [(0, .ref x0)] [] qs o) : R G MX9_valley 58 [(0, .ref x0)] [] s o := by
  unfold fX9_valley_b58 at h
  refine R_aload DX9_valley_58 0 rfl ?_
  obtain ⟨v14, ev14, h⟩ := bind_some h
  refine R_gR DX9_valley_59 fl_RX9_31 ev14 ?_
  refine R_constI DX9_valley_62 ci_4 ?_
  refine R_dup2 DX9_valley_63 rfl rfl ?_
  obtain ⟨v15, ev15, h⟩ := bind_some h
  refine R_aI DX9_valley_64 ev15 ?_
  refine R_constI DX9_valley_65 ci_1 ?_
  refine R_iadd DX9_valley_66 ?_
  obtain ⟨s16, es16, h⟩ := bind_some h
  refine R_sI DX9_valley_67 es16 ?_
  refine R_goto DX9_valley_68 ?_
  cases h
  exact hc _ rfl
set_option maxRecDepth 8000 in
theorem tX9_valley_b47 {G : Gm} {x0 : Nat} {s : Hp} {o : Option Value × Hp} {w : (Hp) ⊕ ((Hp))} (h : fX9_valley_b47 x0 s = some w) (hc : ∀ (qs : Hp), w = .inl qs → R G MX9_valley 13 [(0, .ref x0)] [] qs o) (he0 : ∀ (qs : Hp), w = .inr qs → R G MX9_valley 71 [(0, .ref x0)] [] qs o) : R G MX9_valley 47 [(0, .ref x0)] [] s o := by
  unfold fX9_valley_b47 at h
  refine R_aload DX9_valley_47 0 rfl ?_
  obtain ⟨r12, er12, h⟩ := bind_some h
  refine R_cV1 [] DX9_valley_48 kzvX9_isGood ml_RX9_275 ⟨Nat.le_of_ble_eq_true rfl, Nat.le_of_ble_eq_true rfl⟩ rfl (Nat.le_of_ble_eq_true rfl) (kX9_isGood er12) ?_
  by_cases c13 : r12.1 = 0
  · replace h := if_t h c13
    refine R_if_eq_t DX9_valley_51 c13 ?_
    exact tX9_valley_b58 h hc he0
  · replace h := if_f h c13
    refine R_if_eq_f DX9_valley_51 c13 ?_
    refine R_aload DX9_valley_54 0 rfl ?_
    obtain ⟨s17, es17, h⟩ := bind_some h
    refine R_cV0 [] DX9_valley_55 kzvX9_ends ml_RX9_285 ⟨Nat.le_of_ble_eq_true rfl, Nat.le_of_ble_eq_true rfl⟩ rfl (Nat.le_of_ble_eq_true rfl) (kX9_ends es17) ?_
    exact tX9_valley_b58 h hc he0
set_option maxRecDepth 8000 in
theorem tX9_valley_l13 {G : Gm} {x0 : Nat} {o : Option Value × Hp} {a : Hp} {w : (Hp) ⊕ ((Hp))} (h : fX9_valley_l13 x0 a = some w) (hc : ∀ (qs : Hp), w = .inl qs → R G MX9_valley 13 [(0, .ref x0)] [] qs o) (he0 : ∀ (qs : Hp), w = .inr qs → R G MX9_valley 71 [(0, .ref x0)] [] qs o) : R G MX9_valley 13 [(0, .ref x0)] [] a o := by
  unfold fX9_valley_l13 at h
  refine R_aload DX9_valley_13 0 rfl ?_
  obtain ⟨r4, er4, h⟩ := bind_some h
  refine R_cV1 [] DX9_valley_14 kzvX9_isGood ml_RX9_275 ⟨Nat.le_of_ble_eq_true rfl, Nat.le_of_ble_eq_true rfl⟩ rfl (Nat.le_of_ble_eq_true rfl) (kX9_isGood er4) ?_
  by_cases c5 : r4.1 = 0
  · replace h := if_t h c5
    refine R_if_eq_t DX9_valley_17 c5 ?_
    cases h
    exact he0 _ rfl
  · replace h := if_f h c5
    refine R_if_eq_f DX9_valley_17 c5 ?_
    refine R_aload DX9_valley_20 0 rfl ?_
    obtain ⟨v6, ev6, h⟩ := bind_some h
    refine R_gI DX9_valley_21 fl_RX9_133 ev6 ?_
    by_cases c7 : v6 = 0
    · replace h := if_t h c7
      refine R_if_eq_t DX9_valley_24 c7 ?_
      cases h
      exact he0 _ rfl
    · replace h := if_f h c7
      refine R_if_eq_f DX9_valley_24 c7 ?_
      refine R_aload DX9_valley_27 0 rfl ?_
      obtain ⟨v8, ev8, h⟩ := bind_some h
      refine R_gR DX9_valley_28 fl_RX9_31 ev8 ?_
      refine R_constI DX9_valley_31 ci_4 ?_
      obtain ⟨v9, ev9, h⟩ := bind_some h
      refine R_aI DX9_valley_32 ev9 ?_
      by_cases c10 : v9 = 0
      · replace h := if_t h c10
        refine R_if_ne_f DX9_valley_33 c10 ?_
        refine R_aload DX9_valley_36 0 rfl ?_
        obtain ⟨s18, es18, h⟩ := bind_some h
        refine R_cV0 [] DX9_valley_37 kzvX9_first ml_RX9_279 ⟨Nat.le_of_ble_eq_true rfl, Nat.le_of_ble_eq_true rfl⟩ rfl (Nat.le_of_ble_eq_true rfl) (kX9_first es18) ?_
        refine R_goto DX9_valley_40 ?_
        exact tX9_valley_b47 h hc he0
      · replace h := if_f h c10
        refine R_if_ne_t DX9_valley_33 c10 ?_
        refine R_aload DX9_valley_43 0 rfl ?_
        obtain ⟨s11, es11, h⟩ := bind_some h
        refine R_cV0 [] DX9_valley_44 kzvX9_line ml_RX9_282 ⟨Nat.le_of_ble_eq_true rfl, Nat.le_of_ble_eq_true rfl⟩ rfl (Nat.le_of_ble_eq_true rfl) (kX9_line es11) ?_
        exact tX9_valley_b47 h hc he0
set_option maxRecDepth 8000 in
theorem tX9_valley_b71 {G : Gm} {x0 : Nat} {s : Hp} {w : Int32 × Hp} (h : fX9_valley_b71 x0 s = some w) : R G MX9_valley 71 [(0, .ref x0)] [] s (some (.int w.1), w.2) := by
  unfold fX9_valley_b71 at h
  refine R_aload DX9_valley_71 0 rfl ?_
  obtain ⟨s20, es20, h⟩ := bind_some h
  refine R_cV0 [] DX9_valley_72 kzvX9_isOver ml_RX9_288 ⟨Nat.le_of_ble_eq_true rfl, Nat.le_of_ble_eq_true rfl⟩ rfl (Nat.le_of_ble_eq_true rfl) (kX9_isOver es20) ?_
  refine R_aload DX9_valley_75 0 rfl ?_
  obtain ⟨v21, ev21, h⟩ := bind_some h
  refine R_gI DX9_valley_76 fl_RX9_144 ev21 ?_
  by_cases c22 : v21 = 0
  · replace h := if_t h c22
    refine R_if_eq_t DX9_valley_79 c22 ?_
    refine R_aload DX9_valley_85 0 rfl ?_
    refine R_constI DX9_valley_86 ci_4 ?_
    refine R_constI DX9_valley_87 ci_0 ?_
    obtain ⟨s23, es23, h⟩ := bind_some h
    refine R_cV0 [.int (iI 4), .int (iI 0)] DX9_valley_88 kzvX9_copyValley ml_RX9_291 ⟨Nat.le_of_ble_eq_true rfl, Nat.le_of_ble_eq_true rfl⟩ rfl (Nat.le_of_ble_eq_true rfl) (kX9_copyValley es23) ?_
    refine R_aload DX9_valley_91 0 rfl ?_
    obtain ⟨v24, ev24, h⟩ := bind_some h
    refine R_gR DX9_valley_92 fl_RX9_31 ev24 ?_
    refine R_constI DX9_valley_95 ci_0 ?_
    obtain ⟨v25, ev25, h⟩ := bind_some h
    refine R_aI DX9_valley_96 ev25 ?_
    cases h
    exact R_ireturn rfl DX9_valley_97
  · replace h := if_f h c22
    refine R_if_eq_f DX9_valley_79 c22 ?_
    refine R_constI DX9_valley_82 ci_m4 ?_
    cases h
    exact R_ireturn rfl DX9_valley_84
set_option maxRecDepth 8000 in
theorem kX9_valley {G : Gm} {x0 : Nat} {s : Hp} {w : Int32 × Hp} (h : fX9_valley x0 s = some w) : (s.2.2 x0).1 = 9 ∧ Call G MX9_valley [.ref x0] s (some (.int w.1), w.2) := by
  unfold fX9_valley at h
  obtain ⟨_, e0, h⟩ := bind_some h
  refine ⟨ck_some e0, Call.of_R pnRX9 (Nat.le_of_ble_eq_true rfl) ?_⟩
  clear e0
  show R G MX9_valley 0 [(0, .ref x0)] [] s (some (.int w.1), w.2)
  refine R_aload DX9_valley_0 0 rfl ?_
  refine R_constI DX9_valley_1 ci_0 ?_
  obtain ⟨s1, es1, h⟩ := bind_some h
  refine R_pI DX9_valley_2 fl_RX9_92 es1 ?_
  refine R_aload DX9_valley_5 0 rfl ?_
  obtain ⟨s2, es2, h⟩ := bind_some h
  refine R_cV0 [] DX9_valley_6 kzvX9_clears ml_RX9_269 ⟨Nat.le_of_ble_eq_true rfl, Nat.le_of_ble_eq_true rfl⟩ rfl (Nat.le_of_ble_eq_true rfl) (kX9_clears es2) ?_
  refine R_aload DX9_valley_9 0 rfl ?_
  obtain ⟨s3, es3, h⟩ := bind_some h
  refine R_cV0 [] DX9_valley_10 kzvX9_begins ml_RX9_272 ⟨Nat.le_of_ble_eq_true rfl, Nat.le_of_ble_eq_true rfl⟩ rfl (Nat.le_of_ble_eq_true rfl) (kX9_begins es3) ?_
  obtain ⟨r19, hi, h⟩ := bind_some h
  have hE : (fun u13 : Hp => R G MX9_valley 71 [(0, .ref x0)] [] u13 (some (.int w.1), w.2)) r19 → ∀ (qs : Hp), iter (fX9_valley_l13 x0) FU qs = some r19 → R G MX9_valley 13 [(0, .ref x0)] [] qs (some (.int w.1), w.2) := fun hX qs hj => loop_R (fX9_valley_l13 x0) (fun p13 : Hp => R G MX9_valley 13 [(0, .ref x0)] [] p13 (some (.int w.1), w.2)) (fun u13 : Hp => R G MX9_valley 71 [(0, .ref x0)] [] u13 (some (.int w.1), w.2)) (fun a w hw hc he => tX9_valley_l13 hw (fun qs e => hc qs e) (fun qs e => he qs e)) FU qs r19 hj hX
  refine hE ?_ _ hi
  clear hE hi
  exact tX9_valley_b71 h
set_option maxRecDepth 8000 in
theorem kX9_isValley {G : Gm} {x0 : Nat} {s : Hp} {w : Int32 × Hp} (h : fX9_isValley x0 s = some w) : (s.2.2 x0).1 = 9 ∧ Call G MX9_isValley [.ref x0] s (some (.int w.1), w.2) := by
  unfold fX9_isValley at h
  obtain ⟨_, e0, h⟩ := bind_some h
  refine ⟨ck_some e0, Call.of_R pnRX9 (Nat.le_of_ble_eq_true rfl) ?_⟩
  clear e0
  show R G MX9_isValley 0 [(0, .ref x0)] [] s (some (.int w.1), w.2)
  refine R_aload DX9_isValley_0 0 rfl ?_
  obtain ⟨v1, ev1, h⟩ := bind_some h
  refine R_gR DX9_isValley_1 fl_RX9_31 ev1 ?_
  refine R_constI DX9_isValley_4 ci_0 ?_
  obtain ⟨v2, ev2, h⟩ := bind_some h
  refine R_aI DX9_isValley_5 ev2 ?_
  by_cases c3 : v2 ≤ 0
  · replace h := if_t h c3
    refine R_if_le_t DX9_isValley_6 c3 ?_
    refine R_constI DX9_isValley_13 ci_0 ?_
    cases h
    exact R_zreturn rfl DX9_isValley_14 (by decide)
  · replace h := if_f h c3
    refine R_if_le_f DX9_isValley_6 c3 ?_
    refine R_constI DX9_isValley_9 ci_1 ?_
    refine R_goto DX9_isValley_10 ?_
    cases h
    exact R_zreturn rfl DX9_isValley_14 (by decide)
set_option maxRecDepth 8000 in
theorem tX9_isColumn_b38 {G : Gm} {s : Hp} {w : Int32 × Hp} (h : fX9_isColumn_b38 s = some w) : R G MX9_isColumn 38 [] [] s (some (.int w.1), w.2) := by
  unfold fX9_isColumn_b38 at h
  refine R_constI DX9_isColumn_38 ci_0 ?_
  cases h
  exact R_zreturn rfl DX9_isColumn_39 (by decide)
set_option maxRecDepth 8000 in
theorem kX9_isColumn {G : Gm} {x0 : Nat} {x1 : Int64} {x3 : Int64} {s : Hp} {w : Int32 × Hp} (h : fX9_isColumn x0 x1 x3 s = some w) : (s.2.2 x0).1 = 9 ∧ Call G MX9_isColumn [.ref x0, .long x1, .long x3] s (some (.int w.1), w.2) := by
  unfold fX9_isColumn at h
  obtain ⟨_, e0, h⟩ := bind_some h
  refine ⟨ck_some e0, Call.of_R pnRX9 (Nat.le_of_ble_eq_true rfl) ?_⟩
  clear e0
  show R G MX9_isColumn 0 [(0, .ref x0), (1, .long x1), (3, .long x3)] [] s (some (.int w.1), w.2)
  refine R_lload DX9_isColumn_0 1 rfl ?_
  refine R_lconst DX9_isColumn_1 ?_
  refine R_aload DX9_isColumn_2 0 rfl ?_
  obtain ⟨v1, ev1, h⟩ := bind_some h
  refine R_gR DX9_isColumn_3 fl_RX9_34 ev1 ?_
  refine R_constI DX9_isColumn_6 ci_0 ?_
  obtain ⟨v2, ev2, h⟩ := bind_some h
  refine R_aI DX9_isColumn_7 ev2 ?_
  refine R_i2l DX9_isColumn_8 ?_
  refine R_lconst DX9_isColumn_9 ?_
  refine R_lsub DX9_isColumn_10 ?_
  obtain ⟨r3, er3, h⟩ := bind_some h
  refine R_cS1 [.long x1, .long 0, .long ((Int32.toInt64 v2) - 1)] DX9_isColumn_11 kzsX9_in ml_RX9_97 ⟨Nat.le_of_ble_eq_true rfl, Nat.le_of_ble_eq_true rfl⟩ rfl (Nat.le_of_ble_eq_true rfl) (kX9_in er3) ?_
  by_cases c4 : r3.1 = 0
  · replace h := if_t h c4
    refine R_if_eq_t DX9_isColumn_14 c4 ?_
    refine R.sub (L' := []) [] rfl ?_
    exact tX9_isColumn_b38 h
  · replace h := if_f h c4
    refine R_if_eq_f DX9_isColumn_14 c4 ?_
    refine R_lload DX9_isColumn_17 2 rfl ?_
    refine R_lconst DX9_isColumn_18 ?_
    refine R_aload DX9_isColumn_19 0 rfl ?_
    obtain ⟨v5, ev5, h⟩ := bind_some h
    refine R_gR DX9_isColumn_20 fl_RX9_34 ev5 ?_
    refine R_constI DX9_isColumn_23 ci_1 ?_
    obtain ⟨v6, ev6, h⟩ := bind_some h
    refine R_aI DX9_isColumn_24 ev6 ?_
    refine R_i2l DX9_isColumn_25 ?_
    refine R_lconst DX9_isColumn_26 ?_
    refine R_lsub DX9_isColumn_27 ?_
    obtain ⟨r7, er7, h⟩ := bind_some h
    refine R_cS1 [.long x3, .long 0, .long ((Int32.toInt64 v6) - 1)] DX9_isColumn_28 kzsX9_in ml_RX9_97 ⟨Nat.le_of_ble_eq_true rfl, Nat.le_of_ble_eq_true rfl⟩ rfl (Nat.le_of_ble_eq_true rfl) (kX9_in er7) ?_
    by_cases c8 : r7.1 = 0
    · replace h := if_t h c8
      refine R_if_eq_t DX9_isColumn_31 c8 ?_
      refine R.sub (L' := []) [] rfl ?_
      exact tX9_isColumn_b38 h
    · replace h := if_f h c8
      refine R_if_eq_f DX9_isColumn_31 c8 ?_
      refine R_constI DX9_isColumn_34 ci_1 ?_
      refine R_goto DX9_isColumn_35 ?_
      cases h
      exact R_zreturn rfl DX9_isColumn_39 (by decide)
set_option maxRecDepth 8000 in
theorem kX9_isLayer {G : Gm} {x0 : Nat} {x1 : Int32} {s : Hp} {w : Int32 × Hp} (h : fX9_isLayer x0 x1 s = some w) : (s.2.2 x0).1 = 9 ∧ Call G MX9_isLayer [.ref x0, .int x1] s (some (.int w.1), w.2) := by
  unfold fX9_isLayer at h
  obtain ⟨_, e0, h⟩ := bind_some h
  refine ⟨ck_some e0, Call.of_R pnRX9 (Nat.le_of_ble_eq_true rfl) ?_⟩
  clear e0
  show R G MX9_isLayer 0 [(0, .ref x0), (1, .int x1)] [] s (some (.int w.1), w.2)
  refine R_iload DX9_isLayer_0 1 rfl ?_
  refine R_i2l DX9_isLayer_1 ?_
  refine R_lconst DX9_isLayer_2 ?_
  refine R_aload DX9_isLayer_3 0 rfl ?_
  obtain ⟨v1, ev1, h⟩ := bind_some h
  refine R_gR DX9_isLayer_4 fl_RX9_34 ev1 ?_
  refine R_constI DX9_isLayer_7 ci_2 ?_
  obtain ⟨v2, ev2, h⟩ := bind_some h
  refine R_aI DX9_isLayer_8 ev2 ?_
  refine R_constI DX9_isLayer_9 ci_1 ?_
  refine R_isub DX9_isLayer_10 ?_
  refine R_i2l DX9_isLayer_11 ?_
  obtain ⟨r3, er3, h⟩ := bind_some h
  refine R_cS1 [.long (Int32.toInt64 x1), .long 0, .long (Int32.toInt64 (v2 - (iI 1)))] DX9_isLayer_12 kzsX9_in ml_RX9_97 ⟨Nat.le_of_ble_eq_true rfl, Nat.le_of_ble_eq_true rfl⟩ rfl (Nat.le_of_ble_eq_true rfl) (kX9_in er3) ?_
  obtain ⟨_, ez, h⟩ := bind_some h
  cases h
  exact R_zreturn rfl DX9_isLayer_15 (rZ_some ez)
set_option maxRecDepth 8000 in
theorem kX9_isHour {G : Gm} {x0 : Nat} {x1 : Int64} {s : Hp} {w : Int32 × Hp} (h : fX9_isHour x0 x1 s = some w) : (s.2.2 x0).1 = 9 ∧ Call G MX9_isHour [.ref x0, .long x1] s (some (.int w.1), w.2) := by
  unfold fX9_isHour at h
  obtain ⟨_, e0, h⟩ := bind_some h
  refine ⟨ck_some e0, Call.of_R pnRX9 (Nat.le_of_ble_eq_true rfl) ?_⟩
  clear e0
  show R G MX9_isHour 0 [(0, .ref x0), (1, .long x1)] [] s (some (.int w.1), w.2)
  refine R_lload DX9_isHour_0 1 rfl ?_
  refine R_lconst DX9_isHour_1 ?_
  refine R_aload DX9_isHour_2 0 rfl ?_
  obtain ⟨v1, ev1, h⟩ := bind_some h
  refine R_gR DX9_isHour_3 fl_RX9_34 ev1 ?_
  refine R_constI DX9_isHour_6 ci_3 ?_
  obtain ⟨v2, ev2, h⟩ := bind_some h
  refine R_aI DX9_isHour_7 ev2 ?_
  refine R_i2l DX9_isHour_8 ?_
  refine R_lconst DX9_isHour_9 ?_
  refine R_lsub DX9_isHour_10 ?_
  obtain ⟨r3, er3, h⟩ := bind_some h
  refine R_cS1 [.long x1, .long 0, .long ((Int32.toInt64 v2) - 1)] DX9_isHour_11 kzsX9_in ml_RX9_97 ⟨Nat.le_of_ble_eq_true rfl, Nat.le_of_ble_eq_true rfl⟩ rfl (Nat.le_of_ble_eq_true rfl) (kX9_in er3) ?_
  obtain ⟨_, ez, h⟩ := bind_some h
  cases h
  exact R_zreturn rfl DX9_isHour_14 (rZ_some ez)
set_option maxRecDepth 8000 in
theorem kX9_isShop {G : Gm} {x0 : Nat} {x1 : Int32} {s : Hp} {w : Int32 × Hp} (h : fX9_isShop x0 x1 s = some w) : (s.2.2 x0).1 = 9 ∧ Call G MX9_isShop [.ref x0, .int x1] s (some (.int w.1), w.2) := by
  unfold fX9_isShop at h
  obtain ⟨_, e0, h⟩ := bind_some h
  refine ⟨ck_some e0, Call.of_R pnRX9 (Nat.le_of_ble_eq_true rfl) ?_⟩
  clear e0
  show R G MX9_isShop 0 [(0, .ref x0), (1, .int x1)] [] s (some (.int w.1), w.2)
  refine R_iload DX9_isShop_0 1 rfl ?_
  refine R_i2l DX9_isShop_1 ?_
  refine R_lconst DX9_isShop_2 ?_
  refine R_aload DX9_isShop_3 0 rfl ?_
  obtain ⟨v1, ev1, h⟩ := bind_some h
  refine R_gR DX9_isShop_4 fl_RX9_34 ev1 ?_
  refine R_constI DX9_isShop_7 ci_7 ?_
  obtain ⟨v2, ev2, h⟩ := bind_some h
  refine R_aI DX9_isShop_9 ev2 ?_
  refine R_constI DX9_isShop_10 ci_1 ?_
  refine R_isub DX9_isShop_11 ?_
  refine R_i2l DX9_isShop_12 ?_
  obtain ⟨r3, er3, h⟩ := bind_some h
  refine R_cS1 [.long (Int32.toInt64 x1), .long 0, .long (Int32.toInt64 (v2 - (iI 1)))] DX9_isShop_13 kzsX9_in ml_RX9_97 ⟨Nat.le_of_ble_eq_true rfl, Nat.le_of_ble_eq_true rfl⟩ rfl (Nat.le_of_ble_eq_true rfl) (kX9_in er3) ?_
  obtain ⟨_, ez, h⟩ := bind_some h
  cases h
  exact R_zreturn rfl DX9_isShop_16 (rZ_some ez)
set_option maxRecDepth 8000 in
theorem kX9_isDoor {G : Gm} {x0 : Nat} {x1 : Int32} {s : Hp} {w : Int32 × Hp} (h : fX9_isDoor x0 x1 s = some w) : (s.2.2 x0).1 = 9 ∧ Call G MX9_isDoor [.ref x0, .int x1] s (some (.int w.1), w.2) := by
  unfold fX9_isDoor at h
  obtain ⟨_, e0, h⟩ := bind_some h
  refine ⟨ck_some e0, Call.of_R pnRX9 (Nat.le_of_ble_eq_true rfl) ?_⟩
  clear e0
  show R G MX9_isDoor 0 [(0, .ref x0), (1, .int x1)] [] s (some (.int w.1), w.2)
  refine R_iload DX9_isDoor_0 1 rfl ?_
  refine R_i2l DX9_isDoor_1 ?_
  refine R_lconst DX9_isDoor_2 ?_
  refine R_aload DX9_isDoor_3 0 rfl ?_
  obtain ⟨v1, ev1, h⟩ := bind_some h
  refine R_gR DX9_isDoor_4 fl_RX9_34 ev1 ?_
  refine R_constI DX9_isDoor_7 ci_8 ?_
  obtain ⟨v2, ev2, h⟩ := bind_some h
  refine R_aI DX9_isDoor_9 ev2 ?_
  refine R_constI DX9_isDoor_10 ci_1 ?_
  refine R_isub DX9_isDoor_11 ?_
  refine R_i2l DX9_isDoor_12 ?_
  obtain ⟨r3, er3, h⟩ := bind_some h
  refine R_cS1 [.long (Int32.toInt64 x1), .long 0, .long (Int32.toInt64 (v2 - (iI 1)))] DX9_isDoor_13 kzsX9_in ml_RX9_97 ⟨Nat.le_of_ble_eq_true rfl, Nat.le_of_ble_eq_true rfl⟩ rfl (Nat.le_of_ble_eq_true rfl) (kX9_in er3) ?_
  obtain ⟨_, ez, h⟩ := bind_some h
  cases h
  exact R_zreturn rfl DX9_isDoor_16 (rZ_some ez)
set_option maxRecDepth 8000 in
theorem kX9_isWind {G : Gm} {x0 : Int64} {s : Hp} {w : Int32 × Hp} (h : fX9_isWind x0 s = some w) : Call G MX9_isWind [.long x0] s (some (.int w.1), w.2) := by
  unfold fX9_isWind at h
  refine Call.of_R pnRX9 (Nat.le_of_ble_eq_true rfl) ?_
  show R G MX9_isWind 0 [(0, .long x0)] [] s (some (.int w.1), w.2)
  refine R_lload DX9_isWind_0 0 rfl ?_
  refine R_lconst DX9_isWind_1 ?_
  refine R_ldc2 DX9_isWind_2 cw_RX9_298 ?_
  obtain ⟨r1, er1, h⟩ := bind_some h
  refine R_cS1 [.long x0, .long 0, .long 4] DX9_isWind_5 kzsX9_in ml_RX9_97 ⟨Nat.le_of_ble_eq_true rfl, Nat.le_of_ble_eq_true rfl⟩ rfl (Nat.le_of_ble_eq_true rfl) (kX9_in er1) ?_
  obtain ⟨_, ez, h⟩ := bind_some h
  cases h
  exact R_zreturn rfl DX9_isWind_8 (rZ_some ez)
set_option maxRecDepth 8000 in
theorem kX9_isAct {G : Gm} {x0 : Int32} {s : Hp} {w : Int32 × Hp} (h : fX9_isAct x0 s = some w) : Call G MX9_isAct [.int x0] s (some (.int w.1), w.2) := by
  unfold fX9_isAct at h
  refine Call.of_R pnRX9 (Nat.le_of_ble_eq_true rfl) ?_
  show R G MX9_isAct 0 [(0, .int x0)] [] s (some (.int w.1), w.2)
  refine R_iload DX9_isAct_0 0 rfl ?_
  refine R_i2l DX9_isAct_1 ?_
  refine R_lconst DX9_isAct_2 ?_
  refine R_ldc2 DX9_isAct_3 cw_RX9_300 ?_
  obtain ⟨r1, er1, h⟩ := bind_some h
  refine R_cS1 [.long (Int32.toInt64 x0), .long 0, .long 2] DX9_isAct_6 kzsX9_in ml_RX9_97 ⟨Nat.le_of_ble_eq_true rfl, Nat.le_of_ble_eq_true rfl⟩ rfl (Nat.le_of_ble_eq_true rfl) (kX9_in er1) ?_
  obtain ⟨_, ez, h⟩ := bind_some h
  cases h
  exact R_zreturn rfl DX9_isAct_9 (rZ_some ez)
set_option maxRecDepth 8000 in
theorem kX9_isBit {G : Gm} {x0 : Int32} {x1 : Int32} {s : Hp} {w : Int32 × Hp} (h : fX9_isBit x0 x1 s = some w) : Call G MX9_isBit [.int x0, .int x1] s (some (.int w.1), w.2) := by
  unfold fX9_isBit at h
  refine Call.of_R pnRX9 (Nat.le_of_ble_eq_true rfl) ?_
  show R G MX9_isBit 0 [(0, .int x0), (1, .int x1)] [] s (some (.int w.1), w.2)
  refine R_iload DX9_isBit_0 0 rfl ?_
  refine R_iload DX9_isBit_1 1 rfl ?_
  refine R_ishr DX9_isBit_2 ?_
  refine R_constI DX9_isBit_3 ci_1 ?_
  refine R_iand DX9_isBit_4 ?_
  refine R_constI DX9_isBit_5 ci_1 ?_
  by_cases c1 : ((isr x0 x1) &&& (iI 1)) = (iI 1)
  · replace h := if_t h c1
    refine R_icmp_ne_f DX9_isBit_6 c1 ?_
    refine R_constI DX9_isBit_9 ci_1 ?_
    refine R_goto DX9_isBit_10 ?_
    cases h
    exact R_zreturn rfl DX9_isBit_14 (by decide)
  · replace h := if_f h c1
    refine R_icmp_ne_t DX9_isBit_6 c1 ?_
    refine R_constI DX9_isBit_13 ci_0 ?_
    cases h
    exact R_zreturn rfl DX9_isBit_14 (by decide)
set_option maxRecDepth 8000 in
theorem tX9_sizeOf_l4 {G : Gm}  {o : Option Value × Hp} {a : Int32 × Int32 × Hp} {w : (Int32 × Int32 × Hp) ⊕ ((Int32 × Hp))} (h : fX9_sizeOf_l4 a = some w) (hc : ∀ (q1 : Int32) (q2 : Int32) (qs : Hp), w = .inl (q1, q2, qs) → R G MX9_sizeOf 4 [(1, .int q1), (2, .int q2)] [] qs o) (he0 : ∀ (q1 : Int32) (qs : Hp), w = .inr (q1, qs) → R G MX9_sizeOf 20 [(1, .int q1)] [] qs o) : R G MX9_sizeOf 4 [(1, .int a.1), (2, .int a.2.1)] [] a.2.2 o := by
  unfold fX9_sizeOf_l4 at h
  refine R_iload DX9_sizeOf_4 1 rfl ?_
  by_cases c1 : a.2.1 = 0
  · replace h := if_t h c1
    refine R_if_eq_t DX9_sizeOf_5 c1 ?_
    refine R.sub (L' := [(1, .int a.1)]) [0] rfl ?_
    cases h
    exact he0 _ _ rfl
  · replace h := if_f h c1
    refine R_if_eq_f DX9_sizeOf_5 c1 ?_
    refine R_iinc [(1, .int (a.1 + iI 1)), (2, .int a.2.1)] DX9_sizeOf_8 0 rfl (v := a.1 + iI 1) (by rfl) (by decide) rfl ?_
    refine R_iload DX9_sizeOf_11 1 rfl ?_
    refine R_iload DX9_sizeOf_12 1 rfl ?_
    refine R_constI DX9_sizeOf_13 ci_1 ?_
    refine R_isub DX9_sizeOf_14 ?_
    refine R_iand DX9_sizeOf_15 ?_
    obtain ⟨z2, ez2, h⟩ := lt_some h
    refine R_istoreE ez2 [(2, .int z2), (1, .int (a.1 + iI 1))] DX9_sizeOf_16 (by decide) rfl ?_
    refine R_goto DX9_sizeOf_17 ?_
    refine R.sub (L' := [(1, .int (a.1 + iI 1)), (2, .int z2)]) [1, 0] rfl ?_
    cases h
    exact hc _ _ _ rfl
set_option maxRecDepth 8000 in
theorem kX9_sizeOf {G : Gm} {x0 : Int32} {s : Hp} {w : Int32 × Hp} (h : fX9_sizeOf x0 s = some w) : Call G MX9_sizeOf [.int x0] s (some (.int w.1), w.2) := by
  unfold fX9_sizeOf at h
  refine Call.of_R pnRX9 (Nat.le_of_ble_eq_true rfl) ?_
  show R G MX9_sizeOf 0 [(0, .int x0)] [] s (some (.int w.1), w.2)
  refine R_constI DX9_sizeOf_0 ci_0 ?_
  refine R_istore [(1, .int (iI 0)), (0, .int x0)] DX9_sizeOf_1 (by decide) rfl ?_
  refine R_iload DX9_sizeOf_2 1 rfl ?_
  refine R_istore [(2, .int x0), (1, .int (iI 0)), (0, .int x0)] DX9_sizeOf_3 (by decide) rfl ?_
  refine R.sub (L' := [(1, .int (iI 0)), (2, .int x0)]) [1, 0] rfl ?_
  obtain ⟨r3, hi, h⟩ := bind_some h
  have hE : (fun u4 : Int32 × Hp => R G MX9_sizeOf 20 [(1, .int u4.1)] [] u4.2 (some (.int w.1), w.2)) r3 → ∀ (q1 : Int32) (q2 : Int32) (qs : Hp), iter fX9_sizeOf_l4 FU (q1, q2, qs) = some r3 → R G MX9_sizeOf 4 [(1, .int q1), (2, .int q2)] [] qs (some (.int w.1), w.2) := fun hX q1 q2 qs hj => loop_R fX9_sizeOf_l4 (fun p4 : Int32 × Int32 × Hp => R G MX9_sizeOf 4 [(1, .int p4.1), (2, .int p4.2.1)] [] p4.2.2 (some (.int w.1), w.2)) (fun u4 : Int32 × Hp => R G MX9_sizeOf 20 [(1, .int u4.1)] [] u4.2 (some (.int w.1), w.2)) (fun a w hw hc he => tX9_sizeOf_l4 hw (fun q1 q2 qs e => hc (q1, q2, qs) e) (fun q1 qs e => he (q1, qs) e)) FU (q1, q2, qs) r3 hj hX
  refine hE ?_ _ _ _ hi
  clear hE hi
  refine R_iload DX9_sizeOf_20 0 rfl ?_
  cases h
  exact R_ireturn rfl DX9_sizeOf_21
set_option maxRecDepth 8000 in
theorem kX9_windOf {G : Gm} {x0 : Nat} {x1 : Int32} {x2 : Int32} {s : Hp} {w : Int32 × Hp} (h : fX9_windOf x0 x1 x2 s = some w) : (s.2.2 x0).1 = 9 ∧ Call G MX9_windOf [.ref x0, .int x1, .int x2] s (some (.int w.1), w.2) := by
  unfold fX9_windOf at h
  obtain ⟨_, e0, h⟩ := bind_some h
  refine ⟨ck_some e0, Call.of_R pnRX9 (Nat.le_of_ble_eq_true rfl) ?_⟩
  clear e0
  show R G MX9_windOf 0 [(0, .ref x0), (1, .int x1), (2, .int x2)] [] s (some (.int w.1), w.2)
  refine R_aload DX9_windOf_0 0 rfl ?_
  obtain ⟨v1, ev1, h⟩ := bind_some h
  refine R_gR DX9_windOf_1 fl_RX9_37 ev1 ?_
  refine R_constI DX9_windOf_4 ci_24 ?_
  refine R_iload DX9_windOf_6 1 rfl ?_
  refine R_imul DX9_windOf_7 ?_
  refine R_iload DX9_windOf_8 2 rfl ?_
  refine R_iadd DX9_windOf_9 ?_
  obtain ⟨v2, ev2, h⟩ := bind_some h
  refine R_aI DX9_windOf_10 ev2 ?_
  cases h
  exact R_ireturn rfl DX9_windOf_11
set_option maxRecDepth 8000 in
theorem tX9_wind_b31 {G : Gm} {s : Hp} {w : Int32 × Hp} (h : fX9_wind_b31 s = some w) : R G MX9_wind 31 [] [] s (some (.int w.1), w.2) := by
  unfold fX9_wind_b31 at h
  refine R_constI DX9_wind_31 ci_m2 ?_
  cases h
  exact R_ireturn rfl DX9_wind_33
set_option maxRecDepth 8000 in
theorem kX9_wind {G : Gm} {x0 : Nat} {x1 : Int32} {x2 : Int32} {s : Hp} {w : Int32 × Hp} (h : fX9_wind x0 x1 x2 s = some w) : (s.2.2 x0).1 = 9 ∧ Call G MX9_wind [.ref x0, .int x1, .int x2] s (some (.int w.1), w.2) := by
  unfold fX9_wind at h
  obtain ⟨_, e0, h⟩ := bind_some h
  refine ⟨ck_some e0, Call.of_R pnRX9 (Nat.le_of_ble_eq_true rfl) ?_⟩
  clear e0
  show R G MX9_wind 0 [(0, .ref x0), (1, .int x1), (2, .int x2)] [] s (some (.int w.1), w.2)
  refine R_aload DX9_wind_0 0 rfl ?_
  refine R_constI DX9_wind_1 ci_0 ?_
  obtain ⟨s1, es1, h⟩ := bind_some h
  refine R_pI DX9_wind_2 fl_RX9_92 es1 ?_
  refine R_aload DX9_wind_5 0 rfl ?_
  refine R_iload DX9_wind_6 1 rfl ?_
  obtain ⟨r2, er2, h⟩ := bind_some h
  refine R_cV1 [.int x1] DX9_wind_7 kzvX9_isLayer ml_RX9_302 ⟨Nat.le_of_ble_eq_true rfl, Nat.le_of_ble_eq_true rfl⟩ rfl (Nat.le_of_ble_eq_true rfl) (kX9_isLayer er2) ?_
  by_cases c3 : r2.1 = 0
  · replace h := if_t h c3
    refine R_if_eq_t DX9_wind_10 c3 ?_
    refine R.sub (L' := []) [] rfl ?_
    exact tX9_wind_b31 h
  · replace h := if_f h c3
    refine R_if_eq_f DX9_wind_10 c3 ?_
    refine R_aload DX9_wind_13 0 rfl ?_
    refine R_iload DX9_wind_14 2 rfl ?_
    refine R_i2l DX9_wind_15 ?_
    obtain ⟨r4, er4, h⟩ := bind_some h
    refine R_cV1 [.long (Int32.toInt64 x2)] DX9_wind_16 kzvX9_isHour ml_RX9_305 ⟨Nat.le_of_ble_eq_true rfl, Nat.le_of_ble_eq_true rfl⟩ rfl (Nat.le_of_ble_eq_true rfl) (kX9_isHour er4) ?_
    by_cases c5 : r4.1 = 0
    · replace h := if_t h c5
      refine R_if_eq_t DX9_wind_19 c5 ?_
      refine R.sub (L' := []) [] rfl ?_
      exact tX9_wind_b31 h
    · replace h := if_f h c5
      refine R_if_eq_f DX9_wind_19 c5 ?_
      refine R_aload DX9_wind_22 0 rfl ?_
      refine R_iload DX9_wind_23 1 rfl ?_
      refine R_iload DX9_wind_24 2 rfl ?_
      obtain ⟨r6, er6, h⟩ := bind_some h
      refine R_cV1 [.int x1, .int x2] DX9_wind_25 kzvX9_windOf ml_RX9_308 ⟨Nat.le_of_ble_eq_true rfl, Nat.le_of_ble_eq_true rfl⟩ rfl (Nat.le_of_ble_eq_true rfl) (kX9_windOf er6) ?_
      refine R_goto DX9_wind_28 ?_
      cases h
      exact R_ireturn rfl DX9_wind_33
set_option maxRecDepth 8000 in
theorem tX9_often_b21 {G : Gm} {s : Hp} {w : Int32 × Hp} (h : fX9_often_b21 s = some w) : R G MX9_often 21 [] [] s (some (.int w.1), w.2) := by
  unfold fX9_often_b21 at h
  refine R_constI DX9_often_21 ci_m2 ?_
  cases h
  exact R_ireturn rfl DX9_often_23
set_option maxRecDepth 8000 in
theorem tX9_often_b57 {G : Gm} {x0 : Nat} {x1 : Int32} {x2 : Int32} {x4 : Int32} {y0 : Int32} {y1 : Int32} {s : Hp} {o : Option Value × Hp} {w : (Int32 × Int32 × Hp) ⊕ ((Int32 × Hp))} (h : fX9_often_b57 x0 x1 x2 x4 y0 y1 s = some w) (hc : ∀ (q3 : Int32) (q4 : Int32) (qs : Hp), w = .inl (q3, q4, qs) → R G MX9_often 29 [(0, .ref x0), (1, .int x1), (2, .int x2), (3, .int q3), (4, .int q4)] [] qs o) (he0 : ∀ (q3 : Int32) (qs : Hp), w = .inr (q3, qs) → R G MX9_often 65 [(3, .int q3)] [] qs o) : R G MX9_often 57 [(0, .ref x0), (1, .int x1), (2, .int x2), (4, .int x4)] [.int y1, .int y0] s o := by
  unfold fX9_often_b57 at h
  refine R_iadd DX9_often_57 ?_
  obtain ⟨z11, ez11, h⟩ := lt_some h
  refine R_istoreE ez11 [(3, .int z11), (0, .ref x0), (1, .int x1), (2, .int x2), (4, .int x4)] DX9_often_58 (by decide) rfl ?_
  refine R_iinc [(4, .int (x4 + iI 1)), (3, .int z11), (0, .ref x0), (1, .int x1), (2, .int x2)] DX9_often_59 4 rfl (v := x4 + iI 1) (by rfl) (by decide) rfl ?_
  refine R_goto DX9_often_62 ?_
  refine R.sub (L' := [(0, .ref x0), (1, .int x1), (2, .int x2), (3, .int z11), (4, .int (x4 + iI 1))]) [2, 3, 4, 1, 0] rfl ?_
  cases h
  exact hc _ _ _ rfl
set_option maxRecDepth 8000 in
theorem tX9_often_l29 {G : Gm} {x0 : Nat} {x1 : Int32} {x2 : Int32} {o : Option Value × Hp} {a : Int32 × Int32 × Hp} {w : (Int32 × Int32 × Hp) ⊕ ((Int32 × Hp))} (h : fX9_often_l29 x0 x1 x2 a = some w) (hc : ∀ (q3 : Int32) (q4 : Int32) (qs : Hp), w = .inl (q3, q4, qs) → R G MX9_often 29 [(0, .ref x0), (1, .int x1), (2, .int x2), (3, .int q3), (4, .int q4)] [] qs o) (he0 : ∀ (q3 : Int32) (qs : Hp), w = .inr (q3, qs) → R G MX9_often 65 [(3, .int q3)] [] qs o) : R G MX9_often 29 [(0, .ref x0), (1, .int x1), (2, .int x2), (3, .int a.1), (4, .int a.2.1)] [] a.2.2 o := by
  unfold fX9_often_l29 at h
  refine R_iload DX9_often_29 4 rfl ?_
  refine R_aload DX9_often_31 0 rfl ?_
  obtain ⟨v6, ev6, h⟩ := bind_some h
  refine R_gR DX9_often_32 fl_RX9_34 ev6 ?_
  refine R_constI DX9_often_35 ci_3 ?_
  obtain ⟨v7, ev7, h⟩ := bind_some h
  refine R_aI DX9_often_36 ev7 ?_
  by_cases c8 : v7 ≤ a.2.1
  · replace h := if_t h c8
    refine R_icmp_ge_t DX9_often_37 c8 ?_
    refine R.sub (L' := [(3, .int a.1)]) [3] rfl ?_
    cases h
    exact he0 _ _ rfl
  · replace h := if_f h c8
    refine R_icmp_ge_f DX9_often_37 c8 ?_
    refine R_iload DX9_often_40 3 rfl ?_
    refine R_aload DX9_often_41 0 rfl ?_
    refine R_iload DX9_often_42 1 rfl ?_
    refine R_iload DX9_often_43 4 rfl ?_
    obtain ⟨r9, er9, h⟩ := bind_some h
    refine R_cV1 [.int x1, .int a.2.1] DX9_often_45 kzvX9_windOf ml_RX9_308 ⟨Nat.le_of_ble_eq_true rfl, Nat.le_of_ble_eq_true rfl⟩ rfl (Nat.le_of_ble_eq_true rfl) (kX9_windOf er9) ?_
    refine R_iload DX9_often_48 2 rfl ?_
    by_cases c10 : r9.1 = x2
    · replace h := if_t h c10
      refine R_icmp_ne_f DX9_often_49 c10 ?_
      refine R_constI DX9_often_52 ci_1 ?_
      refine R_goto DX9_often_53 ?_
      refine R.sub (L' := [(0, .ref x0), (1, .int x1), (2, .int x2), (4, .int a.2.1)]) [0, 1, 2, 4] rfl ?_
      exact tX9_often_b57 h hc he0
    · replace h := if_f h c10
      refine R_icmp_ne_t DX9_often_49 c10 ?_
      refine R_constI DX9_often_56 ci_0 ?_
      refine R.sub (L' := [(0, .ref x0), (1, .int x1), (2, .int x2), (4, .int a.2.1)]) [0, 1, 2, 4] rfl ?_
      exact tX9_often_b57 h hc he0
set_option maxRecDepth 8000 in
theorem kX9_often {G : Gm} {x0 : Nat} {x1 : Int32} {x2 : Int32} {s : Hp} {w : Int32 × Hp} (h : fX9_often x0 x1 x2 s = some w) : (s.2.2 x0).1 = 9 ∧ Call G MX9_often [.ref x0, .int x1, .int x2] s (some (.int w.1), w.2) := by
  unfold fX9_often at h
  obtain ⟨_, e0, h⟩ := bind_some h
  refine ⟨ck_some e0, Call.of_R pnRX9 (Nat.le_of_ble_eq_true rfl) ?_⟩
  clear e0
  show R G MX9_often 0 [(0, .ref x0), (1, .int x1), (2, .int x2)] [] s (some (.int w.1), w.2)
  refine R_aload DX9_often_0 0 rfl ?_
  refine R_constI DX9_often_1 ci_0 ?_
  obtain ⟨s1, es1, h⟩ := bind_some h
  refine R_pI DX9_often_2 fl_RX9_92 es1 ?_
  refine R_aload DX9_often_5 0 rfl ?_
  refine R_iload DX9_often_6 1 rfl ?_
  obtain ⟨r2, er2, h⟩ := bind_some h
  refine R_cV1 [.int x1] DX9_often_7 kzvX9_isLayer ml_RX9_302 ⟨Nat.le_of_ble_eq_true rfl, Nat.le_of_ble_eq_true rfl⟩ rfl (Nat.le_of_ble_eq_true rfl) (kX9_isLayer er2) ?_
  by_cases c3 : r2.1 = 0
  · replace h := if_t h c3
    refine R_if_eq_t DX9_often_10 c3 ?_
    refine R.sub (L' := []) [] rfl ?_
    exact tX9_often_b21 h
  · replace h := if_f h c3
    refine R_if_eq_f DX9_often_10 c3 ?_
    refine R_iload DX9_often_13 2 rfl ?_
    refine R_i2l DX9_often_14 ?_
    obtain ⟨r4, er4, h⟩ := bind_some h
    refine R_cS1 [.long (Int32.toInt64 x2)] DX9_often_15 kzsX9_isWind ml_RX9_311 ⟨Nat.le_of_ble_eq_true rfl, Nat.le_of_ble_eq_true rfl⟩ rfl (Nat.le_of_ble_eq_true rfl) (kX9_isWind er4) ?_
    by_cases c5 : r4.1 = 0
    · replace h := if_t h c5
      refine R_if_ne_f DX9_often_18 c5 ?_
      refine R.sub (L' := []) [] rfl ?_
      exact tX9_often_b21 h
    · replace h := if_f h c5
      refine R_if_ne_t DX9_often_18 c5 ?_
      refine R_constI DX9_often_24 ci_0 ?_
      refine R_istore [(3, .int (iI 0)), (0, .ref x0), (1, .int x1), (2, .int x2)] DX9_often_25 (by decide) rfl ?_
      refine R_constI DX9_often_26 ci_0 ?_
      refine R_istore [(4, .int (iI 0)), (3, .int (iI 0)), (0, .ref x0), (1, .int x1), (2, .int x2)] DX9_often_27 (by decide) rfl ?_
      refine R.sub (L' := [(0, .ref x0), (1, .int x1), (2, .int x2), (3, .int (iI 0)), (4, .int (iI 0))]) [2, 3, 4, 1, 0] rfl ?_
      obtain ⟨r12, hi, h⟩ := bind_some h
      have hE : (fun u29 : Int32 × Hp => R G MX9_often 65 [(3, .int u29.1)] [] u29.2 (some (.int w.1), w.2)) r12 → ∀ (q3 : Int32) (q4 : Int32) (qs : Hp), iter (fX9_often_l29 x0 x1 x2) FU (q3, q4, qs) = some r12 → R G MX9_often 29 [(0, .ref x0), (1, .int x1), (2, .int x2), (3, .int q3), (4, .int q4)] [] qs (some (.int w.1), w.2) := fun hX q3 q4 qs hj => loop_R (fX9_often_l29 x0 x1 x2) (fun p29 : Int32 × Int32 × Hp => R G MX9_often 29 [(0, .ref x0), (1, .int x1), (2, .int x2), (3, .int p29.1), (4, .int p29.2.1)] [] p29.2.2 (some (.int w.1), w.2)) (fun u29 : Int32 × Hp => R G MX9_often 65 [(3, .int u29.1)] [] u29.2 (some (.int w.1), w.2)) (fun a w hw hc he => tX9_often_l29 hw (fun q3 q4 qs e => hc (q3, q4, qs) e) (fun q3 qs e => he (q3, qs) e)) FU (q3, q4, qs) r12 hj hX
      refine hE ?_ _ _ _ hi
      clear hE hi
      refine R_iload DX9_often_65 0 rfl ?_
      cases h
      exact R_ireturn rfl DX9_often_66
set_option maxRecDepth 8000 in
theorem tX9_shop_b39 {G : Gm} {s : Hp} {w : Int32 × Hp} (h : fX9_shop_b39 s = some w) : R G MX9_shop 39 [] [] s (some (.int w.1), w.2) := by
  unfold fX9_shop_b39 at h
  refine R_constI DX9_shop_39 ci_m2 ?_
  cases h
  exact R_ireturn rfl DX9_shop_41
set_option maxRecDepth 8000 in
theorem kX9_shop {G : Gm} {x0 : Nat} {x1 : Int32} {x2 : Int32} {s : Hp} {w : Int32 × Hp} (h : fX9_shop x0 x1 x2 s = some w) : (s.2.2 x0).1 = 9 ∧ Call G MX9_shop [.ref x0, .int x1, .int x2] s (some (.int w.1), w.2) := by
  unfold fX9_shop at h
  obtain ⟨_, e0, h⟩ := bind_some h
  refine ⟨ck_some e0, Call.of_R pnRX9 (Nat.le_of_ble_eq_true rfl) ?_⟩
  clear e0
  show R G MX9_shop 0 [(0, .ref x0), (1, .int x1), (2, .int x2)] [] s (some (.int w.1), w.2)
  refine R_aload DX9_shop_0 0 rfl ?_
  refine R_constI DX9_shop_1 ci_0 ?_
  obtain ⟨s1, es1, h⟩ := bind_some h
  refine R_pI DX9_shop_2 fl_RX9_92 es1 ?_
  refine R_aload DX9_shop_5 0 rfl ?_
  refine R_iload DX9_shop_6 1 rfl ?_
  obtain ⟨r2, er2, h⟩ := bind_some h
  refine R_cV1 [.int x1] DX9_shop_7 kzvX9_isShop ml_RX9_314 ⟨Nat.le_of_ble_eq_true rfl, Nat.le_of_ble_eq_true rfl⟩ rfl (Nat.le_of_ble_eq_true rfl) (kX9_isShop er2) ?_
  by_cases c3 : r2.1 = 0
  · replace h := if_t h c3
    refine R_if_eq_t DX9_shop_10 c3 ?_
    refine R.sub (L' := []) [] rfl ?_
    exact tX9_shop_b39 h
  · replace h := if_f h c3
    refine R_if_eq_f DX9_shop_10 c3 ?_
    refine R_iload DX9_shop_13 2 rfl ?_
    refine R_i2l DX9_shop_14 ?_
    refine R_lconst DX9_shop_15 ?_
    refine R_ldc2 DX9_shop_16 cw_RX9_317 ?_
    obtain ⟨r4, er4, h⟩ := bind_some h
    refine R_cS1 [.long (Int32.toInt64 x2), .long 0, .long 5] DX9_shop_19 kzsX9_in ml_RX9_97 ⟨Nat.le_of_ble_eq_true rfl, Nat.le_of_ble_eq_true rfl⟩ rfl (Nat.le_of_ble_eq_true rfl) (kX9_in er4) ?_
    by_cases c5 : r4.1 = 0
    · replace h := if_t h c5
      refine R_if_eq_t DX9_shop_22 c5 ?_
      refine R.sub (L' := []) [] rfl ?_
      exact tX9_shop_b39 h
    · replace h := if_f h c5
      refine R_if_eq_f DX9_shop_22 c5 ?_
      refine R_aload DX9_shop_25 0 rfl ?_
      obtain ⟨v6, ev6, h⟩ := bind_some h
      refine R_gR DX9_shop_26 fl_RX9_43 ev6 ?_
      refine R_constI DX9_shop_29 ci_6 ?_
      refine R_iload DX9_shop_31 1 rfl ?_
      refine R_imul DX9_shop_32 ?_
      refine R_iload DX9_shop_33 2 rfl ?_
      refine R_iadd DX9_shop_34 ?_
      obtain ⟨v7, ev7, h⟩ := bind_some h
      refine R_aI DX9_shop_35 ev7 ?_
      refine R_goto DX9_shop_36 ?_
      cases h
      exact R_ireturn rfl DX9_shop_41
set_option maxRecDepth 8000 in
theorem tX9_act_b36 {G : Gm} {s : Hp} {w : Int32 × Hp} (h : fX9_act_b36 s = some w) : R G MX9_act 36 [] [] s (some (.int w.1), w.2) := by
  unfold fX9_act_b36 at h
  refine R_constI DX9_act_36 ci_m2 ?_
  cases h
  exact R_ireturn rfl DX9_act_38
set_option maxRecDepth 8000 in
theorem kX9_act {G : Gm} {x0 : Nat} {x1 : Int32} {x2 : Int32} {s : Hp} {w : Int32 × Hp} (h : fX9_act x0 x1 x2 s = some w) : (s.2.2 x0).1 = 9 ∧ Call G MX9_act [.ref x0, .int x1, .int x2] s (some (.int w.1), w.2) := by
  unfold fX9_act at h
  obtain ⟨_, e0, h⟩ := bind_some h
  refine ⟨ck_some e0, Call.of_R pnRX9 (Nat.le_of_ble_eq_true rfl) ?_⟩
  clear e0
  show R G MX9_act 0 [(0, .ref x0), (1, .int x1), (2, .int x2)] [] s (some (.int w.1), w.2)
  refine R_aload DX9_act_0 0 rfl ?_
  refine R_constI DX9_act_1 ci_0 ?_
  obtain ⟨s1, es1, h⟩ := bind_some h
  refine R_pI DX9_act_2 fl_RX9_92 es1 ?_
  refine R_aload DX9_act_5 0 rfl ?_
  refine R_iload DX9_act_6 1 rfl ?_
  obtain ⟨r2, er2, h⟩ := bind_some h
  refine R_cV1 [.int x1] DX9_act_7 kzvX9_isShop ml_RX9_314 ⟨Nat.le_of_ble_eq_true rfl, Nat.le_of_ble_eq_true rfl⟩ rfl (Nat.le_of_ble_eq_true rfl) (kX9_isShop er2) ?_
  by_cases c3 : r2.1 = 0
  · replace h := if_t h c3
    refine R_if_eq_t DX9_act_10 c3 ?_
    refine R.sub (L' := []) [] rfl ?_
    exact tX9_act_b36 h
  · replace h := if_f h c3
    refine R_if_eq_f DX9_act_10 c3 ?_
    refine R_aload DX9_act_13 0 rfl ?_
    refine R_iload DX9_act_14 2 rfl ?_
    refine R_i2l DX9_act_15 ?_
    obtain ⟨r4, er4, h⟩ := bind_some h
    refine R_cV1 [.long (Int32.toInt64 x2)] DX9_act_16 kzvX9_isHour ml_RX9_305 ⟨Nat.le_of_ble_eq_true rfl, Nat.le_of_ble_eq_true rfl⟩ rfl (Nat.le_of_ble_eq_true rfl) (kX9_isHour er4) ?_
    by_cases c5 : r4.1 = 0
    · replace h := if_t h c5
      refine R_if_eq_t DX9_act_19 c5 ?_
      refine R.sub (L' := []) [] rfl ?_
      exact tX9_act_b36 h
    · replace h := if_f h c5
      refine R_if_eq_f DX9_act_19 c5 ?_
      refine R_aload DX9_act_22 0 rfl ?_
      obtain ⟨v6, ev6, h⟩ := bind_some h
      refine R_gR DX9_act_23 fl_RX9_49 ev6 ?_
      refine R_constI DX9_act_26 ci_24 ?_
      refine R_iload DX9_act_28 1 rfl ?_
      refine R_imul DX9_act_29 ?_
      refine R_iload DX9_act_30 2 rfl ?_
      refine R_iadd DX9_act_31 ?_
      obtain ⟨v7, ev7, h⟩ := bind_some h
      refine R_aI DX9_act_32 ev7 ?_
      refine R_goto DX9_act_33 ?_
      cases h
      exact R_ireturn rfl DX9_act_38
set_option maxRecDepth 8000 in
theorem tX9_plan_b29 {G : Gm} {s : Hp} {w : Int32 × Hp} (h : fX9_plan_b29 s = some w) : R G MX9_plan 29 [] [] s (some (.int w.1), w.2) := by
  unfold fX9_plan_b29 at h
  refine R_constI DX9_plan_29 ci_m2 ?_
  cases h
  exact R_ireturn rfl DX9_plan_31
set_option maxRecDepth 8000 in
theorem kX9_plan {G : Gm} {x0 : Nat} {x1 : Int32} {x2 : Int32} {x3 : Int32} {s : Hp} {w : Int32 × Hp} (h : fX9_plan x0 x1 x2 x3 s = some w) : (s.2.2 x0).1 = 9 ∧ Call G MX9_plan [.ref x0, .int x1, .int x2, .int x3] s (some (.int w.1), w.2) := by
  unfold fX9_plan at h
  obtain ⟨_, e0, h⟩ := bind_some h
  refine ⟨ck_some e0, Call.of_R pnRX9 (Nat.le_of_ble_eq_true rfl) ?_⟩
  clear e0
  show R G MX9_plan 0 [(0, .ref x0), (1, .int x1), (2, .int x2), (3, .int x3)] [] s (some (.int w.1), w.2)
  refine R_aload DX9_plan_0 0 rfl ?_
  refine R_constI DX9_plan_1 ci_0 ?_
  obtain ⟨s1, es1, h⟩ := bind_some h
  refine R_pI DX9_plan_2 fl_RX9_92 es1 ?_
  refine R_aload DX9_plan_5 0 rfl ?_
  refine R_iload DX9_plan_6 1 rfl ?_
  obtain ⟨r2, er2, h⟩ := bind_some h
  refine R_cV1 [.int x1] DX9_plan_7 kzvX9_isShop ml_RX9_314 ⟨Nat.le_of_ble_eq_true rfl, Nat.le_of_ble_eq_true rfl⟩ rfl (Nat.le_of_ble_eq_true rfl) (kX9_isShop er2) ?_
  by_cases c3 : r2.1 = 0
  · replace h := if_t h c3
    refine R_if_eq_t DX9_plan_10 c3 ?_
    refine R.sub (L' := []) [] rfl ?_
    exact tX9_plan_b29 h
  · replace h := if_f h c3
    refine R_if_eq_f DX9_plan_10 c3 ?_
    refine R_aload DX9_plan_13 0 rfl ?_
    refine R_iload DX9_plan_14 2 rfl ?_
    refine R_i2l DX9_plan_15 ?_
    obtain ⟨r4, er4, h⟩ := bind_some h
    refine R_cV1 [.long (Int32.toInt64 x2)] DX9_plan_16 kzvX9_isHour ml_RX9_305 ⟨Nat.le_of_ble_eq_true rfl, Nat.le_of_ble_eq_true rfl⟩ rfl (Nat.le_of_ble_eq_true rfl) (kX9_isHour er4) ?_
    by_cases c5 : r4.1 = 0
    · replace h := if_t h c5
      refine R_if_eq_t DX9_plan_19 c5 ?_
      refine R.sub (L' := []) [] rfl ?_
      exact tX9_plan_b29 h
    · replace h := if_f h c5
      refine R_if_eq_f DX9_plan_19 c5 ?_
      refine R_iload DX9_plan_22 3 rfl ?_
      obtain ⟨r6, er6, h⟩ := bind_some h
      refine R_cS1 [.int x3] DX9_plan_23 kzsX9_isAct ml_RX9_319 ⟨Nat.le_of_ble_eq_true rfl, Nat.le_of_ble_eq_true rfl⟩ rfl (Nat.le_of_ble_eq_true rfl) (kX9_isAct er6) ?_
      by_cases c7 : r6.1 = 0
      · replace h := if_t h c7
        refine R_if_ne_f DX9_plan_26 c7 ?_
        refine R.sub (L' := []) [] rfl ?_
        exact tX9_plan_b29 h
      · replace h := if_f h c7
        refine R_if_ne_t DX9_plan_26 c7 ?_
        refine R_aload DX9_plan_32 0 rfl ?_
        obtain ⟨v8, ev8, h⟩ := bind_some h
        refine R_gR DX9_plan_33 fl_RX9_34 ev8 ?_
        refine R_constI DX9_plan_36 ci_14 ?_
        obtain ⟨v9, ev9, h⟩ := bind_some h
        refine R_aI DX9_plan_38 ev9 ?_
        refine R_istore [(4, .int v9), (0, .ref x0), (1, .int x1), (2, .int x2), (3, .int x3)] DX9_plan_39 (by decide) rfl ?_
        refine R_iload DX9_plan_41 0 rfl ?_
        refine R_constI DX9_plan_43 ci_60 ?_
        by_cases c10 : v9 = (iI 60)
        · replace h := if_t h c10
          refine R_icmp_ne_f DX9_plan_45 c10 ?_
          refine R_constI DX9_plan_48 ci_m5 ?_
          cases h
          exact R_ireturn rfl DX9_plan_50
        · replace h := if_f h c10
          refine R_icmp_ne_t DX9_plan_45 c10 ?_
          refine R_aload DX9_plan_51 1 rfl ?_
          obtain ⟨v11, ev11, h⟩ := bind_some h
          refine R_gR DX9_plan_52 fl_RX9_49 ev11 ?_
          refine R_constI DX9_plan_55 ci_24 ?_
          refine R_iload DX9_plan_57 2 rfl ?_
          refine R_imul DX9_plan_58 ?_
          refine R_iload DX9_plan_59 3 rfl ?_
          refine R_iadd DX9_plan_60 ?_
          obtain ⟨v12, ev12, h⟩ := bind_some h
          refine R_aI DX9_plan_61 ev12 ?_
          refine R_istore [(5, .int v12), (4, .int v9), (0, .ref x0), (1, .int x1), (2, .int x2), (3, .int x3)] DX9_plan_62 (by decide) rfl ?_
          refine R_aload DX9_plan_64 2 rfl ?_
          obtain ⟨v13, ev13, h⟩ := bind_some h
          refine R_gR DX9_plan_65 fl_RX9_52 ev13 ?_
          refine R_constI DX9_plan_68 ci_4 ?_
          refine R_iload DX9_plan_69 1 rfl ?_
          refine R_imul DX9_plan_71 ?_
          refine R_iload DX9_plan_72 3 rfl ?_
          obtain ⟨s14, es14, h⟩ := bind_some h
          refine R_sI DX9_plan_73 es14 ?_
          refine R_aload DX9_plan_74 2 rfl ?_
          obtain ⟨v15, ev15, h⟩ := bind_some h
          refine R_gR DX9_plan_75 fl_RX9_52 ev15 ?_
          refine R_constI DX9_plan_78 ci_4 ?_
          refine R_iload DX9_plan_79 1 rfl ?_
          refine R_imul DX9_plan_81 ?_
          refine R_constI DX9_plan_82 ci_1 ?_
          refine R_iadd DX9_plan_83 ?_
          refine R_iload DX9_plan_84 4 rfl ?_
          obtain ⟨s16, es16, h⟩ := bind_some h
          refine R_sI DX9_plan_85 es16 ?_
          refine R_aload DX9_plan_86 2 rfl ?_
          obtain ⟨v17, ev17, h⟩ := bind_some h
          refine R_gR DX9_plan_87 fl_RX9_52 ev17 ?_
          refine R_constI DX9_plan_90 ci_4 ?_
          refine R_iload DX9_plan_91 1 rfl ?_
          refine R_imul DX9_plan_93 ?_
          refine R_constI DX9_plan_94 ci_2 ?_
          refine R_iadd DX9_plan_95 ?_
          refine R_iload DX9_plan_96 5 rfl ?_
          obtain ⟨s18, es18, h⟩ := bind_some h
          refine R_sI DX9_plan_97 es18 ?_
          refine R_aload DX9_plan_98 2 rfl ?_
          obtain ⟨v19, ev19, h⟩ := bind_some h
          refine R_gR DX9_plan_99 fl_RX9_52 ev19 ?_
          refine R_constI DX9_plan_102 ci_4 ?_
          refine R_iload DX9_plan_103 1 rfl ?_
          refine R_imul DX9_plan_105 ?_
          refine R_constI DX9_plan_106 ci_3 ?_
          refine R_iadd DX9_plan_107 ?_
          refine R_iload DX9_plan_108 0 rfl ?_
          obtain ⟨s20, es20, h⟩ := bind_some h
          refine R_sI DX9_plan_110 es20 ?_
          refine R_aload DX9_plan_111 2 rfl ?_
          obtain ⟨v21, ev21, h⟩ := bind_some h
          refine R_gR DX9_plan_112 fl_RX9_49 ev21 ?_
          refine R_constI DX9_plan_115 ci_24 ?_
          refine R_iload DX9_plan_117 3 rfl ?_
          refine R_imul DX9_plan_118 ?_
          refine R_iload DX9_plan_119 4 rfl ?_
          refine R_iadd DX9_plan_120 ?_
          refine R_iload DX9_plan_121 5 rfl ?_
          obtain ⟨s22, es22, h⟩ := bind_some h
          refine R_sI DX9_plan_122 es22 ?_
          refine R_aload DX9_plan_123 2 rfl ?_
          obtain ⟨v23, ev23, h⟩ := bind_some h
          refine R_gR DX9_plan_124 fl_RX9_34 ev23 ?_
          refine R_constI DX9_plan_127 ci_14 ?_
          refine R_dup2 DX9_plan_129 rfl rfl ?_
          obtain ⟨v24, ev24, h⟩ := bind_some h
          refine R_aI DX9_plan_130 ev24 ?_
          refine R_constI DX9_plan_131 ci_1 ?_
          refine R_iadd DX9_plan_132 ?_
          obtain ⟨s25, es25, h⟩ := bind_some h
          refine R_sI DX9_plan_133 es25 ?_
          refine R_iload DX9_plan_134 0 rfl ?_
          cases h
          exact R_ireturn rfl DX9_plan_136
set_option maxRecDepth 8000 in
theorem kX9_undo {G : Gm} {x0 : Nat} {s : Hp} {w : Int32 × Hp} (h : fX9_undo x0 s = some w) : (s.2.2 x0).1 = 9 ∧ Call G MX9_undo [.ref x0] s (some (.int w.1), w.2) := by
  unfold fX9_undo at h
  obtain ⟨_, e0, h⟩ := bind_some h
  refine ⟨ck_some e0, Call.of_R pnRX9 (Nat.le_of_ble_eq_true rfl) ?_⟩
  clear e0
  show R G MX9_undo 0 [(0, .ref x0)] [] s (some (.int w.1), w.2)
  refine R_aload DX9_undo_0 0 rfl ?_
  refine R_constI DX9_undo_1 ci_0 ?_
  obtain ⟨s1, es1, h⟩ := bind_some h
  refine R_pI DX9_undo_2 fl_RX9_92 es1 ?_
  refine R_aload DX9_undo_5 0 rfl ?_
  obtain ⟨r2, er2, h⟩ := bind_some h
  refine R_cV1 [] DX9_undo_6 kzvX9_isValley ml_RX9_322 ⟨Nat.le_of_ble_eq_true rfl, Nat.le_of_ble_eq_true rfl⟩ rfl (Nat.le_of_ble_eq_true rfl) (kX9_isValley er2) ?_
  by_cases c3 : r2.1 = 0
  · replace h := if_t h c3
    refine R_if_ne_f DX9_undo_9 c3 ?_
    refine R_constI DX9_undo_12 ci_m2 ?_
    cases h
    exact R_ireturn rfl DX9_undo_14
  · replace h := if_f h c3
    refine R_if_ne_t DX9_undo_9 c3 ?_
    refine R_aload DX9_undo_15 0 rfl ?_
    obtain ⟨v4, ev4, h⟩ := bind_some h
    refine R_gR DX9_undo_16 fl_RX9_34 ev4 ?_
    refine R_constI DX9_undo_19 ci_14 ?_
    obtain ⟨v5, ev5, h⟩ := bind_some h
    refine R_aI DX9_undo_21 ev5 ?_
    by_cases c6 : v5 = 0
    · replace h := if_t h c6
      refine R_if_ne_f DX9_undo_22 c6 ?_
      refine R_constI DX9_undo_25 ci_m5 ?_
      cases h
      exact R_ireturn rfl DX9_undo_27
    · replace h := if_f h c6
      refine R_if_ne_t DX9_undo_22 c6 ?_
      refine R_aload DX9_undo_28 0 rfl ?_
      obtain ⟨v7, ev7, h⟩ := bind_some h
      refine R_gR DX9_undo_29 fl_RX9_34 ev7 ?_
      refine R_constI DX9_undo_32 ci_14 ?_
      refine R_dup2 DX9_undo_34 rfl rfl ?_
      obtain ⟨v8, ev8, h⟩ := bind_some h
      refine R_aI DX9_undo_35 ev8 ?_
      refine R_constI DX9_undo_36 ci_1 ?_
      refine R_isub DX9_undo_37 ?_
      obtain ⟨s9, es9, h⟩ := bind_some h
      refine R_sI DX9_undo_38 es9 ?_
      refine R_constI DX9_undo_39 ci_4 ?_
      refine R_aload DX9_undo_40 0 rfl ?_
      obtain ⟨v10, ev10, h⟩ := bind_some h
      refine R_gR DX9_undo_41 fl_RX9_34 ev10 ?_
      refine R_constI DX9_undo_44 ci_14 ?_
      obtain ⟨v11, ev11, h⟩ := bind_some h
      refine R_aI DX9_undo_46 ev11 ?_
      refine R_imul DX9_undo_47 ?_
      obtain ⟨z12, ez12, h⟩ := lt_some h
      refine R_istoreE ez12 [(1, .int z12), (0, .ref x0)] DX9_undo_48 (by decide) rfl ?_
      refine R_aload DX9_undo_49 1 rfl ?_
      obtain ⟨v13, ev13, h⟩ := bind_some h
      refine R_gR DX9_undo_50 fl_RX9_49 ev13 ?_
      refine R_constI DX9_undo_53 ci_24 ?_
      refine R_aload DX9_undo_55 1 rfl ?_
      obtain ⟨v14, ev14, h⟩ := bind_some h
      refine R_gR DX9_undo_56 fl_RX9_52 ev14 ?_
      refine R_iload DX9_undo_59 0 rfl ?_
      obtain ⟨v15, ev15, h⟩ := bind_some h
      refine R_aI DX9_undo_60 ev15 ?_
      refine R_imul DX9_undo_61 ?_
      refine R_aload DX9_undo_62 1 rfl ?_
      obtain ⟨v16, ev16, h⟩ := bind_some h
      refine R_gR DX9_undo_63 fl_RX9_52 ev16 ?_
      refine R_iload DX9_undo_66 0 rfl ?_
      refine R_constI DX9_undo_67 ci_1 ?_
      refine R_iadd DX9_undo_68 ?_
      obtain ⟨v17, ev17, h⟩ := bind_some h
      refine R_aI DX9_undo_69 ev17 ?_
      refine R_iadd DX9_undo_70 ?_
      refine R_aload DX9_undo_71 1 rfl ?_
      obtain ⟨v18, ev18, h⟩ := bind_some h
      refine R_gR DX9_undo_72 fl_RX9_52 ev18 ?_
      refine R_iload DX9_undo_75 0 rfl ?_
      refine R_constI DX9_undo_76 ci_3 ?_
      refine R_iadd DX9_undo_77 ?_
      obtain ⟨v19, ev19, h⟩ := bind_some h
      refine R_aI DX9_undo_78 ev19 ?_
      obtain ⟨s20, es20, h⟩ := bind_some h
      refine R_sI DX9_undo_79 es20 ?_
      refine R_aload DX9_undo_80 1 rfl ?_
      obtain ⟨v21, ev21, h⟩ := bind_some h
      refine R_gR DX9_undo_81 fl_RX9_34 ev21 ?_
      refine R_constI DX9_undo_84 ci_14 ?_
      obtain ⟨v22, ev22, h⟩ := bind_some h
      refine R_aI DX9_undo_86 ev22 ?_
      cases h
      exact R_ireturn rfl DX9_undo_87
set_option maxRecDepth 8000 in
theorem tX9_changed_b24 {G : Gm} {s : Hp} {w : Int32 × Hp} (h : fX9_changed_b24 s = some w) : R G MX9_changed 24 [] [] s (some (.int w.1), w.2) := by
  unfold fX9_changed_b24 at h
  refine R_constI DX9_changed_24 ci_m2 ?_
  cases h
  exact R_ireturn rfl DX9_changed_26
set_option maxRecDepth 8000 in
theorem kX9_changed {G : Gm} {x0 : Nat} {x1 : Int32} {x2 : Int32} {s : Hp} {w : Int32 × Hp} (h : fX9_changed x0 x1 x2 s = some w) : (s.2.2 x0).1 = 9 ∧ Call G MX9_changed [.ref x0, .int x1, .int x2] s (some (.int w.1), w.2) := by
  unfold fX9_changed at h
  obtain ⟨_, e0, h⟩ := bind_some h
  refine ⟨ck_some e0, Call.of_R pnRX9 (Nat.le_of_ble_eq_true rfl) ?_⟩
  clear e0
  show R G MX9_changed 0 [(0, .ref x0), (1, .int x1), (2, .int x2)] [] s (some (.int w.1), w.2)
  refine R_aload DX9_changed_0 0 rfl ?_
  refine R_constI DX9_changed_1 ci_0 ?_
  obtain ⟨s1, es1, h⟩ := bind_some h
  refine R_pI DX9_changed_2 fl_RX9_92 es1 ?_
  refine R_aload DX9_changed_5 0 rfl ?_
  obtain ⟨r2, er2, h⟩ := bind_some h
  refine R_cV1 [] DX9_changed_6 kzvX9_isValley ml_RX9_322 ⟨Nat.le_of_ble_eq_true rfl, Nat.le_of_ble_eq_true rfl⟩ rfl (Nat.le_of_ble_eq_true rfl) (kX9_isValley er2) ?_
  by_cases c3 : r2.1 = 0
  · replace h := if_t h c3
    refine R_if_eq_t DX9_changed_9 c3 ?_
    refine R.sub (L' := []) [] rfl ?_
    exact tX9_changed_b24 h
  · replace h := if_f h c3
    refine R_if_eq_f DX9_changed_9 c3 ?_
    refine R_iload DX9_changed_12 2 rfl ?_
    refine R_i2l DX9_changed_13 ?_
    refine R_lconst DX9_changed_14 ?_
    refine R_ldc2 DX9_changed_15 cw_RX9_95 ?_
    obtain ⟨r4, er4, h⟩ := bind_some h
    refine R_cS1 [.long (Int32.toInt64 x2), .long 0, .long 3] DX9_changed_18 kzsX9_in ml_RX9_97 ⟨Nat.le_of_ble_eq_true rfl, Nat.le_of_ble_eq_true rfl⟩ rfl (Nat.le_of_ble_eq_true rfl) (kX9_in er4) ?_
    by_cases c5 : r4.1 = 0
    · replace h := if_t h c5
      refine R_if_ne_f DX9_changed_21 c5 ?_
      refine R.sub (L' := []) [] rfl ?_
      exact tX9_changed_b24 h
    · replace h := if_f h c5
      refine R_if_ne_t DX9_changed_21 c5 ?_
      refine R_iload DX9_changed_27 1 rfl ?_
      refine R_i2l DX9_changed_28 ?_
      refine R_lconst DX9_changed_29 ?_
      refine R_aload DX9_changed_30 0 rfl ?_
      obtain ⟨v6, ev6, h⟩ := bind_some h
      refine R_gR DX9_changed_31 fl_RX9_34 ev6 ?_
      refine R_constI DX9_changed_34 ci_14 ?_
      obtain ⟨v7, ev7, h⟩ := bind_some h
      refine R_aI DX9_changed_36 ev7 ?_
      refine R_constI DX9_changed_37 ci_1 ?_
      refine R_isub DX9_changed_38 ?_
      refine R_i2l DX9_changed_39 ?_
      obtain ⟨r8, er8, h⟩ := bind_some h
      refine R_cS1 [.long (Int32.toInt64 x1), .long 0, .long (Int32.toInt64 (v7 - (iI 1)))] DX9_changed_40 kzsX9_in ml_RX9_97 ⟨Nat.le_of_ble_eq_true rfl, Nat.le_of_ble_eq_true rfl⟩ rfl (Nat.le_of_ble_eq_true rfl) (kX9_in er8) ?_
      by_cases c9 : r8.1 = 0
      · replace h := if_t h c9
        refine R_if_eq_t DX9_changed_43 c9 ?_
        refine R_constI DX9_changed_59 ci_m1 ?_
        cases h
        exact R_ireturn rfl DX9_changed_60
      · replace h := if_f h c9
        refine R_if_eq_f DX9_changed_43 c9 ?_
        refine R_aload DX9_changed_46 0 rfl ?_
        obtain ⟨v10, ev10, h⟩ := bind_some h
        refine R_gR DX9_changed_47 fl_RX9_52 ev10 ?_
        refine R_constI DX9_changed_50 ci_4 ?_
        refine R_iload DX9_changed_51 1 rfl ?_
        refine R_imul DX9_changed_52 ?_
        refine R_iload DX9_changed_53 2 rfl ?_
        refine R_iadd DX9_changed_54 ?_
        obtain ⟨v11, ev11, h⟩ := bind_some h
        refine R_aI DX9_changed_55 ev11 ?_
        refine R_goto DX9_changed_56 ?_
        cases h
        exact R_ireturn rfl DX9_changed_60
set_option maxRecDepth 8000 in
theorem tX9_carries_b65 {G : Gm} {s : Hp} {w : Int32 × Hp} (h : fX9_carries_b65 s = some w) : R G MX9_carries 65 [] [] s (some (.int w.1), w.2) := by
  unfold fX9_carries_b65 at h
  refine R_constI DX9_carries_65 ci_0 ?_
  cases h
  exact R_zreturn rfl DX9_carries_66 (by decide)
set_option maxRecDepth 8000 in
theorem tX9_carries_b48 {G : Gm} {x0 : Nat} {x1 : Int32} {x2 : Int32} {y0 : Int32} {y1 : Int32} {s : Hp} {w : Int32 × Hp} (h : fX9_carries_b48 x0 x1 x2 y0 y1 s = some w) : R G MX9_carries 48 [(0, .ref x0), (1, .int x1), (2, .int x2)] [.int y1, .int y0] s (some (.int w.1), w.2) := by
  unfold fX9_carries_b48 at h
  refine R_iadd DX9_carries_48 ?_
  obtain ⟨z8, ez8, h⟩ := lt_some h
  refine R_istoreE ez8 [(3, .int z8), (0, .ref x0), (1, .int x1), (2, .int x2)] DX9_carries_49 (by decide) rfl ?_
  refine R_iload DX9_carries_50 2 rfl ?_
  by_cases c9 : x1 = 0
  · replace h := if_t h c9
    refine R_if_eq_t DX9_carries_51 c9 ?_
    refine R.sub (L' := []) [] rfl ?_
    exact tX9_carries_b65 h
  · replace h := if_f h c9
    refine R_if_eq_f DX9_carries_51 c9 ?_
    refine R_aload DX9_carries_54 1 rfl ?_
    refine R_iload DX9_carries_55 3 rfl ?_
    refine R_i2l DX9_carries_56 ?_
    refine R_iload DX9_carries_57 0 rfl ?_
    refine R_i2l DX9_carries_58 ?_
    obtain ⟨r10, er10, h⟩ := bind_some h
    refine R_cV1 [.long (Int32.toInt64 x2), .long (Int32.toInt64 z8)] DX9_carries_59 kzvX9_isColumn ml_RX9_331 ⟨Nat.le_of_ble_eq_true rfl, Nat.le_of_ble_eq_true rfl⟩ rfl (Nat.le_of_ble_eq_true rfl) (kX9_isColumn er10) ?_
    by_cases c11 : r10.1 = 0
    · replace h := if_t h c11
      refine R_if_ne_f DX9_carries_62 c11 ?_
      refine R.sub (L' := []) [] rfl ?_
      exact tX9_carries_b65 h
    · replace h := if_f h c11
      refine R_if_ne_t DX9_carries_62 c11 ?_
      refine R_aload DX9_carries_67 1 rfl ?_
      refine R_iload DX9_carries_68 3 rfl ?_
      obtain ⟨s12, es12, h⟩ := bind_some h
      refine R_pI DX9_carries_69 fl_RX9_325 es12 ?_
      refine R_aload DX9_carries_72 1 rfl ?_
      refine R_iload DX9_carries_73 0 rfl ?_
      obtain ⟨s13, es13, h⟩ := bind_some h
      refine R_pI DX9_carries_74 fl_RX9_328 es13 ?_
      refine R_constI DX9_carries_77 ci_1 ?_
      cases h
      exact R_zreturn rfl DX9_carries_78 (by decide)
set_option maxRecDepth 8000 in
theorem tX9_carries_b23 {G : Gm} {x0 : Nat} {x1 : Int32} {y0 : Int32} {y1 : Int32} {s : Hp} {w : Int32 × Hp} (h : fX9_carries_b23 x0 x1 y0 y1 s = some w) : R G MX9_carries 23 [(0, .ref x0), (1, .int x1)] [.int y1, .int y0] s (some (.int w.1), w.2) := by
  unfold fX9_carries_b23 at h
  refine R_iadd DX9_carries_23 ?_
  obtain ⟨z4, ez4, h⟩ := lt_some h
  refine R_istoreE ez4 [(2, .int z4), (0, .ref x0), (1, .int x1)] DX9_carries_24 (by decide) rfl ?_
  refine R_aload DX9_carries_25 1 rfl ?_
  obtain ⟨v5, ev5, h⟩ := bind_some h
  refine R_gI DX9_carries_26 fl_RX9_328 ev5 ?_
  refine R_iload DX9_carries_29 2 rfl ?_
  refine R_constI DX9_carries_30 ci_3 ?_
  by_cases c6 : x1 = (iI 3)
  · replace h := if_t h c6
    refine R_icmp_ne_f DX9_carries_31 c6 ?_
    refine R_constI DX9_carries_34 ci_1 ?_
    refine R_goto DX9_carries_35 ?_
    refine R.sub (L' := [(0, .ref x0), (1, .int x1), (2, .int z4)]) [1, 2, 0] rfl ?_
    exact tX9_carries_b48 h
  · replace h := if_f h c6
    refine R_icmp_ne_t DX9_carries_31 c6 ?_
    refine R_iload DX9_carries_38 2 rfl ?_
    refine R_constI DX9_carries_39 ci_1 ?_
    by_cases c7 : x1 = (iI 1)
    · replace h := if_t h c7
      refine R_icmp_ne_f DX9_carries_40 c7 ?_
      refine R_constI DX9_carries_43 ci_m1 ?_
      refine R_goto DX9_carries_44 ?_
      refine R.sub (L' := [(0, .ref x0), (1, .int x1), (2, .int z4)]) [1, 2, 0] rfl ?_
      exact tX9_carries_b48 h
    · replace h := if_f h c7
      refine R_icmp_ne_t DX9_carries_40 c7 ?_
      refine R_constI DX9_carries_47 ci_0 ?_
      refine R.sub (L' := [(0, .ref x0), (1, .int x1), (2, .int z4)]) [1, 2, 0] rfl ?_
      exact tX9_carries_b48 h
set_option maxRecDepth 8000 in
theorem kX9_carries {G : Gm} {x0 : Nat} {x1 : Int32} {s : Hp} {w : Int32 × Hp} (h : fX9_carries x0 x1 s = some w) : (s.2.2 x0).1 = 9 ∧ Call G MX9_carries [.ref x0, .int x1] s (some (.int w.1), w.2) := by
  unfold fX9_carries at h
  obtain ⟨_, e0, h⟩ := bind_some h
  refine ⟨ck_some e0, Call.of_R pnRX9 (Nat.le_of_ble_eq_true rfl) ?_⟩
  clear e0
  show R G MX9_carries 0 [(0, .ref x0), (1, .int x1)] [] s (some (.int w.1), w.2)
  refine R_aload DX9_carries_0 0 rfl ?_
  obtain ⟨v1, ev1, h⟩ := bind_some h
  refine R_gI DX9_carries_1 fl_RX9_325 ev1 ?_
  refine R_iload DX9_carries_4 1 rfl ?_
  refine R_constI DX9_carries_5 ci_2 ?_
  by_cases c2 : x1 = (iI 2)
  · replace h := if_t h c2
    refine R_icmp_ne_f DX9_carries_6 c2 ?_
    refine R_constI DX9_carries_9 ci_1 ?_
    refine R_goto DX9_carries_10 ?_
    exact tX9_carries_b23 h
  · replace h := if_f h c2
    refine R_icmp_ne_t DX9_carries_6 c2 ?_
    refine R_iload DX9_carries_13 1 rfl ?_
    refine R_constI DX9_carries_14 ci_4 ?_
    by_cases c3 : x1 = (iI 4)
    · replace h := if_t h c3
      refine R_icmp_ne_f DX9_carries_15 c3 ?_
      refine R_constI DX9_carries_18 ci_m1 ?_
      refine R_goto DX9_carries_19 ?_
      exact tX9_carries_b23 h
    · replace h := if_f h c3
      refine R_icmp_ne_t DX9_carries_15 c3 ?_
      refine R_constI DX9_carries_22 ci_0 ?_
      exact tX9_carries_b23 h
set_option maxRecDepth 8000 in
theorem kX9_plainly {G : Gm} {x0 : Nat} {s : Hp} {w : Hp} (h : fX9_plainly x0 s = some w) : (s.2.2 x0).1 = 9 ∧ Call G MX9_plainly [.ref x0] s (none, w) := by
  unfold fX9_plainly at h
  obtain ⟨_, e0, h⟩ := bind_some h
  refine ⟨ck_some e0, Call.of_R pnRX9 (Nat.le_of_ble_eq_true rfl) ?_⟩
  clear e0
  show R G MX9_plainly 0 [(0, .ref x0)] [] s (none, w)
  refine R_aload DX9_plainly_0 0 rfl ?_
  refine R_constI DX9_plainly_1 ci_0 ?_
  obtain ⟨s1, es1, h⟩ := bind_some h
  refine R_pZ DX9_plainly_2 fl_RX9_335 es1 ?_
  refine R_aload DX9_plainly_5 0 rfl ?_
  refine R_constI DX9_plainly_6 ci_0 ?_
  obtain ⟨s2, es2, h⟩ := bind_some h
  refine R_pZ DX9_plainly_7 fl_RX9_339 es2 ?_
  refine R_aload DX9_plainly_10 0 rfl ?_
  refine R_constI DX9_plainly_11 ci_0 ?_
  obtain ⟨s3, es3, h⟩ := bind_some h
  refine R_pZ DX9_plainly_12 fl_RX9_342 es3 ?_
  refine R_aload DX9_plainly_15 0 rfl ?_
  refine R_constI DX9_plainly_16 ci_0 ?_
  obtain ⟨s4, es4, h⟩ := bind_some h
  refine R_pI DX9_plainly_17 fl_RX9_345 es4 ?_
  refine R_aload DX9_plainly_20 0 rfl ?_
  refine R_constI DX9_plainly_21 ci_0 ?_
  obtain ⟨s5, es5, h⟩ := bind_some h
  refine R_pI DX9_plainly_22 fl_RX9_348 es5 ?_
  refine R_aload DX9_plainly_25 0 rfl ?_
  refine R_constI DX9_plainly_26 ci_0 ?_
  obtain ⟨s6, es6, h⟩ := bind_some h
  refine R_pI DX9_plainly_27 fl_RX9_351 es6 ?_
  cases h
  exact R_return rfl DX9_plainly_30
set_option maxRecDepth 8000 in
theorem kX9_reachOf {G : Gm} {x0 : Nat} {s : Hp} {w : Int32 × Hp} (h : fX9_reachOf x0 s = some w) : (s.2.2 x0).1 = 9 ∧ Call G MX9_reachOf [.ref x0] s (some (.int w.1), w.2) := by
  unfold fX9_reachOf at h
  obtain ⟨_, e0, h⟩ := bind_some h
  refine ⟨ck_some e0, Call.of_R pnRX9 (Nat.le_of_ble_eq_true rfl) ?_⟩
  clear e0
  show R G MX9_reachOf 0 [(0, .ref x0)] [] s (some (.int w.1), w.2)
  refine R_aload DX9_reachOf_0 0 rfl ?_
  obtain ⟨v1, ev1, h⟩ := bind_some h
  refine R_gR DX9_reachOf_1 fl_RX9_34 ev1 ?_
  refine R_constI DX9_reachOf_4 ci_5 ?_
  obtain ⟨v2, ev2, h⟩ := bind_some h
  refine R_aI DX9_reachOf_5 ev2 ?_
  refine R_aload DX9_reachOf_6 0 rfl ?_
  obtain ⟨v3, ev3, h⟩ := bind_some h
  refine R_gI DX9_reachOf_7 fl_RX9_345 ev3 ?_
  refine R_iadd DX9_reachOf_10 ?_
  refine R_aload DX9_reachOf_11 0 rfl ?_
  obtain ⟨v4, ev4, h⟩ := bind_some h
  refine R_gR DX9_reachOf_12 fl_RX9_34 ev4 ?_
  refine R_constI DX9_reachOf_15 ci_2 ?_
  obtain ⟨v5, ev5, h⟩ := bind_some h
  refine R_aI DX9_reachOf_16 ev5 ?_
  by_cases c6 : v5 ≤ (v2 + v3)
  · replace h := if_t h c6
    refine R_icmp_ge_t DX9_reachOf_17 c6 ?_
    refine R_aload DX9_reachOf_34 0 rfl ?_
    obtain ⟨v7, ev7, h⟩ := bind_some h
    refine R_gR DX9_reachOf_35 fl_RX9_34 ev7 ?_
    refine R_constI DX9_reachOf_38 ci_2 ?_
    obtain ⟨v8, ev8, h⟩ := bind_some h
    refine R_aI DX9_reachOf_39 ev8 ?_
    refine R_constI DX9_reachOf_40 ci_1 ?_
    refine R_isub DX9_reachOf_41 ?_
    cases h
    exact R_ireturn rfl DX9_reachOf_42
  · replace h := if_f h c6
    refine R_icmp_ge_f DX9_reachOf_17 c6 ?_
    refine R_aload DX9_reachOf_20 0 rfl ?_
    obtain ⟨v9, ev9, h⟩ := bind_some h
    refine R_gR DX9_reachOf_21 fl_RX9_34 ev9 ?_
    refine R_constI DX9_reachOf_24 ci_5 ?_
    obtain ⟨v10, ev10, h⟩ := bind_some h
    refine R_aI DX9_reachOf_25 ev10 ?_
    refine R_aload DX9_reachOf_26 0 rfl ?_
    obtain ⟨v11, ev11, h⟩ := bind_some h
    refine R_gI DX9_reachOf_27 fl_RX9_345 ev11 ?_
    refine R_iadd DX9_reachOf_30 ?_
    refine R_goto DX9_reachOf_31 ?_
    cases h
    exact R_ireturn rfl DX9_reachOf_42
set_option maxRecDepth 8000 in
theorem kX9_vainOf {G : Gm} {x0 : Nat} {x1 : Int32} {x2 : Int32} {x3 : Int32} {x4 : Int32} {s : Hp} {w : Int32 × Hp} (h : fX9_vainOf x0 x1 x2 x3 x4 s = some w) : (s.2.2 x0).1 = 9 ∧ Call G MX9_vainOf [.ref x0, .int x1, .int x2, .int x3, .int x4] s (some (.int w.1), w.2) := by
  unfold fX9_vainOf at h
  obtain ⟨_, e0, h⟩ := bind_some h
  refine ⟨ck_some e0, Call.of_R pnRX9 (Nat.le_of_ble_eq_true rfl) ?_⟩
  clear e0
  show R G MX9_vainOf 0 [(0, .ref x0), (1, .int x1), (2, .int x2), (3, .int x3), (4, .int x4)] [] s (some (.int w.1), w.2)
  refine R_iload DX9_vainOf_0 1 rfl ?_
  refine R_constI DX9_vainOf_1 ci_1 ?_
  by_cases c1 : x1 = (iI 1)
  · replace h := if_t h c1
    refine R_icmp_ne_f DX9_vainOf_2 c1 ?_
    refine R_iload DX9_vainOf_5 2 rfl ?_
    refine R_aload DX9_vainOf_6 0 rfl ?_
    obtain ⟨v5, ev5, h⟩ := bind_some h
    refine R_gR DX9_vainOf_7 fl_RX9_34 ev5 ?_
    refine R_constI DX9_vainOf_10 ci_2 ?_
    obtain ⟨v6, ev6, h⟩ := bind_some h
    refine R_aI DX9_vainOf_11 ev6 ?_
    refine R_constI DX9_vainOf_12 ci_1 ?_
    refine R_isub DX9_vainOf_13 ?_
    by_cases c7 : x2 = (v6 - (iI 1))
    · replace h := if_t h c7
      refine R_icmp_ne_f DX9_vainOf_14 c7 ?_
      refine R_constI DX9_vainOf_17 ci_3 ?_
      refine R_goto DX9_vainOf_18 ?_
      cases h
      exact R_ireturn rfl DX9_vainOf_30
    · replace h := if_f h c7
      refine R_icmp_ne_t DX9_vainOf_14 c7 ?_
      refine R_iload DX9_vainOf_21 3 rfl ?_
      by_cases c8 : x3 = 0
      · replace h := if_t h c8
        refine R_if_ne_f DX9_vainOf_22 c8 ?_
        refine R_constI DX9_vainOf_25 ci_1 ?_
        refine R_goto DX9_vainOf_26 ?_
        cases h
        exact R_ireturn rfl DX9_vainOf_30
      · replace h := if_f h c8
        refine R_if_ne_t DX9_vainOf_22 c8 ?_
        refine R_constI DX9_vainOf_29 ci_0 ?_
        cases h
        exact R_ireturn rfl DX9_vainOf_30
  · replace h := if_f h c1
    refine R_icmp_ne_t DX9_vainOf_2 c1 ?_
    refine R_iload DX9_vainOf_31 1 rfl ?_
    refine R_constI DX9_vainOf_32 ci_2 ?_
    by_cases c2 : x1 = (iI 2)
    · replace h := if_t h c2
      refine R_icmp_ne_f DX9_vainOf_33 c2 ?_
      refine R_iload DX9_vainOf_36 2 rfl ?_
      by_cases c3 : x2 = 0
      · replace h := if_t h c3
        refine R_if_ne_f DX9_vainOf_37 c3 ?_
        refine R_constI DX9_vainOf_40 ci_4 ?_
        refine R_goto DX9_vainOf_41 ?_
        cases h
        exact R_ireturn rfl DX9_vainOf_58
      · replace h := if_f h c3
        refine R_if_ne_t DX9_vainOf_37 c3 ?_
        refine R_iload DX9_vainOf_44 4 rfl ?_
        by_cases c4 : x4 = 0
        · replace h := if_t h c4
          refine R_if_ne_f DX9_vainOf_46 c4 ?_
          refine R_constI DX9_vainOf_49 ci_2 ?_
          refine R_goto DX9_vainOf_50 ?_
          cases h
          exact R_ireturn rfl DX9_vainOf_58
        · replace h := if_f h c4
          refine R_if_ne_t DX9_vainOf_46 c4 ?_
          refine R_constI DX9_vainOf_53 ci_0 ?_
          refine R_goto DX9_vainOf_54 ?_
          cases h
          exact R_ireturn rfl DX9_vainOf_58
    · replace h := if_f h c2
      refine R_icmp_ne_t DX9_vainOf_33 c2 ?_
      refine R_constI DX9_vainOf_57 ci_0 ?_
      cases h
      exact R_ireturn rfl DX9_vainOf_58
set_option maxRecDepth 8000 in
theorem tX9_isCool_b33 {G : Gm} {s : Hp} {w : Int32 × Hp} (h : fX9_isCool_b33 s = some w) : R G MX9_isCool 33 [] [] s (some (.int w.1), w.2) := by
  unfold fX9_isCool_b33 at h
  refine R_constI DX9_isCool_33 ci_0 ?_
  cases h
  exact R_zreturn rfl DX9_isCool_34 (by decide)
set_option maxRecDepth 8000 in
theorem kX9_isCool {G : Gm} {x0 : Nat} {x1 : Int32} {s : Hp} {w : Int32 × Hp} (h : fX9_isCool x0 x1 s = some w) : (s.2.2 x0).1 = 9 ∧ Call G MX9_isCool [.ref x0, .int x1] s (some (.int w.1), w.2) := by
  unfold fX9_isCool at h
  obtain ⟨_, e0, h⟩ := bind_some h
  refine ⟨ck_some e0, Call.of_R pnRX9 (Nat.le_of_ble_eq_true rfl) ?_⟩
  clear e0
  show R G MX9_isCool 0 [(0, .ref x0), (1, .int x1)] [] s (some (.int w.1), w.2)
  refine R_aload DX9_isCool_0 0 rfl ?_
  obtain ⟨v1, ev1, h⟩ := bind_some h
  refine R_gI DX9_isCool_1 fl_RX9_335 ev1 ?_
  by_cases c2 : v1 = 0
  · replace h := if_t h c2
    refine R_if_ne_f DX9_isCool_4 c2 ?_
    refine R_aload DX9_isCool_7 0 rfl ?_
    obtain ⟨v3, ev3, h⟩ := bind_some h
    refine R_gR DX9_isCool_8 fl_RX9_34 ev3 ?_
    refine R_constI DX9_isCool_11 ci_4 ?_
    obtain ⟨v4, ev4, h⟩ := bind_some h
    refine R_aI DX9_isCool_12 ev4 ?_
    by_cases c5 : v4 ≤ 0
    · replace h := if_t h c5
      refine R_if_le_t DX9_isCool_13 c5 ?_
      refine R.sub (L' := []) [] rfl ?_
      exact tX9_isCool_b33 h
    · replace h := if_f h c5
      refine R_if_le_f DX9_isCool_13 c5 ?_
      refine R_iload DX9_isCool_16 1 rfl ?_
      refine R_constI DX9_isCool_17 ci_1 ?_
      refine R_iadd DX9_isCool_18 ?_
      refine R_aload DX9_isCool_19 0 rfl ?_
      obtain ⟨v6, ev6, h⟩ := bind_some h
      refine R_gR DX9_isCool_20 fl_RX9_34 ev6 ?_
      refine R_constI DX9_isCool_23 ci_4 ?_
      obtain ⟨v7, ev7, h⟩ := bind_some h
      refine R_aI DX9_isCool_24 ev7 ?_
      obtain ⟨v8, ev8, h⟩ := bind_some h
      refine R_mI DX9_isCool_25 ev8 ?_
      by_cases c9 : v8 = 0
      · replace h := if_t h c9
        refine R_if_ne_f DX9_isCool_26 c9 ?_
        refine R_constI DX9_isCool_29 ci_1 ?_
        refine R_goto DX9_isCool_30 ?_
        cases h
        exact R_zreturn rfl DX9_isCool_34 (by decide)
      · replace h := if_f h c9
        refine R_if_ne_t DX9_isCool_26 c9 ?_
        refine R.sub (L' := []) [] rfl ?_
        exact tX9_isCool_b33 h
  · replace h := if_f h c2
    refine R_if_ne_t DX9_isCool_4 c2 ?_
    refine R.sub (L' := []) [] rfl ?_
    exact tX9_isCool_b33 h
set_option maxRecDepth 8000 in
theorem tX9_doorAt_b41 {G : Gm} {x0 : Nat} {x1 : Int32} {x2 : Int32} {x3 : Int32} {s : Hp} {o : Option Value × Hp} {w : (Int32 × Hp) ⊕ ((Hp) ⊕ (Int32 × Hp))} (h : fX9_doorAt_b41 x0 x1 x2 x3 s = some w) (hc : ∀ (q3 : Int32) (qs : Hp), w = .inl (q3, qs) → R G MX9_doorAt 2 [(0, .ref x0), (1, .int x1), (2, .int x2), (3, .int q3)] [] qs o) (he0 : ∀ (qs : Hp), w = .inr (.inl qs) → R G MX9_doorAt 47 [] [] qs o) (he1 : ∀ (q3 : Int32) (qs : Hp), w = .inr (.inr (q3, qs)) → R G MX9_doorAt 39 [(3, .int q3)] [] qs o) : R G MX9_doorAt 41 [(0, .ref x0), (1, .int x1), (2, .int x2), (3, .int x3)] [] s o := by
  unfold fX9_doorAt_b41 at h
  refine R_iinc [(3, .int (x3 + iI 1)), (0, .ref x0), (1, .int x1), (2, .int x2)] DX9_doorAt_41 3 rfl (v := x3 + iI 1) (by rfl) (by decide) rfl ?_
  refine R_goto DX9_doorAt_44 ?_
  refine R.sub (L' := [(0, .ref x0), (1, .int x1), (2, .int x2), (3, .int (x3 + iI 1))]) [1, 2, 3, 0] rfl ?_
  cases h
  exact hc _ _ rfl
set_option maxRecDepth 8000 in
theorem tX9_doorAt_l2 {G : Gm} {x0 : Nat} {x1 : Int32} {x2 : Int32} {o : Option Value × Hp} {a : Int32 × Hp} {w : (Int32 × Hp) ⊕ ((Hp) ⊕ (Int32 × Hp))} (h : fX9_doorAt_l2 x0 x1 x2 a = some w) (hc : ∀ (q3 : Int32) (qs : Hp), w = .inl (q3, qs) → R G MX9_doorAt 2 [(0, .ref x0), (1, .int x1), (2, .int x2), (3, .int q3)] [] qs o) (he0 : ∀ (qs : Hp), w = .inr (.inl qs) → R G MX9_doorAt 47 [] [] qs o) (he1 : ∀ (q3 : Int32) (qs : Hp), w = .inr (.inr (q3, qs)) → R G MX9_doorAt 39 [(3, .int q3)] [] qs o) : R G MX9_doorAt 2 [(0, .ref x0), (1, .int x1), (2, .int x2), (3, .int a.1)] [] a.2 o := by
  unfold fX9_doorAt_l2 at h
  refine R_iload DX9_doorAt_2 3 rfl ?_
  refine R_aload DX9_doorAt_3 0 rfl ?_
  obtain ⟨v1, ev1, h⟩ := bind_some h
  refine R_gR DX9_doorAt_4 fl_RX9_34 ev1 ?_
  refine R_constI DX9_doorAt_7 ci_8 ?_
  obtain ⟨v2, ev2, h⟩ := bind_some h
  refine R_aI DX9_doorAt_9 ev2 ?_
  by_cases c3 : v2 ≤ a.1
  · replace h := if_t h c3
    refine R_icmp_ge_t DX9_doorAt_10 c3 ?_
    refine R.sub (L' := []) [] rfl ?_
    cases h
    exact he0 _ rfl
  · replace h := if_f h c3
    refine R_icmp_ge_f DX9_doorAt_10 c3 ?_
    refine R_aload DX9_doorAt_13 0 rfl ?_
    obtain ⟨v4, ev4, h⟩ := bind_some h
    refine R_gR DX9_doorAt_14 fl_RX9_46 ev4 ?_
    refine R_constI DX9_doorAt_17 ci_3 ?_
    refine R_iload DX9_doorAt_18 3 rfl ?_
    refine R_imul DX9_doorAt_19 ?_
    obtain ⟨v5, ev5, h⟩ := bind_some h
    refine R_aI DX9_doorAt_20 ev5 ?_
    refine R_iload DX9_doorAt_21 1 rfl ?_
    by_cases c6 : v5 = x1
    · replace h := if_t h c6
      refine R_icmp_ne_f DX9_doorAt_22 c6 ?_
      refine R_aload DX9_doorAt_25 0 rfl ?_
      obtain ⟨v7, ev7, h⟩ := bind_some h
      refine R_gR DX9_doorAt_26 fl_RX9_46 ev7 ?_
      refine R_constI DX9_doorAt_29 ci_3 ?_
      refine R_iload DX9_doorAt_30 3 rfl ?_
      refine R_imul DX9_doorAt_31 ?_
      refine R_constI DX9_doorAt_32 ci_1 ?_
      refine R_iadd DX9_doorAt_33 ?_
      obtain ⟨v8, ev8, h⟩ := bind_some h
      refine R_aI DX9_doorAt_34 ev8 ?_
      refine R_iload DX9_doorAt_35 2 rfl ?_
      by_cases c9 : v8 = x2
      · replace h := if_t h c9
        refine R_icmp_ne_f DX9_doorAt_36 c9 ?_
        refine R.sub (L' := [(3, .int a.1)]) [3] rfl ?_
        cases h
        exact he1 _ _ rfl
      · replace h := if_f h c9
        refine R_icmp_ne_t DX9_doorAt_36 c9 ?_
        exact tX9_doorAt_b41 h hc he0 he1
    · replace h := if_f h c6
      refine R_icmp_ne_t DX9_doorAt_22 c6 ?_
      exact tX9_doorAt_b41 h hc he0 he1
set_option maxRecDepth 8000 in
theorem kX9_doorAt {G : Gm} {x0 : Nat} {x1 : Int32} {x2 : Int32} {s : Hp} {w : Int32 × Hp} (h : fX9_doorAt x0 x1 x2 s = some w) : (s.2.2 x0).1 = 9 ∧ Call G MX9_doorAt [.ref x0, .int x1, .int x2] s (some (.int w.1), w.2) := by
  unfold fX9_doorAt at h
  obtain ⟨_, e0, h⟩ := bind_some h
  refine ⟨ck_some e0, Call.of_R pnRX9 (Nat.le_of_ble_eq_true rfl) ?_⟩
  clear e0
  show R G MX9_doorAt 0 [(0, .ref x0), (1, .int x1), (2, .int x2)] [] s (some (.int w.1), w.2)
  refine R_constI DX9_doorAt_0 ci_0 ?_
  refine R_istore [(3, .int (iI 0)), (0, .ref x0), (1, .int x1), (2, .int x2)] DX9_doorAt_1 (by decide) rfl ?_
  refine R.sub (L' := [(0, .ref x0), (1, .int x1), (2, .int x2), (3, .int (iI 0))]) [1, 2, 3, 0] rfl ?_
  obtain ⟨r10, hi, h⟩ := bind_some h
  have hE : (Sum.elim (fun u2 : Hp => R G MX9_doorAt 47 [] [] u2 (some (.int w.1), w.2)) (fun u2 : Int32 × Hp => R G MX9_doorAt 39 [(3, .int u2.1)] [] u2.2 (some (.int w.1), w.2))) r10 → ∀ (q3 : Int32) (qs : Hp), iter (fX9_doorAt_l2 x0 x1 x2) FU (q3, qs) = some r10 → R G MX9_doorAt 2 [(0, .ref x0), (1, .int x1), (2, .int x2), (3, .int q3)] [] qs (some (.int w.1), w.2) := fun hX q3 qs hj => loop_R (fX9_doorAt_l2 x0 x1 x2) (fun p2 : Int32 × Hp => R G MX9_doorAt 2 [(0, .ref x0), (1, .int x1), (2, .int x2), (3, .int p2.1)] [] p2.2 (some (.int w.1), w.2)) (Sum.elim (fun u2 : Hp => R G MX9_doorAt 47 [] [] u2 (some (.int w.1), w.2)) (fun u2 : Int32 × Hp => R G MX9_doorAt 39 [(3, .int u2.1)] [] u2.2 (some (.int w.1), w.2))) (fun a w hw hc he => tX9_doorAt_l2 hw (fun q3 qs e => hc (q3, qs) e) (fun qs e => he (.inl qs) e) (fun q3 qs e => he (.inr (q3, qs)) e)) FU (q3, qs) r10 hj hX
  refine hE ?_ _ _ hi
  clear hE hi
  rcases r10 with r10a | r10b
  · replace h := el_l h
    refine R_constI DX9_doorAt_47 ci_m1 ?_
    cases h
    exact R_ireturn rfl DX9_doorAt_48
  replace h := el_r h
  refine R_iload DX9_doorAt_39 0 rfl ?_
  cases h
  exact R_ireturn rfl DX9_doorAt_40
set_option maxRecDepth 8000 in
theorem kX9_earns {G : Gm} {x0 : Nat} {x1 : Int32} {s : Hp} {w : Int32 × Hp} (h : fX9_earns x0 x1 s = some w) : (s.2.2 x0).1 = 9 ∧ Call G MX9_earns [.ref x0, .int x1] s (some (.int w.1), w.2) := by
  unfold fX9_earns at h
  obtain ⟨_, e0, h⟩ := bind_some h
  refine ⟨ck_some e0, Call.of_R pnRX9 (Nat.le_of_ble_eq_true rfl) ?_⟩
  clear e0
  show R G MX9_earns 0 [(0, .ref x0), (1, .int x1)] [] s (some (.int w.1), w.2)
  refine R_aload DX9_earns_0 0 rfl ?_
  obtain ⟨v1, ev1, h⟩ := bind_some h
  refine R_gR DX9_earns_1 fl_RX9_34 ev1 ?_
  refine R_constI DX9_earns_4 ci_6 ?_
  obtain ⟨v2, ev2, h⟩ := bind_some h
  refine R_aI DX9_earns_6 ev2 ?_
  refine R_iload DX9_earns_7 1 rfl ?_
  by_cases c3 : v2 ≤ x1
  · replace h := if_t h c3
    refine R_icmp_le_t DX9_earns_8 c3 ?_
    refine R_constI DX9_earns_23 ci_0 ?_
    cases h
    exact R_ireturn rfl DX9_earns_24
  · replace h := if_f h c3
    refine R_icmp_le_f DX9_earns_8 c3 ?_
    refine R_aload DX9_earns_11 0 rfl ?_
    obtain ⟨v4, ev4, h⟩ := bind_some h
    refine R_gR DX9_earns_12 fl_RX9_34 ev4 ?_
    refine R_constI DX9_earns_15 ci_6 ?_
    obtain ⟨v5, ev5, h⟩ := bind_some h
    refine R_aI DX9_earns_17 ev5 ?_
    refine R_iload DX9_earns_18 1 rfl ?_
    refine R_isub DX9_earns_19 ?_
    refine R_goto DX9_earns_20 ?_
    cases h
    exact R_ireturn rfl DX9_earns_24
set_option maxRecDepth 8000 in
theorem kX9_sells {G : Gm} {x0 : Nat} {x1 : Int32} {x2 : Int32} {x3 : Int32} {s : Hp} {w : Hp} (h : fX9_sells x0 x1 x2 x3 s = some w) : (s.2.2 x0).1 = 9 ∧ Call G MX9_sells [.ref x0, .int x1, .int x2, .int x3] s (none, w) := by
  unfold fX9_sells at h
  obtain ⟨_, e0, h⟩ := bind_some h
  refine ⟨ck_some e0, Call.of_R pnRX9 (Nat.le_of_ble_eq_true rfl) ?_⟩
  clear e0
  show R G MX9_sells 0 [(0, .ref x0), (1, .int x1), (2, .int x2), (3, .int x3)] [] s (none, w)
  refine R_aload DX9_sells_0 0 rfl ?_
  obtain ⟨v1, ev1, h⟩ := bind_some h
  refine R_gR DX9_sells_1 fl_RX9_68 ev1 ?_
  refine R_constI DX9_sells_4 ci_24 ?_
  refine R_iload DX9_sells_6 1 rfl ?_
  refine R_imul DX9_sells_7 ?_
  refine R_iload DX9_sells_8 2 rfl ?_
  refine R_iadd DX9_sells_9 ?_
  refine R_constI DX9_sells_10 ci_m1 ?_
  obtain ⟨s2, es2, h⟩ := bind_some h
  refine R_sI DX9_sells_11 es2 ?_
  refine R_aload DX9_sells_12 0 rfl ?_
  refine R_aload DX9_sells_13 0 rfl ?_
  obtain ⟨v3, ev3, h⟩ := bind_some h
  refine R_gR DX9_sells_14 fl_RX9_59 ev3 ?_
  refine R_iload DX9_sells_17 3 rfl ?_
  obtain ⟨v4, ev4, h⟩ := bind_some h
  refine R_aI DX9_sells_18 ev4 ?_
  refine R_aload DX9_sells_19 0 rfl ?_
  obtain ⟨v5, ev5, h⟩ := bind_some h
  refine R_gR DX9_sells_20 fl_RX9_59 ev5 ?_
  refine R_iload DX9_sells_23 3 rfl ?_
  refine R_constI DX9_sells_24 ci_1 ?_
  refine R_iadd DX9_sells_25 ?_
  obtain ⟨v6, ev6, h⟩ := bind_some h
  refine R_aI DX9_sells_26 ev6 ?_
  obtain ⟨r7, er7, h⟩ := bind_some h
  refine R_cV1 [.int v4, .int v6] DX9_sells_27 kzvX9_doorAt ml_RX9_371 ⟨Nat.le_of_ble_eq_true rfl, Nat.le_of_ble_eq_true rfl⟩ rfl (Nat.le_of_ble_eq_true rfl) (kX9_doorAt er7) ?_
  refine R_istore [(4, .int r7.1), (0, .ref x0), (1, .int x1), (2, .int x2), (3, .int x3)] DX9_sells_30 (by decide) rfl ?_
  refine R_iload DX9_sells_32 0 rfl ?_
  refine R_constI DX9_sells_34 ci_m1 ?_
  by_cases c8 : r7.1 = (iI (-1))
  · replace h := if_t h c8
    refine R_icmp_eq_t DX9_sells_35 c8 ?_
    cases h
    exact R_return rfl DX9_sells_74
  · replace h := if_f h c8
    refine R_icmp_eq_f DX9_sells_35 c8 ?_
    refine R_aload DX9_sells_38 1 rfl ?_
    obtain ⟨v9, ev9, h⟩ := bind_some h
    refine R_gR DX9_sells_39 fl_RX9_71 ev9 ?_
    refine R_iload DX9_sells_42 0 rfl ?_
    obtain ⟨v10, ev10, h⟩ := bind_some h
    refine R_aI DX9_sells_44 ev10 ?_
    by_cases c11 : v10 = 0
    · replace h := if_t h c11
      refine R_if_eq_t DX9_sells_45 c11 ?_
      cases h
      exact R_return rfl DX9_sells_74
    · replace h := if_f h c11
      refine R_if_eq_f DX9_sells_45 c11 ?_
      refine R_aload DX9_sells_48 1 rfl ?_
      obtain ⟨v12, ev12, h⟩ := bind_some h
      refine R_gR DX9_sells_49 fl_RX9_59 ev12 ?_
      refine R_iload DX9_sells_52 4 rfl ?_
      refine R_constI DX9_sells_53 ci_5 ?_
      refine R_iadd DX9_sells_54 ?_
      obtain ⟨v13, ev13, h⟩ := bind_some h
      refine R_aI DX9_sells_55 ev13 ?_
      by_cases c14 : v13 = 0
      · replace h := if_t h c14
        refine R_if_eq_t DX9_sells_56 c14 ?_
        cases h
        exact R_return rfl DX9_sells_74
      · replace h := if_f h c14
        refine R_if_eq_f DX9_sells_56 c14 ?_
        refine R_aload DX9_sells_59 1 rfl ?_
        obtain ⟨v15, ev15, h⟩ := bind_some h
        refine R_gR DX9_sells_60 fl_RX9_59 ev15 ?_
        refine R_iload DX9_sells_63 4 rfl ?_
        refine R_constI DX9_sells_64 ci_2 ?_
        refine R_iadd DX9_sells_65 ?_
        obtain ⟨v16, ev16, h⟩ := bind_some h
        refine R_aI DX9_sells_66 ev16 ?_
        refine R_aload DX9_sells_67 1 rfl ?_
        obtain ⟨r17, er17, h⟩ := bind_some h
        refine R_cV1 [] DX9_sells_68 kzvX9_reachOf ml_RX9_374 ⟨Nat.le_of_ble_eq_true rfl, Nat.le_of_ble_eq_true rfl⟩ rfl (Nat.le_of_ble_eq_true rfl) (kX9_reachOf er17) ?_
        by_cases c18 : v16 ≤ r17.1
        · replace h := if_t h c18
          refine R_icmp_le_t DX9_sells_71 c18 ?_
          refine R_aload DX9_sells_75 1 rfl ?_
          obtain ⟨v19, ev19, h⟩ := bind_some h
          refine R_gR DX9_sells_76 fl_RX9_68 ev19 ?_
          refine R_constI DX9_sells_79 ci_24 ?_
          refine R_iload DX9_sells_81 2 rfl ?_
          refine R_imul DX9_sells_82 ?_
          refine R_iload DX9_sells_83 3 rfl ?_
          refine R_iadd DX9_sells_84 ?_
          refine R_iload DX9_sells_85 0 rfl ?_
          obtain ⟨s20, es20, h⟩ := bind_some h
          refine R_sI DX9_sells_87 es20 ?_
          refine R_aload DX9_sells_88 1 rfl ?_
          obtain ⟨v21, ev21, h⟩ := bind_some h
          refine R_gR DX9_sells_89 fl_RX9_71 ev21 ?_
          refine R_iload DX9_sells_92 0 rfl ?_
          refine R_dup2 DX9_sells_94 rfl rfl ?_
          obtain ⟨v22, ev22, h⟩ := bind_some h
          refine R_aI DX9_sells_95 ev22 ?_
          refine R_constI DX9_sells_96 ci_1 ?_
          refine R_isub DX9_sells_97 ?_
          obtain ⟨s23, es23, h⟩ := bind_some h
          refine R_sI DX9_sells_98 es23 ?_
          refine R_aload DX9_sells_99 1 rfl ?_
          obtain ⟨v24, ev24, h⟩ := bind_some h
          refine R_gR DX9_sells_100 fl_RX9_59 ev24 ?_
          refine R_iload DX9_sells_103 4 rfl ?_
          refine R_constI DX9_sells_104 ci_5 ?_
          refine R_iadd DX9_sells_105 ?_
          refine R_dup2 DX9_sells_106 rfl rfl ?_
          obtain ⟨v25, ev25, h⟩ := bind_some h
          refine R_aI DX9_sells_107 ev25 ?_
          refine R_constI DX9_sells_108 ci_1 ?_
          refine R_isub DX9_sells_109 ?_
          obtain ⟨s26, es26, h⟩ := bind_some h
          refine R_sI DX9_sells_110 es26 ?_
          refine R_aload DX9_sells_111 1 rfl ?_
          obtain ⟨v27, ev27, h⟩ := bind_some h
          refine R_gR DX9_sells_112 fl_RX9_59 ev27 ?_
          refine R_iload DX9_sells_115 4 rfl ?_
          refine R_constI DX9_sells_116 ci_6 ?_
          refine R_iadd DX9_sells_118 ?_
          refine R_dup2 DX9_sells_119 rfl rfl ?_
          obtain ⟨v28, ev28, h⟩ := bind_some h
          refine R_aI DX9_sells_120 ev28 ?_
          refine R_aload DX9_sells_121 1 rfl ?_
          refine R_aload DX9_sells_122 1 rfl ?_
          obtain ⟨v29, ev29, h⟩ := bind_some h
          refine R_gR DX9_sells_123 fl_RX9_59 ev29 ?_
          refine R_iload DX9_sells_126 4 rfl ?_
          refine R_constI DX9_sells_127 ci_2 ?_
          refine R_iadd DX9_sells_128 ?_
          obtain ⟨v30, ev30, h⟩ := bind_some h
          refine R_aI DX9_sells_129 ev30 ?_
          obtain ⟨r31, er31, h⟩ := bind_some h
          refine R_cV1 [.int v30] DX9_sells_130 kzvX9_earns ml_RX9_377 ⟨Nat.le_of_ble_eq_true rfl, Nat.le_of_ble_eq_true rfl⟩ rfl (Nat.le_of_ble_eq_true rfl) (kX9_earns er31) ?_
          refine R_iadd DX9_sells_133 ?_
          obtain ⟨s32, es32, h⟩ := bind_some h
          refine R_sI DX9_sells_134 es32 ?_
          refine R_aload DX9_sells_135 1 rfl ?_
          obtain ⟨v33, ev33, h⟩ := bind_some h
          refine R_gR DX9_sells_136 fl_RX9_59 ev33 ?_
          refine R_iload DX9_sells_139 4 rfl ?_
          refine R_constI DX9_sells_140 ci_2 ?_
          refine R_iadd DX9_sells_141 ?_
          obtain ⟨v34, ev34, h⟩ := bind_some h
          refine R_aI DX9_sells_142 ev34 ?_
          refine R_aload DX9_sells_143 1 rfl ?_
          obtain ⟨v35, ev35, h⟩ := bind_some h
          refine R_gR DX9_sells_144 fl_RX9_34 ev35 ?_
          refine R_constI DX9_sells_147 ci_2 ?_
          obtain ⟨v36, ev36, h⟩ := bind_some h
          refine R_aI DX9_sells_148 ev36 ?_
          refine R_constI DX9_sells_149 ci_1 ?_
          refine R_isub DX9_sells_150 ?_
          by_cases c37 : (v36 - (iI 1)) ≤ v34
          · replace h := if_t h c37
            refine R_icmp_ge_t DX9_sells_151 c37 ?_
            cases h
            exact R_return rfl DX9_sells_166
          · replace h := if_f h c37
            refine R_icmp_ge_f DX9_sells_151 c37 ?_
            refine R_aload DX9_sells_154 1 rfl ?_
            obtain ⟨v38, ev38, h⟩ := bind_some h
            refine R_gR DX9_sells_155 fl_RX9_59 ev38 ?_
            refine R_iload DX9_sells_158 4 rfl ?_
            refine R_constI DX9_sells_159 ci_2 ?_
            refine R_iadd DX9_sells_160 ?_
            refine R_dup2 DX9_sells_161 rfl rfl ?_
            obtain ⟨v39, ev39, h⟩ := bind_some h
            refine R_aI DX9_sells_162 ev39 ?_
            refine R_constI DX9_sells_163 ci_1 ?_
            refine R_iadd DX9_sells_164 ?_
            obtain ⟨s40, es40, h⟩ := bind_some h
            refine R_sI DX9_sells_165 es40 ?_
            cases h
            exact R_return rfl DX9_sells_166
        · replace h := if_f h c18
          refine R_icmp_le_f DX9_sells_71 c18 ?_
          cases h
          exact R_return rfl DX9_sells_74
set_option maxRecDepth 8000 in
theorem tX9_hourOf_l19 {G : Gm} {x0 : Nat} {x1 : Int32} {x2 : Int32} {x3 : Int32} {x4 : Int32} {o : Option Value × Hp} {a : Int32 × Hp} {w : (Int32 × Hp) ⊕ ((Hp))} (h : fX9_hourOf_l19 x0 x1 x2 x3 x4 a = some w) (hc : ∀ (q5 : Int32) (qs : Hp), w = .inl (q5, qs) → R G MX9_hourOf 19 [(0, .ref x0), (1, .int x1), (2, .int x2), (3, .int x3), (4, .int x4), (5, .int q5)] [] qs o) (he0 : ∀ (qs : Hp), w = .inr qs → R G MX9_hourOf 51 [(0, .ref x0), (1, .int x1), (2, .int x2), (4, .int x4)] [] qs o) : R G MX9_hourOf 19 [(0, .ref x0), (1, .int x1), (2, .int x2), (3, .int x3), (4, .int x4), (5, .int a.1)] [] a.2 o := by
  unfold fX9_hourOf_l19 at h
  refine R_iload DX9_hourOf_19 5 rfl ?_
  refine R_constI DX9_hourOf_21 ci_7 ?_
  by_cases c3 : (iI 7) ≤ a.1
  · replace h := if_t h c3
    refine R_icmp_ge_t DX9_hourOf_23 c3 ?_
    refine R.sub (L' := [(0, .ref x0), (1, .int x1), (2, .int x2), (4, .int x4)]) [0, 1, 2, 4] rfl ?_
    cases h
    exact he0 _ rfl
  · replace h := if_f h c3
    refine R_icmp_ge_f DX9_hourOf_23 c3 ?_
    refine R_aload DX9_hourOf_26 0 rfl ?_
    obtain ⟨v4, ev4, h⟩ := bind_some h
    refine R_gR DX9_hourOf_27 fl_RX9_59 ev4 ?_
    refine R_iload DX9_hourOf_30 4 rfl ?_
    refine R_iload DX9_hourOf_32 5 rfl ?_
    refine R_iadd DX9_hourOf_34 ?_
    refine R_aload DX9_hourOf_35 0 rfl ?_
    obtain ⟨v5, ev5, h⟩ := bind_some h
    refine R_gR DX9_hourOf_36 fl_RX9_59 ev5 ?_
    refine R_iload DX9_hourOf_39 3 rfl ?_
    refine R_iload DX9_hourOf_40 5 rfl ?_
    refine R_iadd DX9_hourOf_42 ?_
    obtain ⟨v6, ev6, h⟩ := bind_some h
    refine R_aI DX9_hourOf_43 ev6 ?_
    obtain ⟨s7, es7, h⟩ := bind_some h
    refine R_sI DX9_hourOf_44 es7 ?_
    refine R_iinc [(5, .int (a.1 + iI 1)), (0, .ref x0), (1, .int x1), (2, .int x2), (3, .int x3), (4, .int x4)] DX9_hourOf_45 5 rfl (v := a.1 + iI 1) (by rfl) (by decide) rfl ?_
    refine R_goto DX9_hourOf_48 ?_
    refine R.sub (L' := [(0, .ref x0), (1, .int x1), (2, .int x2), (3, .int x3), (4, .int x4), (5, .int (a.1 + iI 1))]) [1, 2, 3, 4, 5, 0] rfl ?_
    cases h
    exact hc _ _ rfl
set_option maxRecDepth 8000 in
theorem tX9_hourOf_b347 {G : Gm} {x0 : Nat} {x1 : Int32} {x2 : Int32} {x4 : Int32} {s : Hp} {w : Hp} (h : fX9_hourOf_b347 x0 x1 x2 x4 s = some w) : R G MX9_hourOf 347 [(0, .ref x0), (1, .int x1), (2, .int x2), (4, .int x4)] [] s (none, w) := by
  unfold fX9_hourOf_b347 at h
  refine R_aload DX9_hourOf_347 0 rfl ?_
  refine R_iload DX9_hourOf_348 1 rfl ?_
  refine R_iload DX9_hourOf_349 2 rfl ?_
  refine R_iload DX9_hourOf_350 3 rfl ?_
  obtain ⟨s46, es46, h⟩ := bind_some h
  refine R_cV0 [.int x1, .int x2, .int x4] DX9_hourOf_352 kzvX9_sells ml_RX9_367 ⟨Nat.le_of_ble_eq_true rfl, Nat.le_of_ble_eq_true rfl⟩ rfl (Nat.le_of_ble_eq_true rfl) (kX9_sells es46) ?_
  cases h
  exact R_return rfl DX9_hourOf_355
set_option maxRecDepth 8000 in
theorem tX9_hourOf_b290 {G : Gm} {x0 : Nat} {x1 : Int32} {x2 : Int32} {x4 : Int32} {s : Hp} {w : Hp} (h : fX9_hourOf_b290 x0 x1 x2 x4 s = some w) : R G MX9_hourOf 290 [(0, .ref x0), (1, .int x1), (2, .int x2), (4, .int x4)] [] s (none, w) := by
  unfold fX9_hourOf_b290 at h
  refine R_aload DX9_hourOf_290 0 rfl ?_
  obtain ⟨v38, ev38, h⟩ := bind_some h
  refine R_gR DX9_hourOf_291 fl_RX9_59 ev38 ?_
  refine R_iload DX9_hourOf_294 3 rfl ?_
  refine R_aload DX9_hourOf_296 0 rfl ?_
  obtain ⟨v39, ev39, h⟩ := bind_some h
  refine R_gI DX9_hourOf_297 fl_RX9_325 ev39 ?_
  obtain ⟨s40, es40, h⟩ := bind_some h
  refine R_sI DX9_hourOf_300 es40 ?_
  refine R_aload DX9_hourOf_301 0 rfl ?_
  obtain ⟨v41, ev41, h⟩ := bind_some h
  refine R_gR DX9_hourOf_302 fl_RX9_59 ev41 ?_
  refine R_iload DX9_hourOf_305 3 rfl ?_
  refine R_constI DX9_hourOf_307 ci_1 ?_
  refine R_iadd DX9_hourOf_308 ?_
  refine R_aload DX9_hourOf_309 0 rfl ?_
  obtain ⟨v42, ev42, h⟩ := bind_some h
  refine R_gI DX9_hourOf_310 fl_RX9_328 ev42 ?_
  obtain ⟨s43, es43, h⟩ := bind_some h
  refine R_sI DX9_hourOf_313 es43 ?_
  refine R_aload DX9_hourOf_314 0 rfl ?_
  refine R_iload DX9_hourOf_315 2 rfl ?_
  obtain ⟨r44, er44, h⟩ := bind_some h
  refine R_cV1 [.int x2] DX9_hourOf_316 kzvX9_isCool ml_RX9_364 ⟨Nat.le_of_ble_eq_true rfl, Nat.le_of_ble_eq_true rfl⟩ rfl (Nat.le_of_ble_eq_true rfl) (kX9_isCool er44) ?_
  by_cases c45 : r44.1 = 0
  · replace h := if_t h c45
    refine R_if_eq_t DX9_hourOf_319 c45 ?_
    exact tX9_hourOf_b347 h
  · replace h := if_f h c45
    refine R_if_eq_f DX9_hourOf_319 c45 ?_
    refine R_aload DX9_hourOf_322 0 rfl ?_
    obtain ⟨v47, ev47, h⟩ := bind_some h
    refine R_gR DX9_hourOf_323 fl_RX9_59 ev47 ?_
    refine R_iload DX9_hourOf_326 3 rfl ?_
    refine R_constI DX9_hourOf_328 ci_2 ?_
    refine R_iadd DX9_hourOf_329 ?_
    obtain ⟨v48, ev48, h⟩ := bind_some h
    refine R_aI DX9_hourOf_330 ev48 ?_
    by_cases c49 : v48 ≤ 0
    · replace h := if_t h c49
      refine R_if_le_t DX9_hourOf_331 c49 ?_
      exact tX9_hourOf_b347 h
    · replace h := if_f h c49
      refine R_if_le_f DX9_hourOf_331 c49 ?_
      refine R_aload DX9_hourOf_334 0 rfl ?_
      obtain ⟨v50, ev50, h⟩ := bind_some h
      refine R_gR DX9_hourOf_335 fl_RX9_59 ev50 ?_
      refine R_iload DX9_hourOf_338 3 rfl ?_
      refine R_constI DX9_hourOf_340 ci_2 ?_
      refine R_iadd DX9_hourOf_341 ?_
      refine R_dup2 DX9_hourOf_342 rfl rfl ?_
      obtain ⟨v51, ev51, h⟩ := bind_some h
      refine R_aI DX9_hourOf_343 ev51 ?_
      refine R_constI DX9_hourOf_344 ci_1 ?_
      refine R_isub DX9_hourOf_345 ?_
      obtain ⟨s52, es52, h⟩ := bind_some h
      refine R_sI DX9_hourOf_346 es52 ?_
      exact tX9_hourOf_b347 h
set_option maxRecDepth 8000 in
theorem tX9_hourOf_b218 {G : Gm} {x0 : Nat} {x1 : Int32} {x2 : Int32} {x4 : Int32} {x7 : Int32} {y0 : Int32} {s : Hp} {w : Hp} (h : fX9_hourOf_b218 x0 x1 x2 x4 x7 y0 s = some w) : R G MX9_hourOf 218 [(0, .ref x0), (1, .int x1), (2, .int x2), (4, .int x4), (7, .int x7)] [.int y0] s (none, w) := by
  unfold fX9_hourOf_b218 at h
  refine R_istore [(8, .int y0), (0, .ref x0), (1, .int x1), (2, .int x2), (4, .int x4), (7, .int x7)] DX9_hourOf_218 (by decide) rfl ?_
  refine R_aload DX9_hourOf_220 1 rfl ?_
  refine R_aload DX9_hourOf_221 1 rfl ?_
  obtain ⟨v27, ev27, h⟩ := bind_some h
  refine R_gR DX9_hourOf_222 fl_RX9_59 ev27 ?_
  refine R_iload DX9_hourOf_225 4 rfl ?_
  obtain ⟨v28, ev28, h⟩ := bind_some h
  refine R_aI DX9_hourOf_227 ev28 ?_
  obtain ⟨s29, es29, h⟩ := bind_some h
  refine R_pI DX9_hourOf_228 fl_RX9_325 es29 ?_
  refine R_aload DX9_hourOf_231 1 rfl ?_
  refine R_aload DX9_hourOf_232 1 rfl ?_
  obtain ⟨v30, ev30, h⟩ := bind_some h
  refine R_gR DX9_hourOf_233 fl_RX9_59 ev30 ?_
  refine R_iload DX9_hourOf_236 4 rfl ?_
  refine R_constI DX9_hourOf_238 ci_1 ?_
  refine R_iadd DX9_hourOf_239 ?_
  obtain ⟨v31, ev31, h⟩ := bind_some h
  refine R_aI DX9_hourOf_240 ev31 ?_
  obtain ⟨s32, es32, h⟩ := bind_some h
  refine R_pI DX9_hourOf_241 fl_RX9_328 es32 ?_
  refine R_aload DX9_hourOf_244 1 rfl ?_
  obtain ⟨v33, ev33, h⟩ := bind_some h
  refine R_gR DX9_hourOf_245 fl_RX9_65 ev33 ?_
  refine R_constI DX9_hourOf_248 ci_24 ?_
  refine R_iload DX9_hourOf_250 2 rfl ?_
  refine R_imul DX9_hourOf_251 ?_
  refine R_iload DX9_hourOf_252 3 rfl ?_
  refine R_iadd DX9_hourOf_253 ?_
  refine R_aload DX9_hourOf_254 1 rfl ?_
  refine R_iload DX9_hourOf_255 0 rfl ?_
  obtain ⟨r34, er34, h⟩ := bind_some h
  refine R_cV1 [.int y0] DX9_hourOf_257 kzvX9_carries ml_RX9_361 ⟨Nat.le_of_ble_eq_true rfl, Nat.le_of_ble_eq_true rfl⟩ rfl (Nat.le_of_ble_eq_true rfl) (kX9_carries er34) ?_
  obtain ⟨s35, es35, h⟩ := bind_some h
  refine R_sZ DX9_hourOf_260 es35 ?_
  refine R_aload DX9_hourOf_261 1 rfl ?_
  obtain ⟨v36, ev36, h⟩ := bind_some h
  refine R_gI DX9_hourOf_262 fl_RX9_342 ev36 ?_
  by_cases c37 : v36 = 0
  · replace h := if_t h c37
    refine R_if_eq_t DX9_hourOf_265 c37 ?_
    refine R.sub (L' := [(0, .ref x0), (1, .int x1), (2, .int x2), (4, .int x4)]) [1, 2, 3, 4] rfl ?_
    exact tX9_hourOf_b290 h
  · replace h := if_f h c37
    refine R_if_eq_f DX9_hourOf_265 c37 ?_
    refine R_aload DX9_hourOf_268 1 rfl ?_
    obtain ⟨v53, ev53, h⟩ := bind_some h
    refine R_gR DX9_hourOf_269 fl_RX9_74 ev53 ?_
    refine R_constI DX9_hourOf_272 ci_24 ?_
    refine R_iload DX9_hourOf_274 5 rfl ?_
    refine R_imul DX9_hourOf_276 ?_
    refine R_iload DX9_hourOf_277 3 rfl ?_
    refine R_iadd DX9_hourOf_278 ?_
    obtain ⟨v54, ev54, h⟩ := bind_some h
    refine R_aZ DX9_hourOf_279 ev54 ?_
    by_cases c55 : v54 = 0
    · replace h := if_t h c55
      refine R_if_eq_t DX9_hourOf_280 c55 ?_
      refine R.sub (L' := [(0, .ref x0), (1, .int x1), (2, .int x2), (4, .int x4)]) [1, 2, 3, 4] rfl ?_
      exact tX9_hourOf_b290 h
    · replace h := if_f h c55
      refine R_if_eq_f DX9_hourOf_280 c55 ?_
      refine R_aload DX9_hourOf_283 1 rfl ?_
      refine R_iload DX9_hourOf_284 0 rfl ?_
      obtain ⟨r56, er56, h⟩ := bind_some h
      refine R_cV1 [.int y0] DX9_hourOf_286 kzvX9_carries ml_RX9_361 ⟨Nat.le_of_ble_eq_true rfl, Nat.le_of_ble_eq_true rfl⟩ rfl (Nat.le_of_ble_eq_true rfl) (kX9_carries er56) ?_
      refine R_pop DX9_hourOf_289 rfl ?_
      refine R.sub (L' := [(0, .ref x0), (1, .int x1), (2, .int x2), (4, .int x4)]) [1, 2, 3, 4] rfl ?_
      exact tX9_hourOf_b290 h
set_option maxRecDepth 8000 in
theorem tX9_hourOf_b189 {G : Gm} {x0 : Nat} {x1 : Int32} {x2 : Int32} {x4 : Int32} {s : Hp} {w : Hp} (h : fX9_hourOf_b189 x0 x1 x2 x4 s = some w) : R G MX9_hourOf 189 [(0, .ref x0), (1, .int x1), (2, .int x2), (4, .int x4)] [] s (none, w) := by
  unfold fX9_hourOf_b189 at h
  refine R_aload DX9_hourOf_189 0 rfl ?_
  obtain ⟨v22, ev22, h⟩ := bind_some h
  refine R_gR DX9_hourOf_190 fl_RX9_59 ev22 ?_
  refine R_iload DX9_hourOf_193 3 rfl ?_
  refine R_constI DX9_hourOf_195 ci_2 ?_
  refine R_iadd DX9_hourOf_196 ?_
  obtain ⟨v23, ev23, h⟩ := bind_some h
  refine R_aI DX9_hourOf_197 ev23 ?_
  refine R_istore [(7, .int v23), (0, .ref x0), (1, .int x1), (2, .int x2), (4, .int x4)] DX9_hourOf_198 (by decide) rfl ?_
  refine R_aload DX9_hourOf_200 1 rfl ?_
  obtain ⟨v24, ev24, h⟩ := bind_some h
  refine R_gI DX9_hourOf_201 fl_RX9_339 ev24 ?_
  by_cases c25 : v24 = 0
  · replace h := if_t h c25
    refine R_if_eq_t DX9_hourOf_204 c25 ?_
    refine R_aload DX9_hourOf_211 1 rfl ?_
    refine R_iload DX9_hourOf_212 0 rfl ?_
    refine R_iload DX9_hourOf_214 3 rfl ?_
    obtain ⟨r26, er26, h⟩ := bind_some h
    refine R_cV1 [.int v23, .int x2] DX9_hourOf_215 kzvX9_windOf ml_RX9_308 ⟨Nat.le_of_ble_eq_true rfl, Nat.le_of_ble_eq_true rfl⟩ rfl (Nat.le_of_ble_eq_true rfl) (kX9_windOf er26) ?_
    refine R.sub (L' := [(0, .ref x0), (1, .int x1), (2, .int x2), (4, .int x4), (7, .int v23)]) [1, 2, 3, 4, 0] rfl ?_
    exact tX9_hourOf_b218 h
  · replace h := if_f h c25
    refine R_if_eq_f DX9_hourOf_204 c25 ?_
    refine R_constI DX9_hourOf_207 ci_0 ?_
    refine R_goto DX9_hourOf_208 ?_
    refine R.sub (L' := [(0, .ref x0), (1, .int x1), (2, .int x2), (4, .int x4), (7, .int v23)]) [1, 2, 3, 4, 0] rfl ?_
    exact tX9_hourOf_b218 h
set_option maxRecDepth 8000 in
theorem tX9_hourOf_b152 {G : Gm} {x0 : Nat} {x1 : Int32} {x2 : Int32} {x4 : Int32} {x5 : Int32} {x6 : Int32} {s : Hp} {w : Hp} (h : fX9_hourOf_b152 x0 x1 x2 x4 x5 x6 s = some w) : R G MX9_hourOf 152 [(0, .ref x0), (1, .int x1), (2, .int x2), (4, .int x4), (5, .int x5), (6, .int x6)] [] s (none, w) := by
  unfold fX9_hourOf_b152 at h
  refine R_iload DX9_hourOf_152 4 rfl ?_
  refine R_constI DX9_hourOf_154 ci_2 ?_
  by_cases c21 : x5 = (iI 2)
  · replace h := if_t h c21
    refine R_icmp_ne_f DX9_hourOf_155 c21 ?_
    refine R_iload DX9_hourOf_158 5 rfl ?_
    by_cases c57 : x6 = 0
    · replace h := if_t h c57
      refine R_if_ne_f DX9_hourOf_160 c57 ?_
      refine R_aload DX9_hourOf_163 0 rfl ?_
      obtain ⟨v58, ev58, h⟩ := bind_some h
      refine R_gR DX9_hourOf_164 fl_RX9_59 ev58 ?_
      refine R_iload DX9_hourOf_167 3 rfl ?_
      refine R_constI DX9_hourOf_169 ci_2 ?_
      refine R_iadd DX9_hourOf_170 ?_
      refine R_dup2 DX9_hourOf_171 rfl rfl ?_
      obtain ⟨v59, ev59, h⟩ := bind_some h
      refine R_aI DX9_hourOf_172 ev59 ?_
      refine R_constI DX9_hourOf_173 ci_1 ?_
      refine R_isub DX9_hourOf_174 ?_
      obtain ⟨s60, es60, h⟩ := bind_some h
      refine R_sI DX9_hourOf_175 es60 ?_
      refine R_aload DX9_hourOf_176 0 rfl ?_
      obtain ⟨v61, ev61, h⟩ := bind_some h
      refine R_gR DX9_hourOf_177 fl_RX9_59 ev61 ?_
      refine R_iload DX9_hourOf_180 3 rfl ?_
      refine R_constI DX9_hourOf_182 ci_4 ?_
      refine R_iadd DX9_hourOf_183 ?_
      refine R_dup2 DX9_hourOf_184 rfl rfl ?_
      obtain ⟨v62, ev62, h⟩ := bind_some h
      refine R_aI DX9_hourOf_185 ev62 ?_
      refine R_constI DX9_hourOf_186 ci_1 ?_
      refine R_isub DX9_hourOf_187 ?_
      obtain ⟨s63, es63, h⟩ := bind_some h
      refine R_sI DX9_hourOf_188 es63 ?_
      refine R.sub (L' := [(0, .ref x0), (1, .int x1), (2, .int x2), (4, .int x4)]) [0, 1, 2, 3] rfl ?_
      exact tX9_hourOf_b189 h
    · replace h := if_f h c57
      refine R_if_ne_t DX9_hourOf_160 c57 ?_
      refine R.sub (L' := [(0, .ref x0), (1, .int x1), (2, .int x2), (4, .int x4)]) [0, 1, 2, 3] rfl ?_
      exact tX9_hourOf_b189 h
  · replace h := if_f h c21
    refine R_icmp_ne_t DX9_hourOf_155 c21 ?_
    refine R.sub (L' := [(0, .ref x0), (1, .int x1), (2, .int x2), (4, .int x4)]) [0, 1, 2, 3] rfl ?_
    exact tX9_hourOf_b189 h
set_option maxRecDepth 8000 in
theorem kX9_hourOf {G : Gm} {x0 : Nat} {x1 : Int32} {x2 : Int32} {s : Hp} {w : Hp} (h : fX9_hourOf x0 x1 x2 s = some w) : (s.2.2 x0).1 = 9 ∧ Call G MX9_hourOf [.ref x0, .int x1, .int x2] s (none, w) := by
  unfold fX9_hourOf at h
  obtain ⟨_, e0, h⟩ := bind_some h
  refine ⟨ck_some e0, Call.of_R pnRX9 (Nat.le_of_ble_eq_true rfl) ?_⟩
  clear e0
  show R G MX9_hourOf 0 [(0, .ref x0), (1, .int x1), (2, .int x2)] [] s (none, w)
  refine R_constI DX9_hourOf_0 ci_28 ?_
  refine R_iload DX9_hourOf_2 2 rfl ?_
  refine R_imul DX9_hourOf_3 ?_
  refine R_constI DX9_hourOf_4 ci_7 ?_
  refine R_iload DX9_hourOf_6 1 rfl ?_
  refine R_imul DX9_hourOf_7 ?_
  refine R_iadd DX9_hourOf_8 ?_
  obtain ⟨z1, ez1, h⟩ := lt_some h
  refine R_istoreE ez1 [(3, .int z1), (0, .ref x0), (1, .int x1), (2, .int x2)] DX9_hourOf_9 (by decide) rfl ?_
  refine R_iload DX9_hourOf_10 0 rfl ?_
  refine R_constI DX9_hourOf_11 ci_28 ?_
  refine R_iadd DX9_hourOf_13 ?_
  obtain ⟨z2, ez2, h⟩ := lt_some h
  refine R_istoreE ez2 [(4, .int z2), (3, .int z1), (0, .ref x0), (1, .int x1), (2, .int x2)] DX9_hourOf_14 (by decide) rfl ?_
  refine R_constI DX9_hourOf_16 ci_0 ?_
  refine R_istore [(5, .int (iI 0)), (4, .int z2), (3, .int z1), (0, .ref x0), (1, .int x1), (2, .int x2)] DX9_hourOf_17 (by decide) rfl ?_
  refine R.sub (L' := [(0, .ref x0), (1, .int x1), (2, .int x2), (3, .int z1), (4, .int z2), (5, .int (iI 0))]) [3, 4, 5, 2, 1, 0] rfl ?_
  obtain ⟨r8, hi, h⟩ := bind_some h
  have hE : (fun u19 : Hp => R G MX9_hourOf 51 [(0, .ref x0), (1, .int x1), (2, .int x2), (4, .int z2)] [] u19 (none, w)) r8 → ∀ (q5 : Int32) (qs : Hp), iter (fX9_hourOf_l19 x0 x1 x2 z1 z2) FU (q5, qs) = some r8 → R G MX9_hourOf 19 [(0, .ref x0), (1, .int x1), (2, .int x2), (3, .int z1), (4, .int z2), (5, .int q5)] [] qs (none, w) := fun hX q5 qs hj => loop_R (fX9_hourOf_l19 x0 x1 x2 z1 z2) (fun p19 : Int32 × Hp => R G MX9_hourOf 19 [(0, .ref x0), (1, .int x1), (2, .int x2), (3, .int z1), (4, .int z2), (5, .int p19.1)] [] p19.2 (none, w)) (fun u19 : Hp => R G MX9_hourOf 51 [(0, .ref x0), (1, .int x1), (2, .int x2), (4, .int z2)] [] u19 (none, w)) (fun a w hw hc he => tX9_hourOf_l19 hw (fun q5 qs e => hc (q5, qs) e) (fun qs e => he qs e)) FU (q5, qs) r8 hj hX
  refine hE ?_ _ _ hi
  clear hE hi
  refine R_aload DX9_hourOf_51 0 rfl ?_
  obtain ⟨v9, ev9, h⟩ := bind_some h
  refine R_gR DX9_hourOf_52 fl_RX9_49 ev9 ?_
  refine R_constI DX9_hourOf_55 ci_24 ?_
  refine R_iload DX9_hourOf_57 1 rfl ?_
  refine R_imul DX9_hourOf_58 ?_
  refine R_iload DX9_hourOf_59 2 rfl ?_
  refine R_iadd DX9_hourOf_60 ?_
  obtain ⟨v10, ev10, h⟩ := bind_some h
  refine R_aI DX9_hourOf_61 ev10 ?_
  refine R_istore [(5, .int v10), (0, .ref x0), (1, .int x1), (2, .int x2), (4, .int z2)] DX9_hourOf_62 (by decide) rfl ?_
  refine R_aload DX9_hourOf_64 1 rfl ?_
  refine R_iload DX9_hourOf_65 0 rfl ?_
  refine R_aload DX9_hourOf_67 1 rfl ?_
  obtain ⟨v11, ev11, h⟩ := bind_some h
  refine R_gR DX9_hourOf_68 fl_RX9_59 ev11 ?_
  refine R_iload DX9_hourOf_71 4 rfl ?_
  refine R_constI DX9_hourOf_73 ci_2 ?_
  refine R_iadd DX9_hourOf_74 ?_
  obtain ⟨v12, ev12, h⟩ := bind_some h
  refine R_aI DX9_hourOf_75 ev12 ?_
  refine R_aload DX9_hourOf_76 1 rfl ?_
  obtain ⟨v13, ev13, h⟩ := bind_some h
  refine R_gR DX9_hourOf_77 fl_RX9_59 ev13 ?_
  refine R_iload DX9_hourOf_80 4 rfl ?_
  refine R_constI DX9_hourOf_82 ci_3 ?_
  refine R_iadd DX9_hourOf_83 ?_
  obtain ⟨v14, ev14, h⟩ := bind_some h
  refine R_aI DX9_hourOf_84 ev14 ?_
  refine R_aload DX9_hourOf_85 1 rfl ?_
  obtain ⟨v15, ev15, h⟩ := bind_some h
  refine R_gR DX9_hourOf_86 fl_RX9_59 ev15 ?_
  refine R_iload DX9_hourOf_89 4 rfl ?_
  refine R_constI DX9_hourOf_91 ci_4 ?_
  refine R_iadd DX9_hourOf_92 ?_
  obtain ⟨v16, ev16, h⟩ := bind_some h
  refine R_aI DX9_hourOf_93 ev16 ?_
  obtain ⟨r17, er17, h⟩ := bind_some h
  refine R_cV1 [.int v10, .int v12, .int v14, .int v16] DX9_hourOf_94 kzvX9_vainOf ml_RX9_357 ⟨Nat.le_of_ble_eq_true rfl, Nat.le_of_ble_eq_true rfl⟩ rfl (Nat.le_of_ble_eq_true rfl) (kX9_vainOf er17) ?_
  refine R_istore [(6, .int r17.1), (5, .int v10), (0, .ref x0), (1, .int x1), (2, .int x2), (4, .int z2)] DX9_hourOf_97 (by decide) rfl ?_
  refine R_aload DX9_hourOf_99 2 rfl ?_
  obtain ⟨v18, ev18, h⟩ := bind_some h
  refine R_gR DX9_hourOf_100 fl_RX9_62 ev18 ?_
  refine R_constI DX9_hourOf_103 ci_24 ?_
  refine R_iload DX9_hourOf_105 3 rfl ?_
  refine R_imul DX9_hourOf_106 ?_
  refine R_iload DX9_hourOf_107 4 rfl ?_
  refine R_iadd DX9_hourOf_108 ?_
  refine R_iload DX9_hourOf_109 0 rfl ?_
  obtain ⟨s19, es19, h⟩ := bind_some h
  refine R_sI DX9_hourOf_111 es19 ?_
  refine R_iload DX9_hourOf_112 1 rfl ?_
  refine R_constI DX9_hourOf_114 ci_1 ?_
  by_cases c20 : v10 = (iI 1)
  · replace h := if_t h c20
    refine R_icmp_ne_f DX9_hourOf_115 c20 ?_
    refine R_iload DX9_hourOf_118 0 rfl ?_
    by_cases c64 : r17.1 = 0
    · replace h := if_t h c64
      refine R_if_ne_f DX9_hourOf_120 c64 ?_
      refine R_aload DX9_hourOf_123 2 rfl ?_
      obtain ⟨v65, ev65, h⟩ := bind_some h
      refine R_gR DX9_hourOf_124 fl_RX9_59 ev65 ?_
      refine R_iload DX9_hourOf_127 5 rfl ?_
      refine R_constI DX9_hourOf_129 ci_2 ?_
      refine R_iadd DX9_hourOf_130 ?_
      refine R_dup2 DX9_hourOf_131 rfl rfl ?_
      obtain ⟨v66, ev66, h⟩ := bind_some h
      refine R_aI DX9_hourOf_132 ev66 ?_
      refine R_constI DX9_hourOf_133 ci_1 ?_
      refine R_iadd DX9_hourOf_134 ?_
      obtain ⟨s67, es67, h⟩ := bind_some h
      refine R_sI DX9_hourOf_135 es67 ?_
      refine R_aload DX9_hourOf_136 2 rfl ?_
      obtain ⟨v68, ev68, h⟩ := bind_some h
      refine R_gR DX9_hourOf_137 fl_RX9_59 ev68 ?_
      refine R_iload DX9_hourOf_140 5 rfl ?_
      refine R_constI DX9_hourOf_142 ci_3 ?_
      refine R_iadd DX9_hourOf_143 ?_
      refine R_dup2 DX9_hourOf_144 rfl rfl ?_
      obtain ⟨v69, ev69, h⟩ := bind_some h
      refine R_aI DX9_hourOf_145 ev69 ?_
      refine R_constI DX9_hourOf_146 ci_1 ?_
      refine R_isub DX9_hourOf_147 ?_
      obtain ⟨s70, es70, h⟩ := bind_some h
      refine R_sI DX9_hourOf_148 es70 ?_
      refine R_goto DX9_hourOf_149 ?_
      refine R.sub (L' := [(0, .ref x0), (1, .int x1), (2, .int x2), (4, .int z2)]) [2, 3, 4, 5] rfl ?_
      exact tX9_hourOf_b189 h
    · replace h := if_f h c64
      refine R_if_ne_t DX9_hourOf_120 c64 ?_
      refine R.sub (L' := [(0, .ref x0), (1, .int x1), (2, .int x2), (4, .int z2), (5, .int v10), (6, .int r17.1)]) [2, 3, 4, 5, 1, 0] rfl ?_
      exact tX9_hourOf_b152 h
  · replace h := if_f h c20
    refine R_icmp_ne_t DX9_hourOf_115 c20 ?_
    refine R.sub (L' := [(0, .ref x0), (1, .int x1), (2, .int x2), (4, .int z2), (5, .int v10), (6, .int r17.1)]) [2, 3, 4, 5, 1, 0] rfl ?_
    exact tX9_hourOf_b152 h
set_option maxRecDepth 8000 in
theorem tX9_goes_l2 {G : Gm} {x0 : Nat} {o : Option Value × Hp} {a : Int32 × Hp} {w : (Int32 × Hp) ⊕ ((Hp))} (h : fX9_goes_l2 x0 a = some w) (hc : ∀ (q1 : Int32) (qs : Hp), w = .inl (q1, qs) → R G MX9_goes 2 [(0, .ref x0), (1, .int q1)] [] qs o) (he0 : ∀ (qs : Hp), w = .inr qs → R G MX9_goes 35 [(0, .ref x0)] [] qs o) : R G MX9_goes 2 [(0, .ref x0), (1, .int a.1)] [] a.2 o := by
  unfold fX9_goes_l2 at h
  refine R_iload DX9_goes_2 1 rfl ?_
  refine R_aload DX9_goes_3 0 rfl ?_
  obtain ⟨v1, ev1, h⟩ := bind_some h
  refine R_gR DX9_goes_4 fl_RX9_34 ev1 ?_
  refine R_constI DX9_goes_7 ci_8 ?_
  obtain ⟨v2, ev2, h⟩ := bind_some h
  refine R_aI DX9_goes_9 ev2 ?_
  by_cases c3 : v2 ≤ a.1
  · replace h := if_t h c3
    refine R_icmp_ge_t DX9_goes_10 c3 ?_
    refine R.sub (L' := [(0, .ref x0)]) [0] rfl ?_
    cases h
    exact he0 _ rfl
  · replace h := if_f h c3
    refine R_icmp_ge_f DX9_goes_10 c3 ?_
    refine R_aload DX9_goes_13 0 rfl ?_
    obtain ⟨v4, ev4, h⟩ := bind_some h
    refine R_gR DX9_goes_14 fl_RX9_71 ev4 ?_
    refine R_iload DX9_goes_17 1 rfl ?_
    refine R_aload DX9_goes_18 0 rfl ?_
    obtain ⟨v5, ev5, h⟩ := bind_some h
    refine R_gR DX9_goes_19 fl_RX9_46 ev5 ?_
    refine R_constI DX9_goes_22 ci_3 ?_
    refine R_iload DX9_goes_23 1 rfl ?_
    refine R_imul DX9_goes_24 ?_
    refine R_constI DX9_goes_25 ci_2 ?_
    refine R_iadd DX9_goes_26 ?_
    obtain ⟨v6, ev6, h⟩ := bind_some h
    refine R_aI DX9_goes_27 ev6 ?_
    obtain ⟨s7, es7, h⟩ := bind_some h
    refine R_sI DX9_goes_28 es7 ?_
    refine R_iinc [(1, .int (a.1 + iI 1)), (0, .ref x0)] DX9_goes_29 1 rfl (v := a.1 + iI 1) (by rfl) (by decide) rfl ?_
    refine R_goto DX9_goes_32 ?_
    refine R.sub (L' := [(0, .ref x0), (1, .int (a.1 + iI 1))]) [1, 0] rfl ?_
    cases h
    exact hc _ _ rfl
set_option maxRecDepth 8000 in
theorem tX9_goes_b102 {G : Gm} {x0 : Nat} {x1 : Int32} {x2 : Int32} {y0 : Nat} {y1 : Int32} {y2 : Int32} {y3 : Int32} {s : Hp} {o : Option Value × Hp} {w : (Int32 × Hp) ⊕ ((Hp))} (h : fX9_goes_b102 x0 x1 x2 y0 y1 y2 y3 s = some w) (hc : ∀ (q2 : Int32) (qs : Hp), w = .inl (q2, qs) → R G MX9_goes 50 [(0, .ref x0), (1, .int x1), (2, .int q2)] [] qs o) (he0 : ∀ (qs : Hp), w = .inr qs → R G MX9_goes 110 [(0, .ref x0), (1, .int x1)] [] qs o) : R G MX9_goes 102 [(0, .ref x0), (1, .int x1), (2, .int x2)] [.int y3, .int y2, .int y1, .ref y0] s o := by
  unfold fX9_goes_b102 at h
  refine R_iadd DX9_goes_102 ?_
  obtain ⟨s18, es18, h⟩ := bind_some h
  refine R_sI DX9_goes_103 es18 ?_
  refine R_iinc [(2, .int (x2 + iI 1)), (0, .ref x0), (1, .int x1)] DX9_goes_104 2 rfl (v := x2 + iI 1) (by rfl) (by decide) rfl ?_
  refine R_goto DX9_goes_107 ?_
  refine R.sub (L' := [(0, .ref x0), (1, .int x1), (2, .int (x2 + iI 1))]) [1, 2, 0] rfl ?_
  cases h
  exact hc _ _ rfl
set_option maxRecDepth 8000 in
theorem tX9_goes_l50 {G : Gm} {x0 : Nat} {x1 : Int32} {o : Option Value × Hp} {a : Int32 × Hp} {w : (Int32 × Hp) ⊕ ((Hp))} (h : fX9_goes_l50 x0 x1 a = some w) (hc : ∀ (q2 : Int32) (qs : Hp), w = .inl (q2, qs) → R G MX9_goes 50 [(0, .ref x0), (1, .int x1), (2, .int q2)] [] qs o) (he0 : ∀ (qs : Hp), w = .inr qs → R G MX9_goes 110 [(0, .ref x0), (1, .int x1)] [] qs o) : R G MX9_goes 50 [(0, .ref x0), (1, .int x1), (2, .int a.1)] [] a.2 o := by
  unfold fX9_goes_l50 at h
  refine R_iload DX9_goes_50 2 rfl ?_
  refine R_constI DX9_goes_51 ci_6 ?_
  by_cases c12 : (iI 6) ≤ a.1
  · replace h := if_t h c12
    refine R_icmp_ge_t DX9_goes_53 c12 ?_
    refine R.sub (L' := [(0, .ref x0), (1, .int x1)]) [0, 1] rfl ?_
    cases h
    exact he0 _ rfl
  · replace h := if_f h c12
    refine R_icmp_ge_f DX9_goes_53 c12 ?_
    refine R_aload DX9_goes_56 0 rfl ?_
    obtain ⟨v13, ev13, h⟩ := bind_some h
    refine R_gR DX9_goes_57 fl_RX9_59 ev13 ?_
    refine R_constI DX9_goes_60 ci_7 ?_
    refine R_iload DX9_goes_62 1 rfl ?_
    refine R_imul DX9_goes_63 ?_
    refine R_iload DX9_goes_64 2 rfl ?_
    refine R_iadd DX9_goes_65 ?_
    refine R_aload DX9_goes_66 0 rfl ?_
    obtain ⟨v14, ev14, h⟩ := bind_some h
    refine R_gR DX9_goes_67 fl_RX9_43 ev14 ?_
    refine R_constI DX9_goes_70 ci_6 ?_
    refine R_iload DX9_goes_72 1 rfl ?_
    refine R_imul DX9_goes_73 ?_
    refine R_iload DX9_goes_74 2 rfl ?_
    refine R_iadd DX9_goes_75 ?_
    obtain ⟨v15, ev15, h⟩ := bind_some h
    refine R_aI DX9_goes_76 ev15 ?_
    refine R_iload DX9_goes_77 2 rfl ?_
    refine R_constI DX9_goes_78 ci_3 ?_
    by_cases c16 : a.1 = (iI 3)
    · replace h := if_t h c16
      refine R_icmp_ne_f DX9_goes_79 c16 ?_
      refine R_aload DX9_goes_82 0 rfl ?_
      obtain ⟨v20, ev20, h⟩ := bind_some h
      refine R_gI DX9_goes_83 fl_RX9_348 ev20 ?_
      refine R_goto DX9_goes_86 ?_
      exact tX9_goes_b102 h hc he0
    · replace h := if_f h c16
      refine R_icmp_ne_t DX9_goes_79 c16 ?_
      refine R_iload DX9_goes_89 2 rfl ?_
      refine R_constI DX9_goes_90 ci_4 ?_
      by_cases c17 : a.1 = (iI 4)
      · replace h := if_t h c17
        refine R_icmp_ne_f DX9_goes_91 c17 ?_
        refine R_aload DX9_goes_94 0 rfl ?_
        obtain ⟨v19, ev19, h⟩ := bind_some h
        refine R_gI DX9_goes_95 fl_RX9_351 ev19 ?_
        refine R_goto DX9_goes_98 ?_
        exact tX9_goes_b102 h hc he0
      · replace h := if_f h c17
        refine R_icmp_ne_t DX9_goes_91 c17 ?_
        refine R_constI DX9_goes_101 ci_0 ?_
        exact tX9_goes_b102 h hc he0
set_option maxRecDepth 8000 in
theorem tX9_goes_l37 {G : Gm} {x0 : Nat} {o : Option Value × Hp} {a : Int32 × Hp} {w : (Int32 × Hp) ⊕ ((Hp))} (h : fX9_goes_l37 x0 a = some w) (hc : ∀ (q1 : Int32) (qs : Hp), w = .inl (q1, qs) → R G MX9_goes 37 [(0, .ref x0), (1, .int q1)] [] qs o) (he0 : ∀ (qs : Hp), w = .inr qs → R G MX9_goes 129 [(0, .ref x0)] [] qs o) : R G MX9_goes 37 [(0, .ref x0), (1, .int a.1)] [] a.2 o := by
  unfold fX9_goes_l37 at h
  refine R_iload DX9_goes_37 1 rfl ?_
  refine R_aload DX9_goes_38 0 rfl ?_
  obtain ⟨v9, ev9, h⟩ := bind_some h
  refine R_gR DX9_goes_39 fl_RX9_34 ev9 ?_
  refine R_constI DX9_goes_42 ci_7 ?_
  obtain ⟨v10, ev10, h⟩ := bind_some h
  refine R_aI DX9_goes_44 ev10 ?_
  by_cases c11 : v10 ≤ a.1
  · replace h := if_t h c11
    refine R_icmp_ge_t DX9_goes_45 c11 ?_
    refine R.sub (L' := [(0, .ref x0)]) [0] rfl ?_
    cases h
    exact he0 _ rfl
  · replace h := if_f h c11
    refine R_icmp_ge_f DX9_goes_45 c11 ?_
    refine R_constI DX9_goes_48 ci_0 ?_
    refine R_istore [(2, .int (iI 0)), (0, .ref x0), (1, .int a.1)] DX9_goes_49 (by decide) rfl ?_
    refine R.sub (L' := [(0, .ref x0), (1, .int a.1), (2, .int (iI 0))]) [1, 2, 0] rfl ?_
    obtain ⟨r21, hi, h⟩ := bind_some h
    have hE : (fun u50 : Hp => R G MX9_goes 110 [(0, .ref x0), (1, .int a.1)] [] u50 o) r21 → ∀ (q2 : Int32) (qs : Hp), iter (fX9_goes_l50 x0 a.1) FU (q2, qs) = some r21 → R G MX9_goes 50 [(0, .ref x0), (1, .int a.1), (2, .int q2)] [] qs o := fun hX q2 qs hj => loop_R (fX9_goes_l50 x0 a.1) (fun p50 : Int32 × Hp => R G MX9_goes 50 [(0, .ref x0), (1, .int a.1), (2, .int p50.1)] [] p50.2 o) (fun u50 : Hp => R G MX9_goes 110 [(0, .ref x0), (1, .int a.1)] [] u50 o) (fun a w hw hc he => tX9_goes_l50 hw (fun q2 qs e => hc (q2, qs) e) (fun qs e => he qs e)) FU (q2, qs) r21 hj hX
    refine hE ?_ _ _ hi
    clear hE hi
    refine R_aload DX9_goes_110 0 rfl ?_
    obtain ⟨v22, ev22, h⟩ := bind_some h
    refine R_gR DX9_goes_111 fl_RX9_59 ev22 ?_
    refine R_constI DX9_goes_114 ci_7 ?_
    refine R_iload DX9_goes_116 1 rfl ?_
    refine R_imul DX9_goes_117 ?_
    refine R_constI DX9_goes_118 ci_6 ?_
    refine R_iadd DX9_goes_120 ?_
    refine R_constI DX9_goes_121 ci_0 ?_
    obtain ⟨s23, es23, h⟩ := bind_some h
    refine R_sI DX9_goes_122 es23 ?_
    refine R_iinc [(1, .int (a.1 + iI 1)), (0, .ref x0)] DX9_goes_123 1 rfl (v := a.1 + iI 1) (by rfl) (by decide) rfl ?_
    refine R_goto DX9_goes_126 ?_
    refine R.sub (L' := [(0, .ref x0), (1, .int (a.1 + iI 1))]) [1, 0] rfl ?_
    cases h
    exact hc _ _ rfl
set_option maxRecDepth 8000 in
theorem tX9_goes_l143 {G : Gm} {x0 : Nat} {x1 : Int32} {o : Option Value × Hp} {a : Int32 × Hp} {w : (Int32 × Hp) ⊕ ((Hp))} (h : fX9_goes_l143 x0 x1 a = some w) (hc : ∀ (q2 : Int32) (qs : Hp), w = .inl (q2, qs) → R G MX9_goes 143 [(0, .ref x0), (1, .int x1), (2, .int q2)] [] qs o) (he0 : ∀ (qs : Hp), w = .inr qs → R G MX9_goes 166 [(0, .ref x0), (1, .int x1)] [] qs o) : R G MX9_goes 143 [(0, .ref x0), (1, .int x1), (2, .int a.1)] [] a.2 o := by
  unfold fX9_goes_l143 at h
  refine R_iload DX9_goes_143 2 rfl ?_
  refine R_aload DX9_goes_144 0 rfl ?_
  obtain ⟨v28, ev28, h⟩ := bind_some h
  refine R_gR DX9_goes_145 fl_RX9_34 ev28 ?_
  refine R_constI DX9_goes_148 ci_7 ?_
  obtain ⟨v29, ev29, h⟩ := bind_some h
  refine R_aI DX9_goes_150 ev29 ?_
  by_cases c30 : v29 ≤ a.1
  · replace h := if_t h c30
    refine R_icmp_ge_t DX9_goes_151 c30 ?_
    refine R.sub (L' := [(0, .ref x0), (1, .int x1)]) [0, 1] rfl ?_
    cases h
    exact he0 _ rfl
  · replace h := if_f h c30
    refine R_icmp_ge_f DX9_goes_151 c30 ?_
    refine R_aload DX9_goes_154 0 rfl ?_
    refine R_iload DX9_goes_155 2 rfl ?_
    refine R_iload DX9_goes_156 1 rfl ?_
    obtain ⟨s31, es31, h⟩ := bind_some h
    refine R_cV0 [.int a.1, .int x1] DX9_goes_157 kzvX9_hourOf ml_RX9_354 ⟨Nat.le_of_ble_eq_true rfl, Nat.le_of_ble_eq_true rfl⟩ rfl (Nat.le_of_ble_eq_true rfl) (kX9_hourOf es31) ?_
    refine R_iinc [(2, .int (a.1 + iI 1)), (0, .ref x0), (1, .int x1)] DX9_goes_160 2 rfl (v := a.1 + iI 1) (by rfl) (by decide) rfl ?_
    refine R_goto DX9_goes_163 ?_
    refine R.sub (L' := [(0, .ref x0), (1, .int x1), (2, .int (a.1 + iI 1))]) [1, 2, 0] rfl ?_
    cases h
    exact hc _ _ rfl
set_option maxRecDepth 8000 in
theorem tX9_goes_l131 {G : Gm} {x0 : Nat} {o : Option Value × Hp} {a : Int32 × Hp} {w : (Int32 × Hp) ⊕ ((Hp))} (h : fX9_goes_l131 x0 a = some w) (hc : ∀ (q1 : Int32) (qs : Hp), w = .inl (q1, qs) → R G MX9_goes 131 [(0, .ref x0), (1, .int q1)] [] qs o) (he0 : ∀ (qs : Hp), w = .inr qs → R G MX9_goes 172 [] [] qs o) : R G MX9_goes 131 [(0, .ref x0), (1, .int a.1)] [] a.2 o := by
  unfold fX9_goes_l131 at h
  refine R_iload DX9_goes_131 1 rfl ?_
  refine R_aload DX9_goes_132 0 rfl ?_
  obtain ⟨v25, ev25, h⟩ := bind_some h
  refine R_gR DX9_goes_133 fl_RX9_34 ev25 ?_
  refine R_constI DX9_goes_136 ci_3 ?_
  obtain ⟨v26, ev26, h⟩ := bind_some h
  refine R_aI DX9_goes_137 ev26 ?_
  by_cases c27 : v26 ≤ a.1
  · replace h := if_t h c27
    refine R_icmp_ge_t DX9_goes_138 c27 ?_
    refine R.sub (L' := []) [] rfl ?_
    cases h
    exact he0 _ rfl
  · replace h := if_f h c27
    refine R_icmp_ge_f DX9_goes_138 c27 ?_
    refine R_constI DX9_goes_141 ci_0 ?_
    refine R_istore [(2, .int (iI 0)), (0, .ref x0), (1, .int a.1)] DX9_goes_142 (by decide) rfl ?_
    refine R.sub (L' := [(0, .ref x0), (1, .int a.1), (2, .int (iI 0))]) [1, 2, 0] rfl ?_
    obtain ⟨r32, hi, h⟩ := bind_some h
    have hE : (fun u143 : Hp => R G MX9_goes 166 [(0, .ref x0), (1, .int a.1)] [] u143 o) r32 → ∀ (q2 : Int32) (qs : Hp), iter (fX9_goes_l143 x0 a.1) FU (q2, qs) = some r32 → R G MX9_goes 143 [(0, .ref x0), (1, .int a.1), (2, .int q2)] [] qs o := fun hX q2 qs hj => loop_R (fX9_goes_l143 x0 a.1) (fun p143 : Int32 × Hp => R G MX9_goes 143 [(0, .ref x0), (1, .int a.1), (2, .int p143.1)] [] p143.2 o) (fun u143 : Hp => R G MX9_goes 166 [(0, .ref x0), (1, .int a.1)] [] u143 o) (fun a w hw hc he => tX9_goes_l143 hw (fun q2 qs e => hc (q2, qs) e) (fun qs e => he qs e)) FU (q2, qs) r32 hj hX
    refine hE ?_ _ _ hi
    clear hE hi
    refine R_iinc [(1, .int (a.1 + iI 1)), (0, .ref x0)] DX9_goes_166 1 rfl (v := a.1 + iI 1) (by rfl) (by decide) rfl ?_
    refine R_goto DX9_goes_169 ?_
    refine R.sub (L' := [(0, .ref x0), (1, .int (a.1 + iI 1))]) [1, 0] rfl ?_
    cases h
    exact hc _ _ rfl
set_option maxRecDepth 8000 in
theorem kX9_goes {G : Gm} {x0 : Nat} {s : Hp} {w : Hp} (h : fX9_goes x0 s = some w) : (s.2.2 x0).1 = 9 ∧ Call G MX9_goes [.ref x0] s (none, w) := by
  unfold fX9_goes at h
  obtain ⟨_, e0, h⟩ := bind_some h
  refine ⟨ck_some e0, Call.of_R pnRX9 (Nat.le_of_ble_eq_true rfl) ?_⟩
  clear e0
  show R G MX9_goes 0 [(0, .ref x0)] [] s (none, w)
  refine R_constI DX9_goes_0 ci_0 ?_
  refine R_istore [(1, .int (iI 0)), (0, .ref x0)] DX9_goes_1 (by decide) rfl ?_
  refine R.sub (L' := [(0, .ref x0), (1, .int (iI 0))]) [1, 0] rfl ?_
  obtain ⟨r8, hi, h⟩ := bind_some h
  have hE : (fun u2 : Hp => R G MX9_goes 35 [(0, .ref x0)] [] u2 (none, w)) r8 → ∀ (q1 : Int32) (qs : Hp), iter (fX9_goes_l2 x0) FU (q1, qs) = some r8 → R G MX9_goes 2 [(0, .ref x0), (1, .int q1)] [] qs (none, w) := fun hX q1 qs hj => loop_R (fX9_goes_l2 x0) (fun p2 : Int32 × Hp => R G MX9_goes 2 [(0, .ref x0), (1, .int p2.1)] [] p2.2 (none, w)) (fun u2 : Hp => R G MX9_goes 35 [(0, .ref x0)] [] u2 (none, w)) (fun a w hw hc he => tX9_goes_l2 hw (fun q1 qs e => hc (q1, qs) e) (fun qs e => he qs e)) FU (q1, qs) r8 hj hX
  refine hE ?_ _ _ hi
  clear hE hi
  refine R_constI DX9_goes_35 ci_0 ?_
  refine R_istore [(1, .int (iI 0)), (0, .ref x0)] DX9_goes_36 (by decide) rfl ?_
  refine R.sub (L' := [(0, .ref x0), (1, .int (iI 0))]) [1, 0] rfl ?_
  obtain ⟨r24, hi, h⟩ := bind_some h
  have hE : (fun u37 : Hp => R G MX9_goes 129 [(0, .ref x0)] [] u37 (none, w)) r24 → ∀ (q1 : Int32) (qs : Hp), iter (fX9_goes_l37 x0) FU (q1, qs) = some r24 → R G MX9_goes 37 [(0, .ref x0), (1, .int q1)] [] qs (none, w) := fun hX q1 qs hj => loop_R (fX9_goes_l37 x0) (fun p37 : Int32 × Hp => R G MX9_goes 37 [(0, .ref x0), (1, .int p37.1)] [] p37.2 (none, w)) (fun u37 : Hp => R G MX9_goes 129 [(0, .ref x0)] [] u37 (none, w)) (fun a w hw hc he => tX9_goes_l37 hw (fun q1 qs e => hc (q1, qs) e) (fun qs e => he qs e)) FU (q1, qs) r24 hj hX
  refine hE ?_ _ _ hi
  clear hE hi
  refine R_constI DX9_goes_129 ci_0 ?_
  refine R_istore [(1, .int (iI 0)), (0, .ref x0)] DX9_goes_130 (by decide) rfl ?_
  refine R.sub (L' := [(0, .ref x0), (1, .int (iI 0))]) [1, 0] rfl ?_
  obtain ⟨r33, hi, h⟩ := bind_some h
  have hE : (fun u131 : Hp => R G MX9_goes 172 [] [] u131 (none, w)) r33 → ∀ (q1 : Int32) (qs : Hp), iter (fX9_goes_l131 x0) FU (q1, qs) = some r33 → R G MX9_goes 131 [(0, .ref x0), (1, .int q1)] [] qs (none, w) := fun hX q1 qs hj => loop_R (fX9_goes_l131 x0) (fun p131 : Int32 × Hp => R G MX9_goes 131 [(0, .ref x0), (1, .int p131.1)] [] p131.2 (none, w)) (fun u131 : Hp => R G MX9_goes 172 [] [] u131 (none, w)) (fun a w hw hc he => tX9_goes_l131 hw (fun q1 qs e => hc (q1, qs) e) (fun qs e => he qs e)) FU (q1, qs) r33 hj hX
  refine hE ?_ _ _ hi
  clear hE hi
  cases h
  exact R_return rfl DX9_goes_172
