set_option maxRecDepth 8000 in
theorem tX9_init_l217 {G : Gm} {x0 : Nat} {o : Option Value × Hp} {a : Int32 × Hp} {w : (Int32 × Hp) ⊕ ((Hp))} (h : fX9_init_l217 x0 a = some w) (hc : ∀ (q1 : Int32) (qs : Hp), w = .inl (q1, qs) → R G MX9_init 217 [(0, .ref x0), (1, .int q1)] [] qs o) (he0 : ∀ (qs : Hp), w = .inr qs → R G MX9_init 235 [] [] qs o) : R G MX9_init 217 [(0, .ref x0), (1, .int a.1)] [] a.2 o := by
  unfold fX9_init_l217 at h
  refine R_iload DX9_init_217 1 rfl ?_
  refine R_constI DX9_init_218 ci_4 ?_
  by_cases c52 : (iI 4) ≤ a.1
  · replace h := if_t h c52
    refine R_icmp_ge_t DX9_init_219 c52 ?_
    refine R.sub (L' := []) [] rfl ?_
    cases h
    exact he0 _ rfl
  · replace h := if_f h c52
    refine R_icmp_ge_f DX9_init_219 c52 ?_
    refine R_aload DX9_init_222 0 rfl ?_
    obtain ⟨v53, ev53, h⟩ := bind_some h
    refine R_gR DX9_init_223 fl_RX9_7 ev53 ?_
    refine R_iload DX9_init_226 1 rfl ?_
    refine R_constI DX9_init_227 ci_m1 ?_
    obtain ⟨s54, es54, h⟩ := bind_some h
    refine R_sI DX9_init_228 es54 ?_
    refine R_iinc [(1, .int (a.1 + iI 1)), (0, .ref x0)] DX9_init_229 1 rfl (v := a.1 + iI 1) (by rfl) (by decide) rfl ?_
    refine R_goto DX9_init_232 ?_
    refine R.sub (L' := [(0, .ref x0), (1, .int (a.1 + iI 1))]) [1, 0] rfl ?_
    cases h
    exact hc _ _ rfl
set_option maxRecDepth 8000 in
theorem kX9_init {G : Gm} {x0 : Nat} {s : Hp} {w : Hp} (h : fX9_init x0 s = some w) : (s.2.2 x0).1 = 9 ∧ Call G MX9_init [.ref x0] s (none, w) := by
  unfold fX9_init at h
  obtain ⟨_, e0, h⟩ := bind_some h
  refine ⟨ck_some e0, Call.of_R pnRX9 (Nat.le_of_ble_eq_true rfl) ?_⟩
  clear e0
  show R G MX9_init 0 [(0, .ref x0)] [] s (none, w)
  refine R_aload DX9_init_0 0 rfl ?_
  refine R_objInit DX9_init_1 oi_RX9_1 ⟨Nat.le_of_ble_eq_true rfl, Nat.le_of_ble_eq_true rfl⟩ ?_
  refine R_aload DX9_init_4 0 rfl ?_
  refine R_constI DX9_init_5 ci_4 ?_
  obtain ⟨s1, es1, h⟩ := bind_some h
  refine R_newa at20 aw20 DX9_init_6 es1 ?_
  obtain ⟨s2, es2, h⟩ := bind_some h
  refine R_pAF DX9_init_8 fl_RX9_7 ⟨rfl, _, rfl⟩ es2 ?_
  refine R_aload DX9_init_11 0 rfl ?_
  refine R_constI DX9_init_12 ci_4 ?_
  obtain ⟨s3, es3, h⟩ := bind_some h
  refine R_newa at20 aw20 DX9_init_13 es3 ?_
  obtain ⟨s4, es4, h⟩ := bind_some h
  refine R_pAF DX9_init_15 fl_RX9_13 ⟨rfl, _, rfl⟩ es4 ?_
  refine R_aload DX9_init_18 0 rfl ?_
  refine R_constI DX9_init_19 ci_240 ?_
  obtain ⟨s5, es5, h⟩ := bind_some h
  refine R_newa at21 aw21 DX9_init_22 es5 ?_
  obtain ⟨s6, es6, h⟩ := bind_some h
  refine R_pAF DX9_init_24 fl_RX9_16 ⟨rfl, _, rfl⟩ es6 ?_
  refine R_aload DX9_init_27 0 rfl ?_
  refine R_constI DX9_init_28 ci_60 ?_
  obtain ⟨s7, es7, h⟩ := bind_some h
  refine R_newa at21 aw21 DX9_init_30 es7 ?_
  obtain ⟨s8, es8, h⟩ := bind_some h
  refine R_pAF DX9_init_32 fl_RX9_20 ⟨rfl, _, rfl⟩ es8 ?_
  refine R_aload DX9_init_35 0 rfl ?_
  refine R_constI DX9_init_36 ci_1600 ?_
  obtain ⟨s9, es9, h⟩ := bind_some h
  refine R_newa at22 aw22 DX9_init_39 es9 ?_
  obtain ⟨s10, es10, h⟩ := bind_some h
  refine R_pAF DX9_init_41 fl_RX9_23 ⟨rfl, _, rfl⟩ es10 ?_
  refine R_aload DX9_init_44 0 rfl ?_
  refine R_constI DX9_init_45 ci_m1 ?_
  obtain ⟨s11, es11, h⟩ := bind_some h
  refine R_pI DX9_init_46 fl_RX9_27 es11 ?_
  refine R_aload DX9_init_49 0 rfl ?_
  refine R_constI DX9_init_50 ci_5 ?_
  obtain ⟨s12, es12, h⟩ := bind_some h
  refine R_newa at20 aw20 DX9_init_51 es12 ?_
  obtain ⟨s13, es13, h⟩ := bind_some h
  refine R_pAF DX9_init_53 fl_RX9_31 ⟨rfl, _, rfl⟩ es13 ?_
  refine R_aload DX9_init_56 0 rfl ?_
  refine R_constI DX9_init_57 ci_75 ?_
  obtain ⟨s14, es14, h⟩ := bind_some h
  refine R_newa at20 aw20 DX9_init_59 es14 ?_
  obtain ⟨s15, es15, h⟩ := bind_some h
  refine R_pAF DX9_init_61 fl_RX9_34 ⟨rfl, _, rfl⟩ es15 ?_
  refine R_aload DX9_init_64 0 rfl ?_
  refine R_constI DX9_init_65 ci_600 ?_
  obtain ⟨s16, es16, h⟩ := bind_some h
  refine R_newa at20 aw20 DX9_init_68 es16 ?_
  obtain ⟨s17, es17, h⟩ := bind_some h
  refine R_pAF DX9_init_70 fl_RX9_37 ⟨rfl, _, rfl⟩ es17 ?_
  refine R_aload DX9_init_73 0 rfl ?_
  refine R_constI DX9_init_74 ci_120 ?_
  obtain ⟨s18, es18, h⟩ := bind_some h
  refine R_newa at20 aw20 DX9_init_76 es18 ?_
  obtain ⟨s19, es19, h⟩ := bind_some h
  refine R_pAF DX9_init_78 fl_RX9_40 ⟨rfl, _, rfl⟩ es19 ?_
  refine R_aload DX9_init_81 0 rfl ?_
  refine R_constI DX9_init_82 ci_120 ?_
  obtain ⟨s20, es20, h⟩ := bind_some h
  refine R_newa at20 aw20 DX9_init_84 es20 ?_
  obtain ⟨s21, es21, h⟩ := bind_some h
  refine R_pAF DX9_init_86 fl_RX9_43 ⟨rfl, _, rfl⟩ es21 ?_
  refine R_aload DX9_init_89 0 rfl ?_
  refine R_constI DX9_init_90 ci_75 ?_
  obtain ⟨s22, es22, h⟩ := bind_some h
  refine R_newa at20 aw20 DX9_init_92 es22 ?_
  obtain ⟨s23, es23, h⟩ := bind_some h
  refine R_pAF DX9_init_94 fl_RX9_46 ⟨rfl, _, rfl⟩ es23 ?_
  refine R_aload DX9_init_97 0 rfl ?_
  refine R_constI DX9_init_98 ci_480 ?_
  obtain ⟨s24, es24, h⟩ := bind_some h
  refine R_newa at20 aw20 DX9_init_101 es24 ?_
  obtain ⟨s25, es25, h⟩ := bind_some h
  refine R_pAF DX9_init_103 fl_RX9_49 ⟨rfl, _, rfl⟩ es25 ?_
  refine R_aload DX9_init_106 0 rfl ?_
  refine R_constI DX9_init_107 ci_1200 ?_
  obtain ⟨s26, es26, h⟩ := bind_some h
  refine R_newa at20 aw20 DX9_init_110 es26 ?_
  obtain ⟨s27, es27, h⟩ := bind_some h
  refine R_pAF DX9_init_112 fl_RX9_52 ⟨rfl, _, rfl⟩ es27 ?_
  refine R_aload DX9_init_115 0 rfl ?_
  refine R_constI DX9_init_116 ci_3 ?_
  obtain ⟨s28, es28, h⟩ := bind_some h
  refine R_newa at23 aw23 DX9_init_117 es28 ?_
  obtain ⟨s29, es29, h⟩ := bind_some h
  refine R_pAF DX9_init_119 fl_RX9_55 ⟨rfl, _, rfl⟩ es29 ?_
  refine R_aload DX9_init_122 0 rfl ?_
  refine R_constI DX9_init_123 ci_700 ?_
  obtain ⟨s30, es30, h⟩ := bind_some h
  refine R_newa at20 aw20 DX9_init_126 es30 ?_
  obtain ⟨s31, es31, h⟩ := bind_some h
  refine R_pAF DX9_init_128 fl_RX9_59 ⟨rfl, _, rfl⟩ es31 ?_
  refine R_aload DX9_init_131 0 rfl ?_
  refine R_constI DX9_init_132 ci_96 ?_
  obtain ⟨s32, es32, h⟩ := bind_some h
  refine R_newa at20 aw20 DX9_init_134 es32 ?_
  obtain ⟨s33, es33, h⟩ := bind_some h
  refine R_pAF DX9_init_136 fl_RX9_62 ⟨rfl, _, rfl⟩ es33 ?_
  refine R_aload DX9_init_139 0 rfl ?_
  refine R_constI DX9_init_140 ci_96 ?_
  obtain ⟨s34, es34, h⟩ := bind_some h
  refine R_newa at23 aw23 DX9_init_142 es34 ?_
  obtain ⟨s35, es35, h⟩ := bind_some h
  refine R_pAF DX9_init_144 fl_RX9_65 ⟨rfl, _, rfl⟩ es35 ?_
  refine R_aload DX9_init_147 0 rfl ?_
  refine R_constI DX9_init_148 ci_96 ?_
  obtain ⟨s36, es36, h⟩ := bind_some h
  refine R_newa at20 aw20 DX9_init_150 es36 ?_
  obtain ⟨s37, es37, h⟩ := bind_some h
  refine R_pAF DX9_init_152 fl_RX9_68 ⟨rfl, _, rfl⟩ es37 ?_
  refine R_aload DX9_init_155 0 rfl ?_
  refine R_constI DX9_init_156 ci_5 ?_
  obtain ⟨s38, es38, h⟩ := bind_some h
  refine R_newa at20 aw20 DX9_init_157 es38 ?_
  obtain ⟨s39, es39, h⟩ := bind_some h
  refine R_pAF DX9_init_159 fl_RX9_71 ⟨rfl, _, rfl⟩ es39 ?_
  refine R_aload DX9_init_162 0 rfl ?_
  refine R_constI DX9_init_163 ci_120 ?_
  obtain ⟨s40, es40, h⟩ := bind_some h
  refine R_newa at23 aw23 DX9_init_165 es40 ?_
  obtain ⟨s41, es41, h⟩ := bind_some h
  refine R_pAF DX9_init_167 fl_RX9_74 ⟨rfl, _, rfl⟩ es41 ?_
  refine R_aload DX9_init_170 0 rfl ?_
  refine R_constI DX9_init_171 ci_16000 ?_
  obtain ⟨s42, es42, h⟩ := bind_some h
  refine R_newa at21 aw21 DX9_init_174 es42 ?_
  obtain ⟨s43, es43, h⟩ := bind_some h
  refine R_pAF DX9_init_176 fl_RX9_77 ⟨rfl, _, rfl⟩ es43 ?_
  refine R_aload DX9_init_179 0 rfl ?_
  refine R_constI DX9_init_180 ci_16000 ?_
  obtain ⟨s44, es44, h⟩ := bind_some h
  refine R_newa at21 aw21 DX9_init_183 es44 ?_
  obtain ⟨s45, es45, h⟩ := bind_some h
  refine R_pAF DX9_init_185 fl_RX9_80 ⟨rfl, _, rfl⟩ es45 ?_
  refine R_aload DX9_init_188 0 rfl ?_
  refine R_constI DX9_init_189 ci_32000 ?_
  obtain ⟨s46, es46, h⟩ := bind_some h
  refine R_newa at21 aw21 DX9_init_192 es46 ?_
  obtain ⟨s47, es47, h⟩ := bind_some h
  refine R_pAF DX9_init_194 fl_RX9_83 ⟨rfl, _, rfl⟩ es47 ?_
  refine R_aload DX9_init_197 0 rfl ?_
  refine R_constI DX9_init_198 ci_32000 ?_
  obtain ⟨s48, es48, h⟩ := bind_some h
  refine R_newa at21 aw21 DX9_init_201 es48 ?_
  obtain ⟨s49, es49, h⟩ := bind_some h
  refine R_pAF DX9_init_203 fl_RX9_86 ⟨rfl, _, rfl⟩ es49 ?_
  refine R_aload DX9_init_206 0 rfl ?_
  refine R_constI DX9_init_207 ci_7680 ?_
  obtain ⟨s50, es50, h⟩ := bind_some h
  refine R_newa at23 aw23 DX9_init_210 es50 ?_
  obtain ⟨s51, es51, h⟩ := bind_some h
  refine R_pAF DX9_init_212 fl_RX9_89 ⟨rfl, _, rfl⟩ es51 ?_
  refine R_constI DX9_init_215 ci_0 ?_
  refine R_istore [(1, .int (iI 0)), (0, .ref x0)] DX9_init_216 (by decide) rfl ?_
  refine R.sub (L' := [(0, .ref x0), (1, .int (iI 0))]) [1, 0] rfl ?_
  obtain ⟨r55, hi, h⟩ := bind_some h
  have hE : (fun u217 : Hp => R G MX9_init 235 [] [] u217 (none, w)) r55 → ∀ (q1 : Int32) (qs : Hp), iter (fX9_init_l217 x0) FU (q1, qs) = some r55 → R G MX9_init 217 [(0, .ref x0), (1, .int q1)] [] qs (none, w) := fun hX q1 qs hj => loop_R (fX9_init_l217 x0) (fun p217 : Int32 × Hp => R G MX9_init 217 [(0, .ref x0), (1, .int p217.1)] [] p217.2 (none, w)) (fun u217 : Hp => R G MX9_init 235 [] [] u217 (none, w)) (fun a w hw hc he => tX9_init_l217 hw (fun q1 qs e => hc (q1, qs) e) (fun qs e => he qs e)) FU (q1, qs) r55 hj hX
  refine hE ?_ _ _ hi
  clear hE hi
  cases h
  exact R_return rfl DX9_init_235
set_option maxRecDepth 8000 in
theorem tX9_in_b17 {G : Gm} {s : Hp} {w : Int32 × Hp} (h : fX9_in_b17 s = some w) : R G MX9_in 17 [] [] s (some (.int w.1), w.2) := by
  unfold fX9_in_b17 at h
  refine R_constI DX9_in_17 ci_0 ?_
  cases h
  exact R_zreturn rfl DX9_in_18 (by decide)
set_option maxRecDepth 8000 in
theorem kX9_in {G : Gm} {x0 : Int64} {x2 : Int64} {x4 : Int64} {s : Hp} {w : Int32 × Hp} (h : fX9_in x0 x2 x4 s = some w) : Call G MX9_in [.long x0, .long x2, .long x4] s (some (.int w.1), w.2) := by
  unfold fX9_in at h
  refine Call.of_R pnRX9 (Nat.le_of_ble_eq_true rfl) ?_
  show R G MX9_in 0 [(0, .long x0), (2, .long x2), (4, .long x4)] [] s (some (.int w.1), w.2)
  refine R_lload DX9_in_0 0 rfl ?_
  refine R_lload DX9_in_1 1 rfl ?_
  refine R_lcmp DX9_in_2 ?_
  by_cases c1 : (lg_cmp x0 x2) < 0
  · replace h := if_t h c1
    refine R_if_lt_t DX9_in_3 c1 ?_
    refine R.sub (L' := []) [] rfl ?_
    exact tX9_in_b17 h
  · replace h := if_f h c1
    refine R_if_lt_f DX9_in_3 c1 ?_
    refine R_lload DX9_in_6 0 rfl ?_
    refine R_lload DX9_in_7 2 rfl ?_
    refine R_lcmp DX9_in_9 ?_
    by_cases c2 : 0 < (lg_cmp x0 x4)
    · replace h := if_t h c2
      refine R_if_gt_t DX9_in_10 c2 ?_
      refine R.sub (L' := []) [] rfl ?_
      exact tX9_in_b17 h
    · replace h := if_f h c2
      refine R_if_gt_f DX9_in_10 c2 ?_
      refine R_constI DX9_in_13 ci_1 ?_
      refine R_goto DX9_in_14 ?_
      cases h
      exact R_zreturn rfl DX9_in_18 (by decide)
set_option maxRecDepth 8000 in
theorem kX9_isSlot {G : Gm} {x0 : Int32} {s : Hp} {w : Int32 × Hp} (h : fX9_isSlot x0 s = some w) : Call G MX9_isSlot [.int x0] s (some (.int w.1), w.2) := by
  unfold fX9_isSlot at h
  refine Call.of_R pnRX9 (Nat.le_of_ble_eq_true rfl) ?_
  show R G MX9_isSlot 0 [(0, .int x0)] [] s (some (.int w.1), w.2)
  refine R_iload DX9_isSlot_0 0 rfl ?_
  refine R_i2l DX9_isSlot_1 ?_
  refine R_lconst DX9_isSlot_2 ?_
  refine R_ldc2 DX9_isSlot_3 cw_RX9_95 ?_
  obtain ⟨r1, er1, h⟩ := bind_some h
  refine R_cS1 [.long (Int32.toInt64 x0), .long 0, .long 3] DX9_isSlot_6 kzsX9_in ml_RX9_97 ⟨Nat.le_of_ble_eq_true rfl, Nat.le_of_ble_eq_true rfl⟩ rfl (Nat.le_of_ble_eq_true rfl) (kX9_in er1) ?_
  obtain ⟨_, ez, h⟩ := bind_some h
  cases h
  exact R_zreturn rfl DX9_isSlot_9 (rZ_some ez)
set_option maxRecDepth 8000 in
theorem tX9_row_b30 {G : Gm} {s : Hp} {w : Int32 × Hp} (h : fX9_row_b30 s = some w) : R G MX9_row 30 [] [] s (some (.int w.1), w.2) := by
  unfold fX9_row_b30 at h
  refine R_constI DX9_row_30 ci_m2 ?_
  cases h
  exact R_ireturn rfl DX9_row_32
set_option maxRecDepth 8000 in
theorem tX9_row_l57 {G : Gm} {x0 : Nat} {x1 : Int32} {x3 : Int32} {o : Option Value × Hp} {a : Int32 × Hp} {w : (Int32 × Hp) ⊕ ((Hp))} (h : fX9_row_l57 x0 x1 x3 a = some w) (hc : ∀ (q4 : Int32) (qs : Hp), w = .inl (q4, qs) → R G MX9_row 57 [(0, .ref x0), (1, .int x1), (3, .int x3), (4, .int q4)] [] qs o) (he0 : ∀ (qs : Hp), w = .inr qs → R G MX9_row 82 [] [] qs o) : R G MX9_row 57 [(0, .ref x0), (1, .int x1), (3, .int x3), (4, .int a.1)] [] a.2 o := by
  unfold fX9_row_l57 at h
  refine R_iload DX9_row_57 3 rfl ?_
  refine R_iload DX9_row_59 2 rfl ?_
  by_cases c12 : x3 ≤ a.1
  · replace h := if_t h c12
    refine R_icmp_ge_t DX9_row_60 c12 ?_
    refine R.sub (L' := []) [] rfl ?_
    cases h
    exact he0 _ rfl
  · replace h := if_f h c12
    refine R_icmp_ge_f DX9_row_60 c12 ?_
    refine R_aload DX9_row_63 0 rfl ?_
    obtain ⟨v13, ev13, h⟩ := bind_some h
    refine R_gR DX9_row_64 fl_RX9_16 ev13 ?_
    refine R_constI DX9_row_67 ci_60 ?_
    refine R_iload DX9_row_69 1 rfl ?_
    refine R_imul DX9_row_70 ?_
    refine R_iload DX9_row_71 3 rfl ?_
    refine R_iadd DX9_row_73 ?_
    refine R_lconst DX9_row_74 ?_
    obtain ⟨s14, es14, h⟩ := bind_some h
    refine R_sL DX9_row_75 es14 ?_
    refine R_iinc [(4, .int (a.1 + iI 1)), (0, .ref x0), (1, .int x1), (3, .int x3)] DX9_row_76 3 rfl (v := a.1 + iI 1) (by rfl) (by decide) rfl ?_
    refine R_goto DX9_row_79 ?_
    refine R.sub (L' := [(0, .ref x0), (1, .int x1), (3, .int x3), (4, .int (a.1 + iI 1))]) [1, 2, 3, 0] rfl ?_
    cases h
    exact hc _ _ rfl
set_option maxRecDepth 8000 in
theorem kX9_row {G : Gm} {x0 : Nat} {x1 : Int32} {x2 : Int32} {x3 : Int32} {s : Hp} {w : Int32 × Hp} (h : fX9_row x0 x1 x2 x3 s = some w) : (s.2.2 x0).1 = 9 ∧ Call G MX9_row [.ref x0, .int x1, .int x2, .int x3] s (some (.int w.1), w.2) := by
  unfold fX9_row at h
  obtain ⟨_, e0, h⟩ := bind_some h
  refine ⟨ck_some e0, Call.of_R pnRX9 (Nat.le_of_ble_eq_true rfl) ?_⟩
  clear e0
  show R G MX9_row 0 [(0, .ref x0), (1, .int x1), (2, .int x2), (3, .int x3)] [] s (some (.int w.1), w.2)
  refine R_aload DX9_row_0 0 rfl ?_
  refine R_constI DX9_row_1 ci_0 ?_
  obtain ⟨s1, es1, h⟩ := bind_some h
  refine R_pI DX9_row_2 fl_RX9_92 es1 ?_
  refine R_iload DX9_row_5 1 rfl ?_
  obtain ⟨r2, er2, h⟩ := bind_some h
  refine R_cS1 [.int x1] DX9_row_6 kzsX9_isSlot ml_RX9_101 ⟨Nat.le_of_ble_eq_true rfl, Nat.le_of_ble_eq_true rfl⟩ rfl (Nat.le_of_ble_eq_true rfl) (kX9_isSlot er2) ?_
  by_cases c3 : r2.1 = 0
  · replace h := if_t h c3
    refine R_if_eq_t DX9_row_9 c3 ?_
    refine R.sub (L' := []) [] rfl ?_
    exact tX9_row_b30 h
  · replace h := if_f h c3
    refine R_if_eq_f DX9_row_9 c3 ?_
    refine R_iload DX9_row_12 2 rfl ?_
    refine R_i2l DX9_row_13 ?_
    refine R_lconst DX9_row_14 ?_
    refine R_ldc2 DX9_row_15 cw_RX9_95 ?_
    obtain ⟨r4, er4, h⟩ := bind_some h
    refine R_cS1 [.long (Int32.toInt64 x2), .long 0, .long 3] DX9_row_18 kzsX9_in ml_RX9_97 ⟨Nat.le_of_ble_eq_true rfl, Nat.le_of_ble_eq_true rfl⟩ rfl (Nat.le_of_ble_eq_true rfl) (kX9_in er4) ?_
    by_cases c5 : r4.1 = 0
    · replace h := if_t h c5
      refine R_if_eq_t DX9_row_21 c5 ?_
      refine R.sub (L' := []) [] rfl ?_
      exact tX9_row_b30 h
    · replace h := if_f h c5
      refine R_if_eq_f DX9_row_21 c5 ?_
      refine R_iload DX9_row_24 3 rfl ?_
      refine R_constI DX9_row_25 ci_60 ?_
      by_cases c6 : x3 ≤ (iI 60)
      · replace h := if_t h c6
        refine R_icmp_le_t DX9_row_27 c6 ?_
        refine R_iload DX9_row_33 3 rfl ?_
        by_cases c7 : 0 ≤ x3
        · replace h := if_t h c7
          refine R_if_ge_t DX9_row_34 c7 ?_
          refine R_aload DX9_row_40 0 rfl ?_
          obtain ⟨v8, ev8, h⟩ := bind_some h
          refine R_gR DX9_row_41 fl_RX9_7 ev8 ?_
          refine R_iload DX9_row_44 1 rfl ?_
          refine R_iload DX9_row_45 2 rfl ?_
          obtain ⟨s9, es9, h⟩ := bind_some h
          refine R_sI DX9_row_46 es9 ?_
          refine R_aload DX9_row_47 0 rfl ?_
          obtain ⟨v10, ev10, h⟩ := bind_some h
          refine R_gR DX9_row_48 fl_RX9_13 ev10 ?_
          refine R_iload DX9_row_51 1 rfl ?_
          refine R_iload DX9_row_52 3 rfl ?_
          obtain ⟨s11, es11, h⟩ := bind_some h
          refine R_sI DX9_row_53 es11 ?_
          refine R_constI DX9_row_54 ci_0 ?_
          refine R_istore [(4, .int (iI 0)), (0, .ref x0), (1, .int x1), (2, .int x2), (3, .int x3)] DX9_row_55 (by decide) rfl ?_
          refine R.sub (L' := [(0, .ref x0), (1, .int x1), (3, .int x3), (4, .int (iI 0))]) [1, 2, 4, 0] rfl ?_
          obtain ⟨r15, hi, h⟩ := bind_some h
          have hE : (fun u57 : Hp => R G MX9_row 82 [] [] u57 (some (.int w.1), w.2)) r15 → ∀ (q4 : Int32) (qs : Hp), iter (fX9_row_l57 x0 x1 x3) FU (q4, qs) = some r15 → R G MX9_row 57 [(0, .ref x0), (1, .int x1), (3, .int x3), (4, .int q4)] [] qs (some (.int w.1), w.2) := fun hX q4 qs hj => loop_R (fX9_row_l57 x0 x1 x3) (fun p57 : Int32 × Hp => R G MX9_row 57 [(0, .ref x0), (1, .int x1), (3, .int x3), (4, .int p57.1)] [] p57.2 (some (.int w.1), w.2)) (fun u57 : Hp => R G MX9_row 82 [] [] u57 (some (.int w.1), w.2)) (fun a w hw hc he => tX9_row_l57 hw (fun q4 qs e => hc (q4, qs) e) (fun qs e => he qs e)) FU (q4, qs) r15 hj hX
          refine hE ?_ _ _ hi
          clear hE hi
          refine R_constI DX9_row_82 ci_0 ?_
          cases h
          exact R_ireturn rfl DX9_row_83
        · replace h := if_f h c7
          refine R_if_ge_f DX9_row_34 c7 ?_
          refine R_constI DX9_row_37 ci_m3 ?_
          cases h
          exact R_ireturn rfl DX9_row_39
      · replace h := if_f h c6
        refine R_icmp_le_f DX9_row_27 c6 ?_
        refine R.sub (L' := []) [] rfl ?_
        exact tX9_row_b30 h
set_option maxRecDepth 8000 in
theorem kX9_cut {G : Gm} {x0 : Int64} {x2 : Int32} {s : Hp} {w : Int64 × Hp} (h : fX9_cut x0 x2 s = some w) : Call G MX9_cut [.long x0, .int x2] s (some (.long w.1), w.2) := by
  unfold fX9_cut at h
  refine Call.of_R pnRX9 (Nat.le_of_ble_eq_true rfl) ?_
  show R G MX9_cut 0 [(0, .long x0), (2, .int x2)] [] s (some (.long w.1), w.2)
  refine R_iload DX9_cut_0 1 rfl ?_
  by_cases c1 : x2 = 0
  · replace h := if_t h c1
    refine R_if_ne_f DX9_cut_1 c1 ?_
    refine R_lload DX9_cut_4 0 rfl ?_
    refine R_l2i DX9_cut_5 ?_
    refine R_i2b DX9_cut_6 ?_
    refine R_i2l DX9_cut_7 ?_
    refine R_goto DX9_cut_8 ?_
    cases h
    exact R_lreturn rfl DX9_cut_35
  · replace h := if_f h c1
    refine R_if_ne_t DX9_cut_1 c1 ?_
    refine R_iload DX9_cut_11 1 rfl ?_
    refine R_constI DX9_cut_12 ci_1 ?_
    by_cases c2 : x2 = (iI 1)
    · replace h := if_t h c2
      refine R_icmp_ne_f DX9_cut_13 c2 ?_
      refine R_lload DX9_cut_16 0 rfl ?_
      refine R_l2i DX9_cut_17 ?_
      refine R_i2s DX9_cut_18 ?_
      refine R_i2l DX9_cut_19 ?_
      refine R_goto DX9_cut_20 ?_
      cases h
      exact R_lreturn rfl DX9_cut_35
    · replace h := if_f h c2
      refine R_icmp_ne_t DX9_cut_13 c2 ?_
      refine R_iload DX9_cut_23 1 rfl ?_
      refine R_constI DX9_cut_24 ci_2 ?_
      by_cases c3 : x2 = (iI 2)
      · replace h := if_t h c3
        refine R_icmp_ne_f DX9_cut_25 c3 ?_
        refine R_lload DX9_cut_28 0 rfl ?_
        refine R_l2i DX9_cut_29 ?_
        refine R_i2l DX9_cut_30 ?_
        refine R_goto DX9_cut_31 ?_
        cases h
        exact R_lreturn rfl DX9_cut_35
      · replace h := if_f h c3
        refine R_icmp_ne_t DX9_cut_25 c3 ?_
        refine R_lload DX9_cut_34 0 rfl ?_
        cases h
        exact R_lreturn rfl DX9_cut_35
set_option maxRecDepth 8000 in
theorem kX9_write {G : Gm} {x0 : Nat} {x1 : Int32} {x2 : Int32} {x3 : Int64} {s : Hp} {w : Int32 × Hp} (h : fX9_write x0 x1 x2 x3 s = some w) : (s.2.2 x0).1 = 9 ∧ Call G MX9_write [.ref x0, .int x1, .int x2, .long x3] s (some (.int w.1), w.2) := by
  unfold fX9_write at h
  obtain ⟨_, e0, h⟩ := bind_some h
  refine ⟨ck_some e0, Call.of_R pnRX9 (Nat.le_of_ble_eq_true rfl) ?_⟩
  clear e0
  show R G MX9_write 0 [(0, .ref x0), (1, .int x1), (2, .int x2), (3, .long x3)] [] s (some (.int w.1), w.2)
  refine R_aload DX9_write_0 0 rfl ?_
  refine R_constI DX9_write_1 ci_0 ?_
  obtain ⟨s1, es1, h⟩ := bind_some h
  refine R_pI DX9_write_2 fl_RX9_92 es1 ?_
  refine R_iload DX9_write_5 1 rfl ?_
  obtain ⟨r2, er2, h⟩ := bind_some h
  refine R_cS1 [.int x1] DX9_write_6 kzsX9_isSlot ml_RX9_101 ⟨Nat.le_of_ble_eq_true rfl, Nat.le_of_ble_eq_true rfl⟩ rfl (Nat.le_of_ble_eq_true rfl) (kX9_isSlot er2) ?_
  by_cases c3 : r2.1 = 0
  · replace h := if_t h c3
    refine R_if_ne_f DX9_write_9 c3 ?_
    refine R_constI DX9_write_12 ci_m2 ?_
    cases h
    exact R_ireturn rfl DX9_write_14
  · replace h := if_f h c3
    refine R_if_ne_t DX9_write_9 c3 ?_
    refine R_aload DX9_write_15 0 rfl ?_
    obtain ⟨v4, ev4, h⟩ := bind_some h
    refine R_gR DX9_write_16 fl_RX9_7 ev4 ?_
    refine R_iload DX9_write_19 1 rfl ?_
    obtain ⟨v5, ev5, h⟩ := bind_some h
    refine R_aI DX9_write_20 ev5 ?_
    refine R_constI DX9_write_21 ci_m1 ?_
    by_cases c6 : v5 = (iI (-1))
    · replace h := if_t h c6
      refine R_icmp_ne_f DX9_write_22 c6 ?_
      refine R_constI DX9_write_25 ci_m6 ?_
      cases h
      exact R_ireturn rfl DX9_write_27
    · replace h := if_f h c6
      refine R_icmp_ne_t DX9_write_22 c6 ?_
      refine R_iload DX9_write_28 2 rfl ?_
      refine R_i2l DX9_write_29 ?_
      refine R_lconst DX9_write_30 ?_
      refine R_aload DX9_write_31 0 rfl ?_
      obtain ⟨v7, ev7, h⟩ := bind_some h
      refine R_gR DX9_write_32 fl_RX9_13 ev7 ?_
      refine R_iload DX9_write_35 1 rfl ?_
      obtain ⟨v8, ev8, h⟩ := bind_some h
      refine R_aI DX9_write_36 ev8 ?_
      refine R_constI DX9_write_37 ci_1 ?_
      refine R_isub DX9_write_38 ?_
      refine R_i2l DX9_write_39 ?_
      obtain ⟨r9, er9, h⟩ := bind_some h
      refine R_cS1 [.long (Int32.toInt64 x2), .long 0, .long (Int32.toInt64 (v8 - (iI 1)))] DX9_write_40 kzsX9_in ml_RX9_97 ⟨Nat.le_of_ble_eq_true rfl, Nat.le_of_ble_eq_true rfl⟩ rfl (Nat.le_of_ble_eq_true rfl) (kX9_in er9) ?_
      by_cases c10 : r9.1 = 0
      · replace h := if_t h c10
        refine R_if_ne_f DX9_write_43 c10 ?_
        refine R_constI DX9_write_46 ci_m7 ?_
        cases h
        exact R_ireturn rfl DX9_write_48
      · replace h := if_f h c10
        refine R_if_ne_t DX9_write_43 c10 ?_
        refine R_aload DX9_write_49 0 rfl ?_
        obtain ⟨v11, ev11, h⟩ := bind_some h
        refine R_gR DX9_write_50 fl_RX9_16 ev11 ?_
        refine R_constI DX9_write_53 ci_60 ?_
        refine R_iload DX9_write_55 1 rfl ?_
        refine R_imul DX9_write_56 ?_
        refine R_iload DX9_write_57 2 rfl ?_
        refine R_iadd DX9_write_58 ?_
        refine R_lload DX9_write_59 3 rfl ?_
        refine R_aload DX9_write_60 0 rfl ?_
        obtain ⟨v12, ev12, h⟩ := bind_some h
        refine R_gR DX9_write_61 fl_RX9_7 ev12 ?_
        refine R_iload DX9_write_64 1 rfl ?_
        obtain ⟨v13, ev13, h⟩ := bind_some h
        refine R_aI DX9_write_65 ev13 ?_
        obtain ⟨r14, er14, h⟩ := bind_some h
        refine R_cS1 [.long x3, .int v13] DX9_write_66 kzsX9_cut ml_RX9_105 ⟨Nat.le_of_ble_eq_true rfl, Nat.le_of_ble_eq_true rfl⟩ rfl (Nat.le_of_ble_eq_true rfl) (kX9_cut er14) ?_
        obtain ⟨s15, es15, h⟩ := bind_some h
        refine R_sL DX9_write_69 es15 ?_
        refine R_constI DX9_write_70 ci_0 ?_
        cases h
        exact R_ireturn rfl DX9_write_71
set_option maxRecDepth 8000 in
theorem tX9_paste_b19 {G : Gm} {s : Hp} {w : Int32 × Hp} (h : fX9_paste_b19 s = some w) : R G MX9_paste 19 [] [] s (some (.int w.1), w.2) := by
  unfold fX9_paste_b19 at h
  refine R_constI DX9_paste_19 ci_m2 ?_
  cases h
  exact R_ireturn rfl DX9_paste_21
set_option maxRecDepth 8000 in
theorem tX9_paste_b42 {G : Gm} {s : Hp} {w : Int32 × Hp} (h : fX9_paste_b42 s = some w) : R G MX9_paste 42 [] [] s (some (.int w.1), w.2) := by
  unfold fX9_paste_b42 at h
  refine R_constI DX9_paste_42 ci_m6 ?_
  cases h
  exact R_ireturn rfl DX9_paste_44
set_option maxRecDepth 8000 in
theorem tX9_paste_b112 {G : Gm} {s : Hp} {w : Int32 × Hp} (h : fX9_paste_b112 s = some w) : R G MX9_paste 112 [] [] s (some (.int w.1), w.2) := by
  unfold fX9_paste_b112 at h
  refine R_constI DX9_paste_112 ci_m7 ?_
  cases h
  exact R_ireturn rfl DX9_paste_114
set_option maxRecDepth 8000 in
theorem tX9_paste_l118 {G : Gm} {x0 : Nat} {x1 : Int32} {x2 : Int32} {x3 : Int32} {x4 : Int32} {x5 : Int32} {o : Option Value × Hp} {a : Int32 × Hp} {w : (Int32 × Hp) ⊕ ((Hp))} (h : fX9_paste_l118 x0 x1 x2 x3 x4 x5 a = some w) (hc : ∀ (q6 : Int32) (qs : Hp), w = .inl (q6, qs) → R G MX9_paste 118 [(0, .ref x0), (1, .int x1), (2, .int x2), (3, .int x3), (4, .int x4), (5, .int x5), (6, .int q6)] [] qs o) (he0 : ∀ (qs : Hp), w = .inr qs → R G MX9_paste 152 [(0, .ref x0), (3, .int x3), (4, .int x4), (5, .int x5)] [] qs o) : R G MX9_paste 118 [(0, .ref x0), (1, .int x1), (2, .int x2), (3, .int x3), (4, .int x4), (5, .int x5), (6, .int a.1)] [] a.2 o := by
  unfold fX9_paste_l118 at h
  refine R_iload DX9_paste_118 6 rfl ?_
  refine R_iload DX9_paste_120 5 rfl ?_
  by_cases c26 : x5 ≤ a.1
  · replace h := if_t h c26
    refine R_icmp_ge_t DX9_paste_122 c26 ?_
    refine R.sub (L' := [(0, .ref x0), (3, .int x3), (4, .int x4), (5, .int x5)]) [0, 3, 4, 5] rfl ?_
    cases h
    exact he0 _ rfl
  · replace h := if_f h c26
    refine R_icmp_ge_f DX9_paste_122 c26 ?_
    refine R_aload DX9_paste_125 0 rfl ?_
    obtain ⟨v27, ev27, h⟩ := bind_some h
    refine R_gR DX9_paste_126 fl_RX9_20 ev27 ?_
    refine R_iload DX9_paste_129 6 rfl ?_
    refine R_aload DX9_paste_131 0 rfl ?_
    obtain ⟨v28, ev28, h⟩ := bind_some h
    refine R_gR DX9_paste_132 fl_RX9_16 ev28 ?_
    refine R_constI DX9_paste_135 ci_60 ?_
    refine R_iload DX9_paste_137 1 rfl ?_
    refine R_imul DX9_paste_138 ?_
    refine R_iload DX9_paste_139 2 rfl ?_
    refine R_iadd DX9_paste_140 ?_
    refine R_iload DX9_paste_141 6 rfl ?_
    refine R_iadd DX9_paste_143 ?_
    obtain ⟨v29, ev29, h⟩ := bind_some h
    refine R_aL DX9_paste_144 ev29 ?_
    obtain ⟨s30, es30, h⟩ := bind_some h
    refine R_sL DX9_paste_145 es30 ?_
    refine R_iinc [(6, .int (a.1 + iI 1)), (0, .ref x0), (1, .int x1), (2, .int x2), (3, .int x3), (4, .int x4), (5, .int x5)] DX9_paste_146 6 rfl (v := a.1 + iI 1) (by rfl) (by decide) rfl ?_
    refine R_goto DX9_paste_149 ?_
    refine R.sub (L' := [(0, .ref x0), (1, .int x1), (2, .int x2), (3, .int x3), (4, .int x4), (5, .int x5), (6, .int (a.1 + iI 1))]) [1, 2, 3, 4, 5, 6, 0] rfl ?_
    cases h
    exact hc _ _ rfl
set_option maxRecDepth 8000 in
theorem tX9_paste_l155 {G : Gm} {x0 : Nat} {x3 : Int32} {x4 : Int32} {x5 : Int32} {o : Option Value × Hp} {a : Int32 × Hp} {w : (Int32 × Hp) ⊕ ((Hp))} (h : fX9_paste_l155 x0 x3 x4 x5 a = some w) (hc : ∀ (q6 : Int32) (qs : Hp), w = .inl (q6, qs) → R G MX9_paste 155 [(0, .ref x0), (3, .int x3), (4, .int x4), (5, .int x5), (6, .int q6)] [] qs o) (he0 : ∀ (qs : Hp), w = .inr qs → R G MX9_paste 190 [] [] qs o) : R G MX9_paste 155 [(0, .ref x0), (3, .int x3), (4, .int x4), (5, .int x5), (6, .int a.1)] [] a.2 o := by
  unfold fX9_paste_l155 at h
  refine R_iload DX9_paste_155 4 rfl ?_
  refine R_iload DX9_paste_157 3 rfl ?_
  by_cases c32 : x5 ≤ a.1
  · replace h := if_t h c32
    refine R_icmp_ge_t DX9_paste_159 c32 ?_
    refine R.sub (L' := []) [] rfl ?_
    cases h
    exact he0 _ rfl
  · replace h := if_f h c32
    refine R_icmp_ge_f DX9_paste_159 c32 ?_
    refine R_aload DX9_paste_162 0 rfl ?_
    obtain ⟨v33, ev33, h⟩ := bind_some h
    refine R_gR DX9_paste_163 fl_RX9_16 ev33 ?_
    refine R_constI DX9_paste_166 ci_60 ?_
    refine R_iload DX9_paste_168 1 rfl ?_
    refine R_imul DX9_paste_169 ?_
    refine R_iload DX9_paste_170 2 rfl ?_
    refine R_iadd DX9_paste_172 ?_
    refine R_iload DX9_paste_173 4 rfl ?_
    refine R_iadd DX9_paste_175 ?_
    refine R_aload DX9_paste_176 0 rfl ?_
    obtain ⟨v34, ev34, h⟩ := bind_some h
    refine R_gR DX9_paste_177 fl_RX9_20 ev34 ?_
    refine R_iload DX9_paste_180 4 rfl ?_
    obtain ⟨v35, ev35, h⟩ := bind_some h
    refine R_aL DX9_paste_182 ev35 ?_
    obtain ⟨s36, es36, h⟩ := bind_some h
    refine R_sL DX9_paste_183 es36 ?_
    refine R_iinc [(6, .int (a.1 + iI 1)), (0, .ref x0), (3, .int x3), (4, .int x4), (5, .int x5)] DX9_paste_184 4 rfl (v := a.1 + iI 1) (by rfl) (by decide) rfl ?_
    refine R_goto DX9_paste_187 ?_
    refine R.sub (L' := [(0, .ref x0), (3, .int x3), (4, .int x4), (5, .int x5), (6, .int (a.1 + iI 1))]) [1, 2, 3, 4, 0] rfl ?_
    cases h
    exact hc _ _ rfl
set_option maxRecDepth 8000 in
theorem kX9_paste {G : Gm} {x0 : Nat} {x1 : Int32} {x2 : Int32} {x3 : Int32} {x4 : Int32} {x5 : Int32} {s : Hp} {w : Int32 × Hp} (h : fX9_paste x0 x1 x2 x3 x4 x5 s = some w) : (s.2.2 x0).1 = 9 ∧ Call G MX9_paste [.ref x0, .int x1, .int x2, .int x3, .int x4, .int x5] s (some (.int w.1), w.2) := by
  unfold fX9_paste at h
  obtain ⟨_, e0, h⟩ := bind_some h
  refine ⟨ck_some e0, Call.of_R pnRX9 (Nat.le_of_ble_eq_true rfl) ?_⟩
  clear e0
  show R G MX9_paste 0 [(0, .ref x0), (1, .int x1), (2, .int x2), (3, .int x3), (4, .int x4), (5, .int x5)] [] s (some (.int w.1), w.2)
  refine R_aload DX9_paste_0 0 rfl ?_
  refine R_constI DX9_paste_1 ci_0 ?_
  obtain ⟨s1, es1, h⟩ := bind_some h
  refine R_pI DX9_paste_2 fl_RX9_92 es1 ?_
  refine R_iload DX9_paste_5 1 rfl ?_
  obtain ⟨r2, er2, h⟩ := bind_some h
  refine R_cS1 [.int x1] DX9_paste_6 kzsX9_isSlot ml_RX9_101 ⟨Nat.le_of_ble_eq_true rfl, Nat.le_of_ble_eq_true rfl⟩ rfl (Nat.le_of_ble_eq_true rfl) (kX9_isSlot er2) ?_
  by_cases c3 : r2.1 = 0
  · replace h := if_t h c3
    refine R_if_eq_t DX9_paste_9 c3 ?_
    refine R.sub (L' := []) [] rfl ?_
    exact tX9_paste_b19 h
  · replace h := if_f h c3
    refine R_if_eq_f DX9_paste_9 c3 ?_
    refine R_iload DX9_paste_12 3 rfl ?_
    obtain ⟨r4, er4, h⟩ := bind_some h
    refine R_cS1 [.int x3] DX9_paste_13 kzsX9_isSlot ml_RX9_101 ⟨Nat.le_of_ble_eq_true rfl, Nat.le_of_ble_eq_true rfl⟩ rfl (Nat.le_of_ble_eq_true rfl) (kX9_isSlot er4) ?_
    by_cases c5 : r4.1 = 0
    · replace h := if_t h c5
      refine R_if_ne_f DX9_paste_16 c5 ?_
      refine R.sub (L' := []) [] rfl ?_
      exact tX9_paste_b19 h
    · replace h := if_f h c5
      refine R_if_ne_t DX9_paste_16 c5 ?_
      refine R_aload DX9_paste_22 0 rfl ?_
      obtain ⟨v6, ev6, h⟩ := bind_some h
      refine R_gR DX9_paste_23 fl_RX9_7 ev6 ?_
      refine R_iload DX9_paste_26 1 rfl ?_
      obtain ⟨v7, ev7, h⟩ := bind_some h
      refine R_aI DX9_paste_27 ev7 ?_
      refine R_constI DX9_paste_28 ci_m1 ?_
      by_cases c8 : v7 = (iI (-1))
      · replace h := if_t h c8
        refine R_icmp_eq_t DX9_paste_29 c8 ?_
        refine R.sub (L' := []) [] rfl ?_
        exact tX9_paste_b42 h
      · replace h := if_f h c8
        refine R_icmp_eq_f DX9_paste_29 c8 ?_
        refine R_aload DX9_paste_32 0 rfl ?_
        obtain ⟨v9, ev9, h⟩ := bind_some h
        refine R_gR DX9_paste_33 fl_RX9_7 ev9 ?_
        refine R_iload DX9_paste_36 3 rfl ?_
        obtain ⟨v10, ev10, h⟩ := bind_some h
        refine R_aI DX9_paste_37 ev10 ?_
        refine R_constI DX9_paste_38 ci_m1 ?_
        by_cases c11 : v10 = (iI (-1))
        · replace h := if_t h c11
          refine R_icmp_ne_f DX9_paste_39 c11 ?_
          refine R.sub (L' := []) [] rfl ?_
          exact tX9_paste_b42 h
        · replace h := if_f h c11
          refine R_icmp_ne_t DX9_paste_39 c11 ?_
          refine R_aload DX9_paste_45 0 rfl ?_
          obtain ⟨v12, ev12, h⟩ := bind_some h
          refine R_gR DX9_paste_46 fl_RX9_7 ev12 ?_
          refine R_iload DX9_paste_49 1 rfl ?_
          obtain ⟨v13, ev13, h⟩ := bind_some h
          refine R_aI DX9_paste_50 ev13 ?_
          refine R_aload DX9_paste_51 0 rfl ?_
          obtain ⟨v14, ev14, h⟩ := bind_some h
          refine R_gR DX9_paste_52 fl_RX9_7 ev14 ?_
          refine R_iload DX9_paste_55 3 rfl ?_
          obtain ⟨v15, ev15, h⟩ := bind_some h
          refine R_aI DX9_paste_56 ev15 ?_
          by_cases c16 : v13 = v15
          · replace h := if_t h c16
            refine R_icmp_eq_t DX9_paste_57 c16 ?_
            refine R_iload DX9_paste_63 2 rfl ?_
            by_cases c17 : x2 < 0
            · replace h := if_t h c17
              refine R_if_lt_t DX9_paste_64 c17 ?_
              refine R.sub (L' := []) [] rfl ?_
              exact tX9_paste_b112 h
            · replace h := if_f h c17
              refine R_if_lt_f DX9_paste_64 c17 ?_
              refine R_iload DX9_paste_67 4 rfl ?_
              by_cases c18 : x4 < 0
              · replace h := if_t h c18
                refine R_if_lt_t DX9_paste_69 c18 ?_
                refine R.sub (L' := []) [] rfl ?_
                exact tX9_paste_b112 h
              · replace h := if_f h c18
                refine R_if_lt_f DX9_paste_69 c18 ?_
                refine R_iload DX9_paste_72 5 rfl ?_
                by_cases c19 : x5 < 0
                · replace h := if_t h c19
                  refine R_if_lt_t DX9_paste_74 c19 ?_
                  refine R.sub (L' := []) [] rfl ?_
                  exact tX9_paste_b112 h
                · replace h := if_f h c19
                  refine R_if_lt_f DX9_paste_74 c19 ?_
                  refine R_iload DX9_paste_77 2 rfl ?_
                  refine R_i2l DX9_paste_78 ?_
                  refine R_iload DX9_paste_79 5 rfl ?_
                  refine R_i2l DX9_paste_81 ?_
                  refine R_ladd DX9_paste_82 ?_
                  refine R_aload DX9_paste_83 0 rfl ?_
                  obtain ⟨v20, ev20, h⟩ := bind_some h
                  refine R_gR DX9_paste_84 fl_RX9_13 ev20 ?_
                  refine R_iload DX9_paste_87 1 rfl ?_
                  obtain ⟨v21, ev21, h⟩ := bind_some h
                  refine R_aI DX9_paste_88 ev21 ?_
                  refine R_i2l DX9_paste_89 ?_
                  refine R_lcmp DX9_paste_90 ?_
                  by_cases c22 : 0 < (lg_cmp ((Int32.toInt64 x2) + (Int32.toInt64 x5)) (Int32.toInt64 v21))
                  · replace h := if_t h c22
                    refine R_if_gt_t DX9_paste_91 c22 ?_
                    refine R.sub (L' := []) [] rfl ?_
                    exact tX9_paste_b112 h
                  · replace h := if_f h c22
                    refine R_if_gt_f DX9_paste_91 c22 ?_
                    refine R_iload DX9_paste_94 4 rfl ?_
                    refine R_i2l DX9_paste_96 ?_
                    refine R_iload DX9_paste_97 5 rfl ?_
                    refine R_i2l DX9_paste_99 ?_
                    refine R_ladd DX9_paste_100 ?_
                    refine R_aload DX9_paste_101 0 rfl ?_
                    obtain ⟨v23, ev23, h⟩ := bind_some h
                    refine R_gR DX9_paste_102 fl_RX9_13 ev23 ?_
                    refine R_iload DX9_paste_105 3 rfl ?_
                    obtain ⟨v24, ev24, h⟩ := bind_some h
                    refine R_aI DX9_paste_106 ev24 ?_
                    refine R_i2l DX9_paste_107 ?_
                    refine R_lcmp DX9_paste_108 ?_
                    by_cases c25 : (lg_cmp ((Int32.toInt64 x4) + (Int32.toInt64 x5)) (Int32.toInt64 v24)) ≤ 0
                    · replace h := if_t h c25
                      refine R_if_le_t DX9_paste_109 c25 ?_
                      refine R_constI DX9_paste_115 ci_0 ?_
                      refine R_istore [(6, .int (iI 0)), (0, .ref x0), (1, .int x1), (2, .int x2), (3, .int x3), (4, .int x4), (5, .int x5)] DX9_paste_116 (by decide) rfl ?_
                      refine R.sub (L' := [(0, .ref x0), (1, .int x1), (2, .int x2), (3, .int x3), (4, .int x4), (5, .int x5), (6, .int (iI 0))]) [1, 2, 3, 4, 5, 6, 0] rfl ?_
                      obtain ⟨r31, hi, h⟩ := bind_some h
                      have hE : (fun u118 : Hp => R G MX9_paste 152 [(0, .ref x0), (3, .int x3), (4, .int x4), (5, .int x5)] [] u118 (some (.int w.1), w.2)) r31 → ∀ (q6 : Int32) (qs : Hp), iter (fX9_paste_l118 x0 x1 x2 x3 x4 x5) FU (q6, qs) = some r31 → R G MX9_paste 118 [(0, .ref x0), (1, .int x1), (2, .int x2), (3, .int x3), (4, .int x4), (5, .int x5), (6, .int q6)] [] qs (some (.int w.1), w.2) := fun hX q6 qs hj => loop_R (fX9_paste_l118 x0 x1 x2 x3 x4 x5) (fun p118 : Int32 × Hp => R G MX9_paste 118 [(0, .ref x0), (1, .int x1), (2, .int x2), (3, .int x3), (4, .int x4), (5, .int x5), (6, .int p118.1)] [] p118.2 (some (.int w.1), w.2)) (fun u118 : Hp => R G MX9_paste 152 [(0, .ref x0), (3, .int x3), (4, .int x4), (5, .int x5)] [] u118 (some (.int w.1), w.2)) (fun a w hw hc he => tX9_paste_l118 hw (fun q6 qs e => hc (q6, qs) e) (fun qs e => he qs e)) FU (q6, qs) r31 hj hX
                      refine hE ?_ _ _ hi
                      clear hE hi
                      refine R_constI DX9_paste_152 ci_0 ?_
                      refine R_istore [(6, .int (iI 0)), (0, .ref x0), (3, .int x3), (4, .int x4), (5, .int x5)] DX9_paste_153 (by decide) rfl ?_
                      refine R.sub (L' := [(0, .ref x0), (3, .int x3), (4, .int x4), (5, .int x5), (6, .int (iI 0))]) [1, 2, 3, 4, 0] rfl ?_
                      obtain ⟨r37, hi, h⟩ := bind_some h
                      have hE : (fun u155 : Hp => R G MX9_paste 190 [] [] u155 (some (.int w.1), w.2)) r37 → ∀ (q6 : Int32) (qs : Hp), iter (fX9_paste_l155 x0 x3 x4 x5) FU (q6, qs) = some r37 → R G MX9_paste 155 [(0, .ref x0), (3, .int x3), (4, .int x4), (5, .int x5), (6, .int q6)] [] qs (some (.int w.1), w.2) := fun hX q6 qs hj => loop_R (fX9_paste_l155 x0 x3 x4 x5) (fun p155 : Int32 × Hp => R G MX9_paste 155 [(0, .ref x0), (3, .int x3), (4, .int x4), (5, .int x5), (6, .int p155.1)] [] p155.2 (some (.int w.1), w.2)) (fun u155 : Hp => R G MX9_paste 190 [] [] u155 (some (.int w.1), w.2)) (fun a w hw hc he => tX9_paste_l155 hw (fun q6 qs e => hc (q6, qs) e) (fun qs e => he qs e)) FU (q6, qs) r37 hj hX
                      refine hE ?_ _ _ hi
                      clear hE hi
                      refine R_constI DX9_paste_190 ci_0 ?_
                      cases h
                      exact R_ireturn rfl DX9_paste_191
                    · replace h := if_f h c25
                      refine R_if_le_f DX9_paste_109 c25 ?_
                      refine R.sub (L' := []) [] rfl ?_
                      exact tX9_paste_b112 h
          · replace h := if_f h c16
            refine R_icmp_eq_f DX9_paste_57 c16 ?_
            refine R_constI DX9_paste_60 ci_m8 ?_
            cases h
            exact R_ireturn rfl DX9_paste_62
set_option maxRecDepth 8000 in
theorem tX9_four_l3 {G : Gm} {x0 : Nat} {x1 : Int32} {o : Option Value × Hp} {a : Int32 × Hp} {w : (Int32 × Hp) ⊕ ((Hp))} (h : fX9_four_l3 x0 x1 a = some w) (hc : ∀ (q2 : Int32) (qs : Hp), w = .inl (q2, qs) → R G MX9_four 3 [(0, .ref x0), (1, .int x1), (2, .int q2)] [] qs o) (he0 : ∀ (qs : Hp), w = .inr qs → R G MX9_four 36 [] [] qs o) : R G MX9_four 3 [(0, .ref x0), (1, .int x1), (2, .int a.1)] [] a.2 o := by
  unfold fX9_four_l3 at h
  refine R_iload DX9_four_3 2 rfl ?_
  by_cases c1 : a.1 < 0
  · replace h := if_t h c1
    refine R_if_lt_t DX9_four_4 c1 ?_
    refine R.sub (L' := []) [] rfl ?_
    cases h
    exact he0 _ rfl
  · replace h := if_f h c1
    refine R_if_lt_f DX9_four_4 c1 ?_
    refine R_aload DX9_four_7 0 rfl ?_
    obtain ⟨v2, ev2, h⟩ := bind_some h
    refine R_gR DX9_four_8 fl_RX9_23 ev2 ?_
    refine R_aload DX9_four_11 0 rfl ?_
    obtain ⟨v3, ev3, h⟩ := bind_some h
    refine R_gI DX9_four_12 fl_RX9_109 ev3 ?_
    refine R_iload DX9_four_15 1 rfl ?_
    refine R_iload DX9_four_16 2 rfl ?_
    refine R_ishr DX9_four_17 ?_
    refine R_i2b DX9_four_18 ?_
    obtain ⟨s4, es4, h⟩ := bind_some h
    refine R_sB DX9_four_19 es4 ?_
    refine R_aload DX9_four_20 0 rfl ?_
    refine R_dup DX9_four_21 rfl ?_
    obtain ⟨v5, ev5, h⟩ := bind_some h
    refine R_gI DX9_four_22 fl_RX9_109 ev5 ?_
    refine R_constI DX9_four_25 ci_1 ?_
    refine R_iadd DX9_four_26 ?_
    obtain ⟨s6, es6, h⟩ := bind_some h
    refine R_pI DX9_four_27 fl_RX9_109 es6 ?_
    refine R_iinc [(2, .int (a.1 + iI (-8))), (0, .ref x0), (1, .int x1)] DX9_four_30 2 rfl (v := a.1 + iI (-8)) (by rfl) (by decide) rfl ?_
    refine R_goto DX9_four_33 ?_
    refine R.sub (L' := [(0, .ref x0), (1, .int x1), (2, .int (a.1 + iI (-8)))]) [1, 2, 0] rfl ?_
    cases h
    exact hc _ _ rfl
set_option maxRecDepth 8000 in
theorem kX9_four {G : Gm} {x0 : Nat} {x1 : Int32} {s : Hp} {w : Hp} (h : fX9_four x0 x1 s = some w) : (s.2.2 x0).1 = 9 ∧ Call G MX9_four [.ref x0, .int x1] s (none, w) := by
  unfold fX9_four at h
  obtain ⟨_, e0, h⟩ := bind_some h
  refine ⟨ck_some e0, Call.of_R pnRX9 (Nat.le_of_ble_eq_true rfl) ?_⟩
  clear e0
  show R G MX9_four 0 [(0, .ref x0), (1, .int x1)] [] s (none, w)
  refine R_constI DX9_four_0 ci_24 ?_
  refine R_istore [(2, .int (iI 24)), (0, .ref x0), (1, .int x1)] DX9_four_2 (by decide) rfl ?_
  refine R.sub (L' := [(0, .ref x0), (1, .int x1), (2, .int (iI 24))]) [1, 2, 0] rfl ?_
  obtain ⟨r7, hi, h⟩ := bind_some h
  have hE : (fun u3 : Hp => R G MX9_four 36 [] [] u3 (none, w)) r7 → ∀ (q2 : Int32) (qs : Hp), iter (fX9_four_l3 x0 x1) FU (q2, qs) = some r7 → R G MX9_four 3 [(0, .ref x0), (1, .int x1), (2, .int q2)] [] qs (none, w) := fun hX q2 qs hj => loop_R (fX9_four_l3 x0 x1) (fun p3 : Int32 × Hp => R G MX9_four 3 [(0, .ref x0), (1, .int x1), (2, .int p3.1)] [] p3.2 (none, w)) (fun u3 : Hp => R G MX9_four 36 [] [] u3 (none, w)) (fun a w hw hc he => tX9_four_l3 hw (fun q2 qs e => hc (q2, qs) e) (fun qs e => he qs e)) FU (q2, qs) r7 hj hX
  refine hE ?_ _ _ hi
  clear hE hi
  cases h
  exact R_return rfl DX9_four_36
set_option maxRecDepth 8000 in
theorem kX9_feed {G : Gm} {x0 : Nat} {x1 : Int32} {x2 : Int32} {x3 : Int32} {x4 : Int32} {x5 : Int32} {s : Hp} {w : Int32 × Hp} (h : fX9_feed x0 x1 x2 x3 x4 x5 s = some w) : (s.2.2 x0).1 = 9 ∧ Call G MX9_feed [.ref x0, .int x1, .int x2, .int x3, .int x4, .int x5] s (some (.int w.1), w.2) := by
  unfold fX9_feed at h
  obtain ⟨_, e0, h⟩ := bind_some h
  refine ⟨ck_some e0, Call.of_R pnRX9 (Nat.le_of_ble_eq_true rfl) ?_⟩
  clear e0
  show R G MX9_feed 0 [(0, .ref x0), (1, .int x1), (2, .int x2), (3, .int x3), (4, .int x4), (5, .int x5)] [] s (some (.int w.1), w.2)
  refine R_aload DX9_feed_0 0 rfl ?_
  refine R_constI DX9_feed_1 ci_0 ?_
  obtain ⟨s1, es1, h⟩ := bind_some h
  refine R_pI DX9_feed_2 fl_RX9_92 es1 ?_
  refine R_aload DX9_feed_5 0 rfl ?_
  obtain ⟨v2, ev2, h⟩ := bind_some h
  refine R_gI DX9_feed_6 fl_RX9_109 ev2 ?_
  refine R_constI DX9_feed_9 ci_20 ?_
  refine R_iadd DX9_feed_11 ?_
  refine R_constI DX9_feed_12 ci_1600 ?_
  by_cases c3 : (v2 + (iI 20)) ≤ (iI 1600)
  · replace h := if_t h c3
    refine R_icmp_le_t DX9_feed_15 c3 ?_
    refine R_aload DX9_feed_20 0 rfl ?_
    refine R_iload DX9_feed_21 1 rfl ?_
    obtain ⟨s4, es4, h⟩ := bind_some h
    refine R_cV0 [.int x1] DX9_feed_22 kzvX9_four ml_RX9_112 ⟨Nat.le_of_ble_eq_true rfl, Nat.le_of_ble_eq_true rfl⟩ rfl (Nat.le_of_ble_eq_true rfl) (kX9_four es4) ?_
    refine R_aload DX9_feed_25 0 rfl ?_
    refine R_iload DX9_feed_26 2 rfl ?_
    obtain ⟨s5, es5, h⟩ := bind_some h
    refine R_cV0 [.int x2] DX9_feed_27 kzvX9_four ml_RX9_112 ⟨Nat.le_of_ble_eq_true rfl, Nat.le_of_ble_eq_true rfl⟩ rfl (Nat.le_of_ble_eq_true rfl) (kX9_four es5) ?_
    refine R_aload DX9_feed_30 0 rfl ?_
    refine R_iload DX9_feed_31 3 rfl ?_
    obtain ⟨s6, es6, h⟩ := bind_some h
    refine R_cV0 [.int x3] DX9_feed_32 kzvX9_four ml_RX9_112 ⟨Nat.le_of_ble_eq_true rfl, Nat.le_of_ble_eq_true rfl⟩ rfl (Nat.le_of_ble_eq_true rfl) (kX9_four es6) ?_
    refine R_aload DX9_feed_35 0 rfl ?_
    refine R_iload DX9_feed_36 4 rfl ?_
    obtain ⟨s7, es7, h⟩ := bind_some h
    refine R_cV0 [.int x4] DX9_feed_38 kzvX9_four ml_RX9_112 ⟨Nat.le_of_ble_eq_true rfl, Nat.le_of_ble_eq_true rfl⟩ rfl (Nat.le_of_ble_eq_true rfl) (kX9_four es7) ?_
    refine R_aload DX9_feed_41 0 rfl ?_
    refine R_iload DX9_feed_42 5 rfl ?_
    obtain ⟨s8, es8, h⟩ := bind_some h
    refine R_cV0 [.int x5] DX9_feed_44 kzvX9_four ml_RX9_112 ⟨Nat.le_of_ble_eq_true rfl, Nat.le_of_ble_eq_true rfl⟩ rfl (Nat.le_of_ble_eq_true rfl) (kX9_four es8) ?_
    refine R_aload DX9_feed_47 0 rfl ?_
    obtain ⟨v9, ev9, h⟩ := bind_some h
    refine R_gI DX9_feed_48 fl_RX9_109 ev9 ?_
    cases h
    exact R_ireturn rfl DX9_feed_51
  · replace h := if_f h c3
    refine R_icmp_le_f DX9_feed_15 c3 ?_
    refine R_constI DX9_feed_18 ci_m1 ?_
    cases h
    exact R_ireturn rfl DX9_feed_19
set_option maxRecDepth 8000 in
theorem kX9_end {G : Gm} {x0 : Nat} {x1 : Int32} {s : Hp} {w : Int32 × Hp} (h : fX9_end x0 x1 s = some w) : (s.2.2 x0).1 = 9 ∧ Call G MX9_end [.ref x0, .int x1] s (some (.int w.1), w.2) := by
  unfold fX9_end at h
  obtain ⟨_, e0, h⟩ := bind_some h
  refine ⟨ck_some e0, Call.of_R pnRX9 (Nat.le_of_ble_eq_true rfl) ?_⟩
  clear e0
  show R G MX9_end 0 [(0, .ref x0), (1, .int x1)] [] s (some (.int w.1), w.2)
  refine R_aload DX9_end_0 0 rfl ?_
  refine R_constI DX9_end_1 ci_0 ?_
  obtain ⟨s1, es1, h⟩ := bind_some h
  refine R_pI DX9_end_2 fl_RX9_92 es1 ?_
  refine R_iload DX9_end_5 1 rfl ?_
  refine R_i2l DX9_end_6 ?_
  refine R_lconst DX9_end_7 ?_
  refine R_aload DX9_end_8 0 rfl ?_
  obtain ⟨v2, ev2, h⟩ := bind_some h
  refine R_gI DX9_end_9 fl_RX9_109 ev2 ?_
  refine R_i2l DX9_end_12 ?_
  obtain ⟨r3, er3, h⟩ := bind_some h
  refine R_cS1 [.long (Int32.toInt64 x1), .long 0, .long (Int32.toInt64 v2)] DX9_end_13 kzsX9_in ml_RX9_97 ⟨Nat.le_of_ble_eq_true rfl, Nat.le_of_ble_eq_true rfl⟩ rfl (Nat.le_of_ble_eq_true rfl) (kX9_in er3) ?_
  by_cases c4 : r3.1 = 0
  · replace h := if_t h c4
    refine R_if_ne_f DX9_end_16 c4 ?_
    refine R_constI DX9_end_19 ci_m1 ?_
    cases h
    exact R_ireturn rfl DX9_end_20
  · replace h := if_f h c4
    refine R_if_ne_t DX9_end_16 c4 ?_
    refine R_aload DX9_end_21 0 rfl ?_
    refine R_iload DX9_end_22 1 rfl ?_
    obtain ⟨s5, es5, h⟩ := bind_some h
    refine R_pI DX9_end_23 fl_RX9_109 es5 ?_
    refine R_iload DX9_end_26 1 rfl ?_
    cases h
    exact R_ireturn rfl DX9_end_27
set_option maxRecDepth 8000 in
theorem tX9_isByte_b32 {G : Gm} {s : Hp} {w : Int32 × Hp} (h : fX9_isByte_b32 s = some w) : R G MX9_isByte 32 [] [] s (some (.int w.1), w.2) := by
  unfold fX9_isByte_b32 at h
  refine R_constI DX9_isByte_32 ci_0 ?_
  cases h
  exact R_zreturn rfl DX9_isByte_33 (by decide)
set_option maxRecDepth 8000 in
theorem kX9_isByte {G : Gm} {x0 : Nat} {x1 : Int32} {x2 : Int32} {x3 : Int32} {s : Hp} {w : Int32 × Hp} (h : fX9_isByte x0 x1 x2 x3 s = some w) : (s.2.2 x0).1 = 9 ∧ Call G MX9_isByte [.ref x0, .int x1, .int x2, .int x3] s (some (.int w.1), w.2) := by
  unfold fX9_isByte at h
  obtain ⟨_, e0, h⟩ := bind_some h
  refine ⟨ck_some e0, Call.of_R pnRX9 (Nat.le_of_ble_eq_true rfl) ?_⟩
  clear e0
  show R G MX9_isByte 0 [(0, .ref x0), (1, .int x1), (2, .int x2), (3, .int x3)] [] s (some (.int w.1), w.2)
  refine R_iload DX9_isByte_0 1 rfl ?_
  refine R_aload DX9_isByte_1 0 rfl ?_
  obtain ⟨v1, ev1, h⟩ := bind_some h
  refine R_gI DX9_isByte_2 fl_RX9_109 ev1 ?_
  by_cases c2 : v1 ≤ x1
  · replace h := if_t h c2
    refine R_icmp_ge_t DX9_isByte_5 c2 ?_
    refine R.sub (L' := []) [] rfl ?_
    exact tX9_isByte_b32 h
  · replace h := if_f h c2
    refine R_icmp_ge_f DX9_isByte_5 c2 ?_
    refine R_aload DX9_isByte_8 0 rfl ?_
    obtain ⟨v3, ev3, h⟩ := bind_some h
    refine R_gR DX9_isByte_9 fl_RX9_23 ev3 ?_
    refine R_iload DX9_isByte_12 1 rfl ?_
    obtain ⟨v4, ev4, h⟩ := bind_some h
    refine R_aB DX9_isByte_13 ev4 ?_
    refine R_iload DX9_isByte_14 2 rfl ?_
    by_cases c5 : v4 < x2
    · replace h := if_t h c5
      refine R_icmp_lt_t DX9_isByte_15 c5 ?_
      refine R.sub (L' := []) [] rfl ?_
      exact tX9_isByte_b32 h
    · replace h := if_f h c5
      refine R_icmp_lt_f DX9_isByte_15 c5 ?_
      refine R_aload DX9_isByte_18 0 rfl ?_
      obtain ⟨v6, ev6, h⟩ := bind_some h
      refine R_gR DX9_isByte_19 fl_RX9_23 ev6 ?_
      refine R_iload DX9_isByte_22 1 rfl ?_
      obtain ⟨v7, ev7, h⟩ := bind_some h
      refine R_aB DX9_isByte_23 ev7 ?_
      refine R_iload DX9_isByte_24 3 rfl ?_
      by_cases c8 : x3 < v7
      · replace h := if_t h c8
        refine R_icmp_gt_t DX9_isByte_25 c8 ?_
        refine R.sub (L' := []) [] rfl ?_
        exact tX9_isByte_b32 h
      · replace h := if_f h c8
        refine R_icmp_gt_f DX9_isByte_25 c8 ?_
        refine R_constI DX9_isByte_28 ci_1 ?_
        refine R_goto DX9_isByte_29 ?_
        cases h
        exact R_zreturn rfl DX9_isByte_33 (by decide)
set_option maxRecDepth 8000 in
theorem tX9_next_b30 {G : Gm} {x0 : Nat} {s : Hp} {o : Option Value × Hp} {w : (Hp) ⊕ ((Hp))} (h : fX9_next_b30 x0 s = some w) (hc : ∀ (qs : Hp), w = .inl qs → R G MX9_next 0 [(0, .ref x0)] [] qs o) (he0 : ∀ (qs : Hp), w = .inr qs → R G MX9_next 43 [(0, .ref x0)] [] qs o) : R G MX9_next 30 [(0, .ref x0)] [] s o := by
  unfold fX9_next_b30 at h
  refine R_aload DX9_next_30 0 rfl ?_
  refine R_dup DX9_next_31 rfl ?_
  obtain ⟨v4, ev4, h⟩ := bind_some h
  refine R_gI DX9_next_32 fl_RX9_116 ev4 ?_
  refine R_constI DX9_next_35 ci_1 ?_
  refine R_iadd DX9_next_36 ?_
  obtain ⟨s5, es5, h⟩ := bind_some h
  refine R_pI DX9_next_37 fl_RX9_116 es5 ?_
  refine R_goto DX9_next_40 ?_
  cases h
  exact hc _ rfl
set_option maxRecDepth 8000 in
theorem tX9_next_l0 {G : Gm} {x0 : Nat} {o : Option Value × Hp} {a : Hp} {w : (Hp) ⊕ ((Hp))} (h : fX9_next_l0 x0 a = some w) (hc : ∀ (qs : Hp), w = .inl qs → R G MX9_next 0 [(0, .ref x0)] [] qs o) (he0 : ∀ (qs : Hp), w = .inr qs → R G MX9_next 43 [(0, .ref x0)] [] qs o) : R G MX9_next 0 [(0, .ref x0)] [] a o := by
  unfold fX9_next_l0 at h
  refine R_aload DX9_next_0 0 rfl ?_
  refine R_aload DX9_next_1 0 rfl ?_
  obtain ⟨v1, ev1, h⟩ := bind_some h
  refine R_gI DX9_next_2 fl_RX9_116 ev1 ?_
  refine R_constI DX9_next_5 ci_32 ?_
  refine R_constI DX9_next_7 ci_32 ?_
  obtain ⟨r2, er2, h⟩ := bind_some h
  refine R_cV1 [.int v1, .int (iI 32), .int (iI 32)] DX9_next_9 kzvX9_isByte ml_RX9_119 ⟨Nat.le_of_ble_eq_true rfl, Nat.le_of_ble_eq_true rfl⟩ rfl (Nat.le_of_ble_eq_true rfl) (kX9_isByte er2) ?_
  by_cases c3 : r2.1 = 0
  · replace h := if_t h c3
    refine R_if_ne_f DX9_next_12 c3 ?_
    refine R_aload DX9_next_15 0 rfl ?_
    refine R_aload DX9_next_16 0 rfl ?_
    obtain ⟨v6, ev6, h⟩ := bind_some h
    refine R_gI DX9_next_17 fl_RX9_116 ev6 ?_
    refine R_constI DX9_next_20 ci_10 ?_
    refine R_constI DX9_next_22 ci_10 ?_
    obtain ⟨r7, er7, h⟩ := bind_some h
    refine R_cV1 [.int v6, .int (iI 10), .int (iI 10)] DX9_next_24 kzvX9_isByte ml_RX9_119 ⟨Nat.le_of_ble_eq_true rfl, Nat.le_of_ble_eq_true rfl⟩ rfl (Nat.le_of_ble_eq_true rfl) (kX9_isByte er7) ?_
    by_cases c8 : r7.1 = 0
    · replace h := if_t h c8
      refine R_if_eq_t DX9_next_27 c8 ?_
      cases h
      exact he0 _ rfl
    · replace h := if_f h c8
      refine R_if_eq_f DX9_next_27 c8 ?_
      exact tX9_next_b30 h hc he0
  · replace h := if_f h c3
    refine R_if_ne_t DX9_next_12 c3 ?_
    exact tX9_next_b30 h hc he0
set_option maxRecDepth 8000 in
theorem tX9_next_b294 {G : Gm} {x0 : Nat} {y0 : Nat} {y1 : Int32} {s : Hp} {w : Hp} (h : fX9_next_b294 x0 y0 y1 s = some w) : R G MX9_next 294 [(0, .ref x0)] [.int y1, .ref y0] s (none, w) := by
  unfold fX9_next_b294 at h
  obtain ⟨s27, es27, h⟩ := bind_some h
  refine R_pI DX9_next_294 fl_RX9_133 es27 ?_
  refine R_aload DX9_next_297 0 rfl ?_
  refine R_dup DX9_next_298 rfl ?_
  obtain ⟨v28, ev28, h⟩ := bind_some h
  refine R_gI DX9_next_299 fl_RX9_116 ev28 ?_
  refine R_constI DX9_next_302 ci_1 ?_
  refine R_iadd DX9_next_303 ?_
  obtain ⟨s29, es29, h⟩ := bind_some h
  refine R_pI DX9_next_304 fl_RX9_116 es29 ?_
  cases h
  exact R_return rfl DX9_next_307
set_option maxRecDepth 8000 in
theorem tX9_next_b258 {G : Gm} {x0 : Nat} {y0 : Nat} {y1 : Int32} {s : Hp} {o : Option Value × Hp} {w : (Hp) ⊕ ((Hp))} (h : fX9_next_b258 x0 y0 y1 s = some w) (hc : ∀ (qs : Hp), w = .inl qs → R G MX9_next 208 [(0, .ref x0)] [] qs o) (he0 : ∀ (qs : Hp), w = .inr qs → R G MX9_next 307 [] [] qs o) : R G MX9_next 258 [(0, .ref x0)] [.int y1, .ref y0] s o := by
  unfold fX9_next_b258 at h
  obtain ⟨s40, es40, h⟩ := bind_some h
  refine R_pI DX9_next_258 fl_RX9_126 es40 ?_
  refine R_aload DX9_next_261 0 rfl ?_
  refine R_dup DX9_next_262 rfl ?_
  obtain ⟨v41, ev41, h⟩ := bind_some h
  refine R_gI DX9_next_263 fl_RX9_116 ev41 ?_
  refine R_constI DX9_next_266 ci_1 ?_
  refine R_iadd DX9_next_267 ?_
  obtain ⟨s42, es42, h⟩ := bind_some h
  refine R_pI DX9_next_268 fl_RX9_116 es42 ?_
  refine R_goto DX9_next_271 ?_
  cases h
  exact hc _ rfl
set_option maxRecDepth 8000 in
theorem tX9_next_l208 {G : Gm} {x0 : Nat} {o : Option Value × Hp} {a : Hp} {w : (Hp) ⊕ ((Hp))} (h : fX9_next_l208 x0 a = some w) (hc : ∀ (qs : Hp), w = .inl qs → R G MX9_next 208 [(0, .ref x0)] [] qs o) (he0 : ∀ (qs : Hp), w = .inr qs → R G MX9_next 307 [] [] qs o) : R G MX9_next 208 [(0, .ref x0)] [] a o := by
  unfold fX9_next_l208 at h
  refine R_aload DX9_next_208 0 rfl ?_
  refine R_aload DX9_next_209 0 rfl ?_
  obtain ⟨v31, ev31, h⟩ := bind_some h
  refine R_gI DX9_next_210 fl_RX9_116 ev31 ?_
  refine R_constI DX9_next_213 ci_48 ?_
  refine R_constI DX9_next_215 ci_57 ?_
  obtain ⟨r32, er32, h⟩ := bind_some h
  refine R_cV1 [.int v31, .int (iI 48), .int (iI 57)] DX9_next_217 kzvX9_isByte ml_RX9_119 ⟨Nat.le_of_ble_eq_true rfl, Nat.le_of_ble_eq_true rfl⟩ rfl (Nat.le_of_ble_eq_true rfl) (kX9_isByte er32) ?_
  by_cases c33 : r32.1 = 0
  · replace h := if_t h c33
    refine R_if_eq_t DX9_next_220 c33 ?_
    refine R.sub (L' := []) [] rfl ?_
    cases h
    exact he0 _ rfl
  · replace h := if_f h c33
    refine R_if_eq_f DX9_next_220 c33 ?_
    refine R_aload DX9_next_223 0 rfl ?_
    refine R_aload DX9_next_224 0 rfl ?_
    obtain ⟨v34, ev34, h⟩ := bind_some h
    refine R_gI DX9_next_225 fl_RX9_126 ev34 ?_
    refine R_ldcI DX9_next_228 cw_RX9_142 ci_100000 ?_
    by_cases c35 : v34 ≤ (iI 100000)
    · replace h := if_t h c35
      refine R_icmp_le_t DX9_next_230 c35 ?_
      refine R_constI DX9_next_238 ci_10 ?_
      refine R_aload DX9_next_240 0 rfl ?_
      obtain ⟨v36, ev36, h⟩ := bind_some h
      refine R_gI DX9_next_241 fl_RX9_126 ev36 ?_
      refine R_imul DX9_next_244 ?_
      refine R_aload DX9_next_245 0 rfl ?_
      obtain ⟨v37, ev37, h⟩ := bind_some h
      refine R_gR DX9_next_246 fl_RX9_23 ev37 ?_
      refine R_aload DX9_next_249 0 rfl ?_
      obtain ⟨v38, ev38, h⟩ := bind_some h
      refine R_gI DX9_next_250 fl_RX9_116 ev38 ?_
      obtain ⟨v39, ev39, h⟩ := bind_some h
      refine R_aB DX9_next_253 ev39 ?_
      refine R_iadd DX9_next_254 ?_
      refine R_constI DX9_next_255 ci_48 ?_
      refine R_isub DX9_next_257 ?_
      exact tX9_next_b258 h hc he0
    · replace h := if_f h c35
      refine R_icmp_le_f DX9_next_230 c35 ?_
      refine R_ldcI DX9_next_233 cw_RX9_143 ci_1000000 ?_
      refine R_goto DX9_next_235 ?_
      exact tX9_next_b258 h hc he0
set_option maxRecDepth 8000 in
theorem tX9_next_b169 {G : Gm} {x0 : Nat} {x1 : Int32} {s : Hp} {o : Option Value × Hp} {w : (Int32 × Hp) ⊕ ((Hp))} (h : fX9_next_b169 x0 x1 s = some w) (hc : ∀ (q1 : Int32) (qs : Hp), w = .inl (q1, qs) → R G MX9_next 102 [(0, .ref x0), (1, .int q1)] [] qs o) (he0 : ∀ (qs : Hp), w = .inr qs → R G MX9_next 185 [] [] qs o) : R G MX9_next 169 [(0, .ref x0), (1, .int x1)] [] s o := by
  unfold fX9_next_b169 at h
  refine R_aload DX9_next_169 0 rfl ?_
  refine R_dup DX9_next_170 rfl ?_
  obtain ⟨v55, ev55, h⟩ := bind_some h
  refine R_gI DX9_next_171 fl_RX9_116 ev55 ?_
  refine R_constI DX9_next_174 ci_1 ?_
  refine R_iadd DX9_next_175 ?_
  obtain ⟨s56, es56, h⟩ := bind_some h
  refine R_pI DX9_next_176 fl_RX9_116 es56 ?_
  refine R_iinc [(1, .int (x1 + iI 1)), (0, .ref x0)] DX9_next_179 1 rfl (v := x1 + iI 1) (by rfl) (by decide) rfl ?_
  refine R_goto DX9_next_182 ?_
  refine R.sub (L' := [(0, .ref x0), (1, .int (x1 + iI 1))]) [1, 0] rfl ?_
  cases h
  exact hc _ _ rfl
set_option maxRecDepth 8000 in
theorem tX9_next_b153 {G : Gm} {x0 : Nat} {x1 : Int32} {y0 : Nat} {y1 : Int64} {s : Hp} {o : Option Value × Hp} {w : (Int32 × Hp) ⊕ ((Hp))} (h : fX9_next_b153 x0 x1 y0 y1 s = some w) (hc : ∀ (q1 : Int32) (qs : Hp), w = .inl (q1, qs) → R G MX9_next 102 [(0, .ref x0), (1, .int q1)] [] qs o) (he0 : ∀ (qs : Hp), w = .inr qs → R G MX9_next 185 [] [] qs o) : R G MX9_next 153 [(0, .ref x0), (1, .int x1)] [.long y1, .ref y0] s o := by
  unfold fX9_next_b153 at h
  obtain ⟨s53, es53, h⟩ := bind_some h
  refine R_pL DX9_next_153 fl_RX9_129 es53 ?_
  refine R_iload DX9_next_156 1 rfl ?_
  refine R_constI DX9_next_157 ci_11 ?_
  by_cases c54 : x1 ≤ (iI 11)
  · replace h := if_t h c54
    refine R_icmp_le_t DX9_next_159 c54 ?_
    exact tX9_next_b169 h hc he0
  · replace h := if_f h c54
    refine R_icmp_le_f DX9_next_159 c54 ?_
    refine R_aload DX9_next_162 0 rfl ?_
    refine R_ldc2 DX9_next_163 cw_RX9_136 ?_
    obtain ⟨s57, es57, h⟩ := bind_some h
    refine R_pL DX9_next_166 fl_RX9_129 es57 ?_
    exact tX9_next_b169 h hc he0
set_option maxRecDepth 8000 in
theorem tX9_next_l102 {G : Gm} {x0 : Nat} {o : Option Value × Hp} {a : Int32 × Hp} {w : (Int32 × Hp) ⊕ ((Hp))} (h : fX9_next_l102 x0 a = some w) (hc : ∀ (q1 : Int32) (qs : Hp), w = .inl (q1, qs) → R G MX9_next 102 [(0, .ref x0), (1, .int q1)] [] qs o) (he0 : ∀ (qs : Hp), w = .inr qs → R G MX9_next 185 [] [] qs o) : R G MX9_next 102 [(0, .ref x0), (1, .int a.1)] [] a.2 o := by
  unfold fX9_next_l102 at h
  refine R_aload DX9_next_102 0 rfl ?_
  refine R_aload DX9_next_103 0 rfl ?_
  obtain ⟨v45, ev45, h⟩ := bind_some h
  refine R_gI DX9_next_104 fl_RX9_116 ev45 ?_
  refine R_constI DX9_next_107 ci_97 ?_
  refine R_constI DX9_next_109 ci_122 ?_
  obtain ⟨r46, er46, h⟩ := bind_some h
  refine R_cV1 [.int v45, .int (iI 97), .int (iI 122)] DX9_next_111 kzvX9_isByte ml_RX9_119 ⟨Nat.le_of_ble_eq_true rfl, Nat.le_of_ble_eq_true rfl⟩ rfl (Nat.le_of_ble_eq_true rfl) (kX9_isByte er46) ?_
  by_cases c47 : r46.1 = 0
  · replace h := if_t h c47
    refine R_if_eq_t DX9_next_114 c47 ?_
    refine R.sub (L' := []) [] rfl ?_
    cases h
    exact he0 _ rfl
  · replace h := if_f h c47
    refine R_if_eq_f DX9_next_114 c47 ?_
    refine R_aload DX9_next_117 0 rfl ?_
    refine R_iload DX9_next_118 1 rfl ?_
    refine R_constI DX9_next_119 ci_11 ?_
    by_cases c48 : a.1 ≤ (iI 11)
    · replace h := if_t h c48
      refine R_icmp_le_t DX9_next_121 c48 ?_
      refine R_ldc2 DX9_next_130 cw_RX9_138 ?_
      refine R_aload DX9_next_133 0 rfl ?_
      obtain ⟨v49, ev49, h⟩ := bind_some h
      refine R_gL DX9_next_134 fl_RX9_129 ev49 ?_
      refine R_lmul DX9_next_137 ?_
      refine R_aload DX9_next_138 0 rfl ?_
      obtain ⟨v50, ev50, h⟩ := bind_some h
      refine R_gR DX9_next_139 fl_RX9_23 ev50 ?_
      refine R_aload DX9_next_142 0 rfl ?_
      obtain ⟨v51, ev51, h⟩ := bind_some h
      refine R_gI DX9_next_143 fl_RX9_116 ev51 ?_
      obtain ⟨v52, ev52, h⟩ := bind_some h
      refine R_aB DX9_next_146 ev52 ?_
      refine R_i2l DX9_next_147 ?_
      refine R_ladd DX9_next_148 ?_
      refine R_ldc2 DX9_next_149 cw_RX9_140 ?_
      refine R_lsub DX9_next_152 ?_
      exact tX9_next_b153 h hc he0
    · replace h := if_f h c48
      refine R_icmp_le_f DX9_next_121 c48 ?_
      refine R_ldc2 DX9_next_124 cw_RX9_136 ?_
      refine R_goto DX9_next_127 ?_
      exact tX9_next_b153 h hc he0
set_option maxRecDepth 8000 in
theorem kX9_next {G : Gm} {x0 : Nat} {s : Hp} {w : Hp} (h : fX9_next x0 s = some w) : (s.2.2 x0).1 = 9 ∧ Call G MX9_next [.ref x0] s (none, w) := by
  unfold fX9_next at h
  obtain ⟨_, e0, h⟩ := bind_some h
  refine ⟨ck_some e0, Call.of_R pnRX9 (Nat.le_of_ble_eq_true rfl) ?_⟩
  clear e0
  show R G MX9_next 0 [(0, .ref x0)] [] s (none, w)
  obtain ⟨r9, hi, h⟩ := bind_some h
  have hE : (fun u0 : Hp => R G MX9_next 43 [(0, .ref x0)] [] u0 (none, w)) r9 → ∀ (qs : Hp), iter (fX9_next_l0 x0) FU qs = some r9 → R G MX9_next 0 [(0, .ref x0)] [] qs (none, w) := fun hX qs hj => loop_R (fX9_next_l0 x0) (fun p0 : Hp => R G MX9_next 0 [(0, .ref x0)] [] p0 (none, w)) (fun u0 : Hp => R G MX9_next 43 [(0, .ref x0)] [] u0 (none, w)) (fun a w hw hc he => tX9_next_l0 hw (fun qs e => hc qs e) (fun qs e => he qs e)) FU qs r9 hj hX
  refine hE ?_ _ hi
  clear hE hi
  refine R_aload DX9_next_43 0 rfl ?_
  refine R_aload DX9_next_44 0 rfl ?_
  obtain ⟨v10, ev10, h⟩ := bind_some h
  refine R_gI DX9_next_45 fl_RX9_116 ev10 ?_
  obtain ⟨s11, es11, h⟩ := bind_some h
  refine R_pI DX9_next_48 fl_RX9_123 es11 ?_
  refine R_aload DX9_next_51 0 rfl ?_
  refine R_constI DX9_next_52 ci_0 ?_
  obtain ⟨s12, es12, h⟩ := bind_some h
  refine R_pI DX9_next_53 fl_RX9_126 es12 ?_
  refine R_aload DX9_next_56 0 rfl ?_
  refine R_lconst DX9_next_57 ?_
  obtain ⟨s13, es13, h⟩ := bind_some h
  refine R_pL DX9_next_58 fl_RX9_129 es13 ?_
  refine R_aload DX9_next_61 0 rfl ?_
  obtain ⟨v14, ev14, h⟩ := bind_some h
  refine R_gI DX9_next_62 fl_RX9_116 ev14 ?_
  refine R_aload DX9_next_65 0 rfl ?_
  obtain ⟨v15, ev15, h⟩ := bind_some h
  refine R_gI DX9_next_66 fl_RX9_109 ev15 ?_
  by_cases c16 : v14 = v15
  · replace h := if_t h c16
    refine R_icmp_ne_f DX9_next_69 c16 ?_
    refine R_aload DX9_next_72 0 rfl ?_
    refine R_constI DX9_next_73 ci_0 ?_
    obtain ⟨s59, es59, h⟩ := bind_some h
    refine R_pI DX9_next_74 fl_RX9_133 es59 ?_
    refine R_goto DX9_next_77 ?_
    cases h
    exact R_return rfl DX9_next_307
  · replace h := if_f h c16
    refine R_icmp_ne_t DX9_next_69 c16 ?_
    refine R_aload DX9_next_80 0 rfl ?_
    refine R_aload DX9_next_81 0 rfl ?_
    obtain ⟨v17, ev17, h⟩ := bind_some h
    refine R_gI DX9_next_82 fl_RX9_116 ev17 ?_
    refine R_constI DX9_next_85 ci_97 ?_
    refine R_constI DX9_next_87 ci_122 ?_
    obtain ⟨r18, er18, h⟩ := bind_some h
    refine R_cV1 [.int v17, .int (iI 97), .int (iI 122)] DX9_next_89 kzvX9_isByte ml_RX9_119 ⟨Nat.le_of_ble_eq_true rfl, Nat.le_of_ble_eq_true rfl⟩ rfl (Nat.le_of_ble_eq_true rfl) (kX9_isByte er18) ?_
    by_cases c19 : r18.1 = 0
    · replace h := if_t h c19
      refine R_if_eq_t DX9_next_92 c19 ?_
      refine R_aload DX9_next_188 0 rfl ?_
      refine R_aload DX9_next_189 0 rfl ?_
      obtain ⟨v20, ev20, h⟩ := bind_some h
      refine R_gI DX9_next_190 fl_RX9_116 ev20 ?_
      refine R_constI DX9_next_193 ci_48 ?_
      refine R_constI DX9_next_195 ci_57 ?_
      obtain ⟨r21, er21, h⟩ := bind_some h
      refine R_cV1 [.int v20, .int (iI 48), .int (iI 57)] DX9_next_197 kzvX9_isByte ml_RX9_119 ⟨Nat.le_of_ble_eq_true rfl, Nat.le_of_ble_eq_true rfl⟩ rfl (Nat.le_of_ble_eq_true rfl) (kX9_isByte er21) ?_
      by_cases c22 : r21.1 = 0
      · replace h := if_t h c22
        refine R_if_eq_t DX9_next_200 c22 ?_
        refine R_aload DX9_next_274 0 rfl ?_
        refine R_aload DX9_next_275 0 rfl ?_
        obtain ⟨v23, ev23, h⟩ := bind_some h
        refine R_gR DX9_next_276 fl_RX9_23 ev23 ?_
        refine R_aload DX9_next_279 0 rfl ?_
        obtain ⟨v24, ev24, h⟩ := bind_some h
        refine R_gI DX9_next_280 fl_RX9_116 ev24 ?_
        obtain ⟨v25, ev25, h⟩ := bind_some h
        refine R_aB DX9_next_283 ev25 ?_
        refine R_constI DX9_next_284 ci_59 ?_
        by_cases c26 : v25 = (iI 59)
        · replace h := if_t h c26
          refine R_icmp_ne_f DX9_next_286 c26 ?_
          refine R_constI DX9_next_289 ci_3 ?_
          refine R_goto DX9_next_290 ?_
          exact tX9_next_b294 h
        · replace h := if_f h c26
          refine R_icmp_ne_t DX9_next_286 c26 ?_
          refine R_constI DX9_next_293 ci_4 ?_
          exact tX9_next_b294 h
      · replace h := if_f h c22
        refine R_if_eq_f DX9_next_200 c22 ?_
        refine R_aload DX9_next_203 0 rfl ?_
        refine R_constI DX9_next_204 ci_2 ?_
        obtain ⟨s30, es30, h⟩ := bind_some h
        refine R_pI DX9_next_205 fl_RX9_133 es30 ?_
        obtain ⟨r43, hi, h⟩ := bind_some h
        have hE : (fun u208 : Hp => R G MX9_next 307 [] [] u208 (none, w)) r43 → ∀ (qs : Hp), iter (fX9_next_l208 x0) FU qs = some r43 → R G MX9_next 208 [(0, .ref x0)] [] qs (none, w) := fun hX qs hj => loop_R (fX9_next_l208 x0) (fun p208 : Hp => R G MX9_next 208 [(0, .ref x0)] [] p208 (none, w)) (fun u208 : Hp => R G MX9_next 307 [] [] u208 (none, w)) (fun a w hw hc he => tX9_next_l208 hw (fun qs e => hc qs e) (fun qs e => he qs e)) FU qs r43 hj hX
        refine hE ?_ _ hi
        clear hE hi
        cases h
        exact R_return rfl DX9_next_307
    · replace h := if_f h c19
      refine R_if_eq_f DX9_next_92 c19 ?_
      refine R_aload DX9_next_95 0 rfl ?_
      refine R_constI DX9_next_96 ci_1 ?_
      obtain ⟨s44, es44, h⟩ := bind_some h
      refine R_pI DX9_next_97 fl_RX9_133 es44 ?_
      refine R_constI DX9_next_100 ci_0 ?_
      refine R_istore [(1, .int (iI 0)), (0, .ref x0)] DX9_next_101 (by decide) rfl ?_
      refine R.sub (L' := [(0, .ref x0), (1, .int (iI 0))]) [1, 0] rfl ?_
      obtain ⟨r58, hi, h⟩ := bind_some h
      have hE : (fun u102 : Hp => R G MX9_next 185 [] [] u102 (none, w)) r58 → ∀ (q1 : Int32) (qs : Hp), iter (fX9_next_l102 x0) FU (q1, qs) = some r58 → R G MX9_next 102 [(0, .ref x0), (1, .int q1)] [] qs (none, w) := fun hX q1 qs hj => loop_R (fX9_next_l102 x0) (fun p102 : Int32 × Hp => R G MX9_next 102 [(0, .ref x0), (1, .int p102.1)] [] p102.2 (none, w)) (fun u102 : Hp => R G MX9_next 185 [] [] u102 (none, w)) (fun a w hw hc he => tX9_next_l102 hw (fun q1 qs e => hc (q1, qs) e) (fun qs e => he qs e)) FU (q1, qs) r58 hj hX
      refine hE ?_ _ _ hi
      clear hE hi
      refine R_goto DX9_next_185 ?_
      cases h
      exact R_return rfl DX9_next_307
set_option maxRecDepth 8000 in
theorem kX9_isGood {G : Gm} {x0 : Nat} {s : Hp} {w : Int32 × Hp} (h : fX9_isGood x0 s = some w) : (s.2.2 x0).1 = 9 ∧ Call G MX9_isGood [.ref x0] s (some (.int w.1), w.2) := by
  unfold fX9_isGood at h
  obtain ⟨_, e0, h⟩ := bind_some h
  refine ⟨ck_some e0, Call.of_R pnRX9 (Nat.le_of_ble_eq_true rfl) ?_⟩
  clear e0
  show R G MX9_isGood 0 [(0, .ref x0)] [] s (some (.int w.1), w.2)
  refine R_aload DX9_isGood_0 0 rfl ?_
  obtain ⟨v1, ev1, h⟩ := bind_some h
  refine R_gI DX9_isGood_1 fl_RX9_144 ev1 ?_
  by_cases c2 : v1 = 0
  · replace h := if_t h c2
    refine R_if_ne_f DX9_isGood_4 c2 ?_
    refine R_constI DX9_isGood_7 ci_1 ?_
    refine R_goto DX9_isGood_8 ?_
    cases h
    exact R_zreturn rfl DX9_isGood_12 (by decide)
  · replace h := if_f h c2
    refine R_if_ne_t DX9_isGood_4 c2 ?_
    refine R_constI DX9_isGood_11 ci_0 ?_
    cases h
    exact R_zreturn rfl DX9_isGood_12 (by decide)
set_option maxRecDepth 8000 in
theorem kX9_fails {G : Gm} {x0 : Nat} {x1 : Int32} {s : Hp} {w : Hp} (h : fX9_fails x0 x1 s = some w) : (s.2.2 x0).1 = 9 ∧ Call G MX9_fails [.ref x0, .int x1] s (none, w) := by
  unfold fX9_fails at h
  obtain ⟨_, e0, h⟩ := bind_some h
  refine ⟨ck_some e0, Call.of_R pnRX9 (Nat.le_of_ble_eq_true rfl) ?_⟩
  clear e0
  show R G MX9_fails 0 [(0, .ref x0), (1, .int x1)] [] s (none, w)
  refine R_aload DX9_fails_0 0 rfl ?_
  obtain ⟨v1, ev1, h⟩ := bind_some h
  refine R_gI DX9_fails_1 fl_RX9_144 ev1 ?_
  by_cases c2 : v1 = 0
  · replace h := if_t h c2
    refine R_if_eq_t DX9_fails_4 c2 ?_
    refine R_aload DX9_fails_8 0 rfl ?_
    refine R_iload DX9_fails_9 1 rfl ?_
    obtain ⟨s3, es3, h⟩ := bind_some h
    refine R_pI DX9_fails_10 fl_RX9_144 es3 ?_
    refine R_aload DX9_fails_13 0 rfl ?_
    refine R_aload DX9_fails_14 0 rfl ?_
    obtain ⟨v4, ev4, h⟩ := bind_some h
    refine R_gI DX9_fails_15 fl_RX9_123 ev4 ?_
    obtain ⟨s5, es5, h⟩ := bind_some h
    refine R_pI DX9_fails_18 fl_RX9_147 es5 ?_
    cases h
    exact R_return rfl DX9_fails_21
  · replace h := if_f h c2
    refine R_if_eq_f DX9_fails_4 c2 ?_
    cases h
    exact R_return rfl DX9_fails_7
set_option maxRecDepth 8000 in
theorem tX9_is_b28 {G : Gm} {s : Hp} {w : Int32 × Hp} (h : fX9_is_b28 s = some w) : R G MX9_is 28 [] [] s (some (.int w.1), w.2) := by
  unfold fX9_is_b28 at h
  refine R_constI DX9_is_28 ci_0 ?_
  cases h
  exact R_zreturn rfl DX9_is_29 (by decide)
set_option maxRecDepth 8000 in
theorem kX9_is {G : Gm} {x0 : Nat} {x1 : Int64} {s : Hp} {w : Int32 × Hp} (h : fX9_is x0 x1 s = some w) : (s.2.2 x0).1 = 9 ∧ Call G MX9_is [.ref x0, .long x1] s (some (.int w.1), w.2) := by
  unfold fX9_is at h
  obtain ⟨_, e0, h⟩ := bind_some h
  refine ⟨ck_some e0, Call.of_R pnRX9 (Nat.le_of_ble_eq_true rfl) ?_⟩
  clear e0
  show R G MX9_is 0 [(0, .ref x0), (1, .long x1)] [] s (some (.int w.1), w.2)
  refine R_aload DX9_is_0 0 rfl ?_
  obtain ⟨v1, ev1, h⟩ := bind_some h
  refine R_gI DX9_is_1 fl_RX9_144 ev1 ?_
  by_cases c2 : v1 = 0
  · replace h := if_t h c2
    refine R_if_ne_f DX9_is_4 c2 ?_
    refine R_aload DX9_is_7 0 rfl ?_
    obtain ⟨v3, ev3, h⟩ := bind_some h
    refine R_gI DX9_is_8 fl_RX9_133 ev3 ?_
    refine R_constI DX9_is_11 ci_1 ?_
    by_cases c4 : v3 = (iI 1)
    · replace h := if_t h c4
      refine R_icmp_ne_f DX9_is_12 c4 ?_
      refine R_aload DX9_is_15 0 rfl ?_
      obtain ⟨v5, ev5, h⟩ := bind_some h
      refine R_gL DX9_is_16 fl_RX9_129 ev5 ?_
      refine R_lload DX9_is_19 1 rfl ?_
      refine R_lcmp DX9_is_20 ?_
      by_cases c6 : (lg_cmp v5 x1) = 0
      · replace h := if_t h c6
        refine R_if_ne_f DX9_is_21 c6 ?_
        refine R_constI DX9_is_24 ci_1 ?_
        refine R_goto DX9_is_25 ?_
        cases h
        exact R_zreturn rfl DX9_is_29 (by decide)
      · replace h := if_f h c6
        refine R_if_ne_t DX9_is_21 c6 ?_
        refine R.sub (L' := []) [] rfl ?_
        exact tX9_is_b28 h
    · replace h := if_f h c4
      refine R_icmp_ne_t DX9_is_12 c4 ?_
      refine R.sub (L' := []) [] rfl ?_
      exact tX9_is_b28 h
  · replace h := if_f h c2
    refine R_if_ne_t DX9_is_4 c2 ?_
    refine R.sub (L' := []) [] rfl ?_
    exact tX9_is_b28 h
set_option maxRecDepth 8000 in
theorem kX9_takes {G : Gm} {x0 : Nat} {x1 : Int64} {s : Hp} {w : Int32 × Hp} (h : fX9_takes x0 x1 s = some w) : (s.2.2 x0).1 = 9 ∧ Call G MX9_takes [.ref x0, .long x1] s (some (.int w.1), w.2) := by
  unfold fX9_takes at h
  obtain ⟨_, e0, h⟩ := bind_some h
  refine ⟨ck_some e0, Call.of_R pnRX9 (Nat.le_of_ble_eq_true rfl) ?_⟩
  clear e0
  show R G MX9_takes 0 [(0, .ref x0), (1, .long x1)] [] s (some (.int w.1), w.2)
  refine R_aload DX9_takes_0 0 rfl ?_
  refine R_lload DX9_takes_1 1 rfl ?_
  obtain ⟨r1, er1, h⟩ := bind_some h
  refine R_cV1 [.long x1] DX9_takes_2 kzvX9_is ml_RX9_150 ⟨Nat.le_of_ble_eq_true rfl, Nat.le_of_ble_eq_true rfl⟩ rfl (Nat.le_of_ble_eq_true rfl) (kX9_is er1) ?_
  by_cases c2 : r1.1 = 0
  · replace h := if_t h c2
    refine R_if_ne_f DX9_takes_5 c2 ?_
    refine R_constI DX9_takes_8 ci_0 ?_
    cases h
    exact R_zreturn rfl DX9_takes_9 (by decide)
  · replace h := if_f h c2
    refine R_if_ne_t DX9_takes_5 c2 ?_
    refine R_aload DX9_takes_10 0 rfl ?_
    obtain ⟨s3, es3, h⟩ := bind_some h
    refine R_cV0 [] DX9_takes_11 kzvX9_next ml_RX9_154 ⟨Nat.le_of_ble_eq_true rfl, Nat.le_of_ble_eq_true rfl⟩ rfl (Nat.le_of_ble_eq_true rfl) (kX9_next es3) ?_
    refine R_constI DX9_takes_14 ci_1 ?_
    cases h
    exact R_zreturn rfl DX9_takes_15 (by decide)
set_option maxRecDepth 8000 in
theorem kX9_asks {G : Gm} {x0 : Nat} {x1 : Int64} {s : Hp} {w : Hp} (h : fX9_asks x0 x1 s = some w) : (s.2.2 x0).1 = 9 ∧ Call G MX9_asks [.ref x0, .long x1] s (none, w) := by
  unfold fX9_asks at h
  obtain ⟨_, e0, h⟩ := bind_some h
  refine ⟨ck_some e0, Call.of_R pnRX9 (Nat.le_of_ble_eq_true rfl) ?_⟩
  clear e0
  show R G MX9_asks 0 [(0, .ref x0), (1, .long x1)] [] s (none, w)
  refine R_aload DX9_asks_0 0 rfl ?_
  refine R_lload DX9_asks_1 1 rfl ?_
  obtain ⟨r1, er1, h⟩ := bind_some h
  refine R_cV1 [.long x1] DX9_asks_2 kzvX9_takes ml_RX9_157 ⟨Nat.le_of_ble_eq_true rfl, Nat.le_of_ble_eq_true rfl⟩ rfl (Nat.le_of_ble_eq_true rfl) (kX9_takes er1) ?_
  by_cases c2 : r1.1 = 0
  · replace h := if_t h c2
    refine R_if_ne_f DX9_asks_5 c2 ?_
    refine R_aload DX9_asks_8 0 rfl ?_
    refine R_constI DX9_asks_9 ci_1 ?_
    obtain ⟨s3, es3, h⟩ := bind_some h
    refine R_cV0 [.int (iI 1)] DX9_asks_10 kzvX9_fails ml_RX9_160 ⟨Nat.le_of_ble_eq_true rfl, Nat.le_of_ble_eq_true rfl⟩ rfl (Nat.le_of_ble_eq_true rfl) (kX9_fails es3) ?_
    cases h
    exact R_return rfl DX9_asks_13
  · replace h := if_f h c2
    refine R_if_ne_t DX9_asks_5 c2 ?_
    cases h
    exact R_return rfl DX9_asks_13
set_option maxRecDepth 8000 in
theorem kX9_number {G : Gm} {x0 : Nat} {x1 : Int32} {x2 : Int32} {s : Hp} {w : Int32 × Hp} (h : fX9_number x0 x1 x2 s = some w) : (s.2.2 x0).1 = 9 ∧ Call G MX9_number [.ref x0, .int x1, .int x2] s (some (.int w.1), w.2) := by
  unfold fX9_number at h
  obtain ⟨_, e0, h⟩ := bind_some h
  refine ⟨ck_some e0, Call.of_R pnRX9 (Nat.le_of_ble_eq_true rfl) ?_⟩
  clear e0
  show R G MX9_number 0 [(0, .ref x0), (1, .int x1), (2, .int x2)] [] s (some (.int w.1), w.2)
  refine R_aload DX9_number_0 0 rfl ?_
  obtain ⟨v1, ev1, h⟩ := bind_some h
  refine R_gI DX9_number_1 fl_RX9_144 ev1 ?_
  by_cases c2 : v1 = 0
  · replace h := if_t h c2
    refine R_if_eq_t DX9_number_4 c2 ?_
    refine R_aload DX9_number_9 0 rfl ?_
    obtain ⟨v3, ev3, h⟩ := bind_some h
    refine R_gI DX9_number_10 fl_RX9_133 ev3 ?_
    refine R_constI DX9_number_13 ci_2 ?_
    by_cases c4 : v3 = (iI 2)
    · replace h := if_t h c4
      refine R_icmp_eq_t DX9_number_14 c4 ?_
      refine R_aload DX9_number_24 0 rfl ?_
      obtain ⟨v5, ev5, h⟩ := bind_some h
      refine R_gI DX9_number_25 fl_RX9_126 ev5 ?_
      refine R_i2l DX9_number_28 ?_
      refine R_iload DX9_number_29 1 rfl ?_
      refine R_i2l DX9_number_30 ?_
      refine R_iload DX9_number_31 2 rfl ?_
      refine R_i2l DX9_number_32 ?_
      obtain ⟨r6, er6, h⟩ := bind_some h
      refine R_cS1 [.long (Int32.toInt64 v5), .long (Int32.toInt64 x1), .long (Int32.toInt64 x2)] DX9_number_33 kzsX9_in ml_RX9_97 ⟨Nat.le_of_ble_eq_true rfl, Nat.le_of_ble_eq_true rfl⟩ rfl (Nat.le_of_ble_eq_true rfl) (kX9_in er6) ?_
      by_cases c7 : r6.1 = 0
      · replace h := if_t h c7
        refine R_if_ne_f DX9_number_36 c7 ?_
        refine R_aload DX9_number_39 0 rfl ?_
        refine R_constI DX9_number_40 ci_2 ?_
        obtain ⟨s10, es10, h⟩ := bind_some h
        refine R_cV0 [.int (iI 2)] DX9_number_41 kzvX9_fails ml_RX9_160 ⟨Nat.le_of_ble_eq_true rfl, Nat.le_of_ble_eq_true rfl⟩ rfl (Nat.le_of_ble_eq_true rfl) (kX9_fails es10) ?_
        refine R_iload DX9_number_44 1 rfl ?_
        cases h
        exact R_ireturn rfl DX9_number_45
      · replace h := if_f h c7
        refine R_if_ne_t DX9_number_36 c7 ?_
        refine R_aload DX9_number_46 0 rfl ?_
        obtain ⟨v8, ev8, h⟩ := bind_some h
        refine R_gI DX9_number_47 fl_RX9_126 ev8 ?_
        refine R_istore [(3, .int v8), (0, .ref x0), (1, .int x1), (2, .int x2)] DX9_number_50 (by decide) rfl ?_
        refine R_aload DX9_number_51 1 rfl ?_
        obtain ⟨s9, es9, h⟩ := bind_some h
        refine R_cV0 [] DX9_number_52 kzvX9_next ml_RX9_154 ⟨Nat.le_of_ble_eq_true rfl, Nat.le_of_ble_eq_true rfl⟩ rfl (Nat.le_of_ble_eq_true rfl) (kX9_next es9) ?_
        refine R_iload DX9_number_55 0 rfl ?_
        cases h
        exact R_ireturn rfl DX9_number_56
    · replace h := if_f h c4
      refine R_icmp_eq_f DX9_number_14 c4 ?_
      refine R_aload DX9_number_17 0 rfl ?_
      refine R_constI DX9_number_18 ci_1 ?_
      obtain ⟨s11, es11, h⟩ := bind_some h
      refine R_cV0 [.int (iI 1)] DX9_number_19 kzvX9_fails ml_RX9_160 ⟨Nat.le_of_ble_eq_true rfl, Nat.le_of_ble_eq_true rfl⟩ rfl (Nat.le_of_ble_eq_true rfl) (kX9_fails es11) ?_
      refine R_iload DX9_number_22 1 rfl ?_
      cases h
      exact R_ireturn rfl DX9_number_23
  · replace h := if_f h c2
    refine R_if_eq_f DX9_number_4 c2 ?_
    refine R_iload DX9_number_7 1 rfl ?_
    cases h
    exact R_ireturn rfl DX9_number_8
set_option maxRecDepth 8000 in
theorem kX9_number_ {G : Gm} {x0 : Nat} {x1 : Int64} {x3 : Int32} {x4 : Int32} {s : Hp} {w : Int32 × Hp} (h : fX9_number_ x0 x1 x3 x4 s = some w) : (s.2.2 x0).1 = 9 ∧ Call G MX9_number_ [.ref x0, .long x1, .int x3, .int x4] s (some (.int w.1), w.2) := by
  unfold fX9_number_ at h
  obtain ⟨_, e0, h⟩ := bind_some h
  refine ⟨ck_some e0, Call.of_R pnRX9 (Nat.le_of_ble_eq_true rfl) ?_⟩
  clear e0
  show R G MX9_number_ 0 [(0, .ref x0), (1, .long x1), (3, .int x3), (4, .int x4)] [] s (some (.int w.1), w.2)
  refine R_aload DX9_number__0 0 rfl ?_
  refine R_lload DX9_number__1 1 rfl ?_
  obtain ⟨s1, es1, h⟩ := bind_some h
  refine R_cV0 [.long x1] DX9_number__2 kzvX9_asks ml_RX9_163 ⟨Nat.le_of_ble_eq_true rfl, Nat.le_of_ble_eq_true rfl⟩ rfl (Nat.le_of_ble_eq_true rfl) (kX9_asks es1) ?_
  refine R_aload DX9_number__5 0 rfl ?_
  refine R_iload DX9_number__6 2 rfl ?_
  refine R_iload DX9_number__7 3 rfl ?_
  obtain ⟨r2, er2, h⟩ := bind_some h
  refine R_cV1 [.int x3, .int x4] DX9_number__9 kzvX9_number ml_RX9_167 ⟨Nat.le_of_ble_eq_true rfl, Nat.le_of_ble_eq_true rfl⟩ rfl (Nat.le_of_ble_eq_true rfl) (kX9_number er2) ?_
  cases h
  exact R_ireturn rfl DX9_number__12
set_option maxRecDepth 8000 in
theorem tX9_ends_b13 {G : Gm} {x0 : Nat} {s : Hp} {w : Hp} (h : fX9_ends_b13 x0 s = some w) : R G MX9_ends 13 [(0, .ref x0)] [] s (none, w) := by
  unfold fX9_ends_b13 at h
  refine R_aload DX9_ends_13 0 rfl ?_
  obtain ⟨v3, ev3, h⟩ := bind_some h
  refine R_gI DX9_ends_14 fl_RX9_144 ev3 ?_
  by_cases c4 : v3 = 0
  · replace h := if_t h c4
    refine R_if_ne_f DX9_ends_17 c4 ?_
    refine R_aload DX9_ends_20 0 rfl ?_
    obtain ⟨s5, es5, h⟩ := bind_some h
    refine R_cV0 [] DX9_ends_21 kzvX9_next ml_RX9_154 ⟨Nat.le_of_ble_eq_true rfl, Nat.le_of_ble_eq_true rfl⟩ rfl (Nat.le_of_ble_eq_true rfl) (kX9_next es5) ?_
    cases h
    exact R_return rfl DX9_ends_24
  · replace h := if_f h c4
    refine R_if_ne_t DX9_ends_17 c4 ?_
    cases h
    exact R_return rfl DX9_ends_24
set_option maxRecDepth 8000 in
theorem kX9_ends {G : Gm} {x0 : Nat} {s : Hp} {w : Hp} (h : fX9_ends x0 s = some w) : (s.2.2 x0).1 = 9 ∧ Call G MX9_ends [.ref x0] s (none, w) := by
  unfold fX9_ends at h
  obtain ⟨_, e0, h⟩ := bind_some h
  refine ⟨ck_some e0, Call.of_R pnRX9 (Nat.le_of_ble_eq_true rfl) ?_⟩
  clear e0
  show R G MX9_ends 0 [(0, .ref x0)] [] s (none, w)
  refine R_aload DX9_ends_0 0 rfl ?_
  obtain ⟨v1, ev1, h⟩ := bind_some h
  refine R_gI DX9_ends_1 fl_RX9_133 ev1 ?_
  refine R_constI DX9_ends_4 ci_3 ?_
  by_cases c2 : v1 = (iI 3)
  · replace h := if_t h c2
    refine R_icmp_eq_t DX9_ends_5 c2 ?_
    exact tX9_ends_b13 h
  · replace h := if_f h c2
    refine R_icmp_eq_f DX9_ends_5 c2 ?_
    refine R_aload DX9_ends_8 0 rfl ?_
    refine R_constI DX9_ends_9 ci_1 ?_
    obtain ⟨s6, es6, h⟩ := bind_some h
    refine R_cV0 [.int (iI 1)] DX9_ends_10 kzvX9_fails ml_RX9_160 ⟨Nat.le_of_ble_eq_true rfl, Nat.le_of_ble_eq_true rfl⟩ rfl (Nat.le_of_ble_eq_true rfl) (kX9_fails es6) ?_
    exact tX9_ends_b13 h
set_option maxRecDepth 8000 in
theorem kX9_begins {G : Gm} {x0 : Nat} {s : Hp} {w : Hp} (h : fX9_begins x0 s = some w) : (s.2.2 x0).1 = 9 ∧ Call G MX9_begins [.ref x0] s (none, w) := by
  unfold fX9_begins at h
  obtain ⟨_, e0, h⟩ := bind_some h
  refine ⟨ck_some e0, Call.of_R pnRX9 (Nat.le_of_ble_eq_true rfl) ?_⟩
  clear e0
  show R G MX9_begins 0 [(0, .ref x0)] [] s (none, w)
  refine R_aload DX9_begins_0 0 rfl ?_
  refine R_constI DX9_begins_1 ci_0 ?_
  obtain ⟨s1, es1, h⟩ := bind_some h
  refine R_pI DX9_begins_2 fl_RX9_144 es1 ?_
  refine R_aload DX9_begins_5 0 rfl ?_
  refine R_constI DX9_begins_6 ci_m1 ?_
  obtain ⟨s2, es2, h⟩ := bind_some h
  refine R_pI DX9_begins_7 fl_RX9_147 es2 ?_
  refine R_aload DX9_begins_10 0 rfl ?_
  refine R_constI DX9_begins_11 ci_0 ?_
  obtain ⟨s3, es3, h⟩ := bind_some h
  refine R_pI DX9_begins_12 fl_RX9_116 es3 ?_
  refine R_aload DX9_begins_15 0 rfl ?_
  obtain ⟨s4, es4, h⟩ := bind_some h
  refine R_cV0 [] DX9_begins_16 kzvX9_next ml_RX9_154 ⟨Nat.le_of_ble_eq_true rfl, Nat.le_of_ble_eq_true rfl⟩ rfl (Nat.le_of_ble_eq_true rfl) (kX9_next es4) ?_
  cases h
  exact R_return rfl DX9_begins_19
set_option maxRecDepth 8000 in
theorem tX9_isOver_b29 {G : Gm} {y0 : Nat} {y1 : Int32} {s : Hp} {w : Hp} (h : fX9_isOver_b29 y0 y1 s = some w) : R G MX9_isOver 29 [] [.int y1, .ref y0] s (none, w) := by
  unfold fX9_isOver_b29 at h
  obtain ⟨s7, es7, h⟩ := bind_some h
  refine R_pI DX9_isOver_29 fl_RX9_27 es7 ?_
  cases h
  exact R_return rfl DX9_isOver_32
set_option maxRecDepth 8000 in
theorem kX9_isOver {G : Gm} {x0 : Nat} {s : Hp} {w : Hp} (h : fX9_isOver x0 s = some w) : (s.2.2 x0).1 = 9 ∧ Call G MX9_isOver [.ref x0] s (none, w) := by
  unfold fX9_isOver at h
  obtain ⟨_, e0, h⟩ := bind_some h
  refine ⟨ck_some e0, Call.of_R pnRX9 (Nat.le_of_ble_eq_true rfl) ?_⟩
  clear e0
  show R G MX9_isOver 0 [(0, .ref x0)] [] s (none, w)
  refine R_aload DX9_isOver_0 0 rfl ?_
  refine R_constI DX9_isOver_1 ci_0 ?_
  obtain ⟨s1, es1, h⟩ := bind_some h
  refine R_pI DX9_isOver_2 fl_RX9_109 es1 ?_
  refine R_aload DX9_isOver_5 0 rfl ?_
  refine R_aload DX9_isOver_6 0 rfl ?_
  obtain ⟨v2, ev2, h⟩ := bind_some h
  refine R_gI DX9_isOver_7 fl_RX9_144 ev2 ?_
  obtain ⟨s3, es3, h⟩ := bind_some h
  refine R_pI DX9_isOver_10 fl_RX9_171 es3 ?_
  refine R_aload DX9_isOver_13 0 rfl ?_
  refine R_aload DX9_isOver_14 0 rfl ?_
  obtain ⟨v4, ev4, h⟩ := bind_some h
  refine R_gI DX9_isOver_15 fl_RX9_144 ev4 ?_
  by_cases c5 : v4 = 0
  · replace h := if_t h c5
    refine R_if_ne_f DX9_isOver_18 c5 ?_
    refine R_constI DX9_isOver_21 ci_m1 ?_
    refine R_goto DX9_isOver_22 ?_
    refine R.sub (L' := []) [] rfl ?_
    exact tX9_isOver_b29 h
  · replace h := if_f h c5
    refine R_if_ne_t DX9_isOver_18 c5 ?_
    refine R_aload DX9_isOver_25 0 rfl ?_
    obtain ⟨v6, ev6, h⟩ := bind_some h
    refine R_gI DX9_isOver_26 fl_RX9_147 ev6 ?_
    refine R.sub (L' := []) [] rfl ?_
    exact tX9_isOver_b29 h
set_option maxRecDepth 8000 in
theorem kX9_fault {G : Gm} {x0 : Nat} {x1 : Int32} {s : Hp} {w : Int32 × Hp} (h : fX9_fault x0 x1 s = some w) : (s.2.2 x0).1 = 9 ∧ Call G MX9_fault [.ref x0, .int x1] s (some (.int w.1), w.2) := by
  unfold fX9_fault at h
  obtain ⟨_, e0, h⟩ := bind_some h
  refine ⟨ck_some e0, Call.of_R pnRX9 (Nat.le_of_ble_eq_true rfl) ?_⟩
  clear e0
  show R G MX9_fault 0 [(0, .ref x0), (1, .int x1)] [] s (some (.int w.1), w.2)
  refine R_aload DX9_fault_0 0 rfl ?_
  refine R_constI DX9_fault_1 ci_0 ?_
  obtain ⟨s1, es1, h⟩ := bind_some h
  refine R_pI DX9_fault_2 fl_RX9_92 es1 ?_
  refine R_iload DX9_fault_5 1 rfl ?_
  by_cases c2 : x1 = 0
  · replace h := if_t h c2
    refine R_if_ne_f DX9_fault_6 c2 ?_
    refine R_aload DX9_fault_9 0 rfl ?_
    obtain ⟨v5, ev5, h⟩ := bind_some h
    refine R_gI DX9_fault_10 fl_RX9_171 ev5 ?_
    refine R_goto DX9_fault_13 ?_
    cases h
    exact R_ireturn rfl DX9_fault_29
  · replace h := if_f h c2
    refine R_if_ne_t DX9_fault_6 c2 ?_
    refine R_iload DX9_fault_16 1 rfl ?_
    refine R_constI DX9_fault_17 ci_1 ?_
    by_cases c3 : x1 = (iI 1)
    · replace h := if_t h c3
      refine R_icmp_ne_f DX9_fault_18 c3 ?_
      refine R_aload DX9_fault_21 0 rfl ?_
      obtain ⟨v4, ev4, h⟩ := bind_some h
      refine R_gI DX9_fault_22 fl_RX9_27 ev4 ?_
      refine R_goto DX9_fault_25 ?_
      cases h
      exact R_ireturn rfl DX9_fault_29
    · replace h := if_f h c3
      refine R_icmp_ne_t DX9_fault_18 c3 ?_
      refine R_constI DX9_fault_28 ci_m1 ?_
      cases h
      exact R_ireturn rfl DX9_fault_29
set_option maxRecDepth 8000 in
theorem kX9_hasRead {G : Gm} {x0 : Nat} {x1 : Int32} {s : Hp} {w : Int32 × Hp} (h : fX9_hasRead x0 x1 s = some w) : (s.2.2 x0).1 = 9 ∧ Call G MX9_hasRead [.ref x0, .int x1] s (some (.int w.1), w.2) := by
  unfold fX9_hasRead at h
  obtain ⟨_, e0, h⟩ := bind_some h
  refine ⟨ck_some e0, Call.of_R pnRX9 (Nat.le_of_ble_eq_true rfl) ?_⟩
  clear e0
  show R G MX9_hasRead 0 [(0, .ref x0), (1, .int x1)] [] s (some (.int w.1), w.2)
  refine R_aload DX9_hasRead_0 0 rfl ?_
  obtain ⟨v1, ev1, h⟩ := bind_some h
  refine R_gR DX9_hasRead_1 fl_RX9_34 ev1 ?_
  refine R_constI DX9_hasRead_4 ci_60 ?_
  refine R_iload DX9_hasRead_6 1 rfl ?_
  refine R_iadd DX9_hasRead_7 ?_
  obtain ⟨v2, ev2, h⟩ := bind_some h
  refine R_aI DX9_hasRead_8 ev2 ?_
  cases h
  exact R_ireturn rfl DX9_hasRead_9
set_option maxRecDepth 8000 in
theorem kX9_reads {G : Gm} {x0 : Nat} {x1 : Int32} {x2 : Int32} {s : Hp} {w : Hp} (h : fX9_reads x0 x1 x2 s = some w) : (s.2.2 x0).1 = 9 ∧ Call G MX9_reads [.ref x0, .int x1, .int x2] s (none, w) := by
  unfold fX9_reads at h
  obtain ⟨_, e0, h⟩ := bind_some h
  refine ⟨ck_some e0, Call.of_R pnRX9 (Nat.le_of_ble_eq_true rfl) ?_⟩
  clear e0
  show R G MX9_reads 0 [(0, .ref x0), (1, .int x1), (2, .int x2)] [] s (none, w)
  refine R_aload DX9_reads_0 0 rfl ?_
  obtain ⟨v1, ev1, h⟩ := bind_some h
  refine R_gR DX9_reads_1 fl_RX9_34 ev1 ?_
  refine R_constI DX9_reads_4 ci_60 ?_
  refine R_iload DX9_reads_6 1 rfl ?_
  refine R_iadd DX9_reads_7 ?_
  refine R_iload DX9_reads_8 2 rfl ?_
  obtain ⟨s2, es2, h⟩ := bind_some h
  refine R_sI DX9_reads_9 es2 ?_
  cases h
  exact R_return rfl DX9_reads_10
set_option maxRecDepth 8000 in
theorem kX9_first {G : Gm} {x0 : Nat} {s : Hp} {w : Hp} (h : fX9_first x0 s = some w) : (s.2.2 x0).1 = 9 ∧ Call G MX9_first [.ref x0] s (none, w) := by
  unfold fX9_first at h
  obtain ⟨_, e0, h⟩ := bind_some h
  refine ⟨ck_some e0, Call.of_R pnRX9 (Nat.le_of_ble_eq_true rfl) ?_⟩
  clear e0
  show R G MX9_first 0 [(0, .ref x0)] [] s (none, w)
  refine R_aload DX9_first_0 0 rfl ?_
  refine R_ldc2 DX9_first_1 cw_RX9_174 ?_
  obtain ⟨s1, es1, h⟩ := bind_some h
  refine R_cV0 [.long 316452499] DX9_first_4 kzvX9_asks ml_RX9_163 ⟨Nat.le_of_ble_eq_true rfl, Nat.le_of_ble_eq_true rfl⟩ rfl (Nat.le_of_ble_eq_true rfl) (kX9_asks es1) ?_
  refine R_aload DX9_first_7 0 rfl ?_
  refine R_constI DX9_first_8 ci_0 ?_
  refine R_aload DX9_first_9 0 rfl ?_
  refine R_ldc2 DX9_first_10 cw_RX9_176 ?_
  refine R_constI DX9_first_13 ci_2 ?_
  refine R_constI DX9_first_14 ci_8 ?_
  obtain ⟨r2, er2, h⟩ := bind_some h
  refine R_cV1 [.long 459383, .int (iI 2), .int (iI 8)] DX9_first_16 kzvX9_number_ ml_RX9_178 ⟨Nat.le_of_ble_eq_true rfl, Nat.le_of_ble_eq_true rfl⟩ rfl (Nat.le_of_ble_eq_true rfl) (kX9_number_ er2) ?_
  obtain ⟨s3, es3, h⟩ := bind_some h
  refine R_cV0 [.int (iI 0), .int r2.1] DX9_first_19 kzvX9_reads ml_RX9_181 ⟨Nat.le_of_ble_eq_true rfl, Nat.le_of_ble_eq_true rfl⟩ rfl (Nat.le_of_ble_eq_true rfl) (kX9_reads es3) ?_
  refine R_aload DX9_first_22 0 rfl ?_
  refine R_constI DX9_first_23 ci_1 ?_
  refine R_aload DX9_first_24 0 rfl ?_
  refine R_ldc2 DX9_first_25 cw_RX9_185 ?_
  refine R_constI DX9_first_28 ci_2 ?_
  refine R_constI DX9_first_29 ci_8 ?_
  obtain ⟨r4, er4, h⟩ := bind_some h
  refine R_cV1 [.long 82528, .int (iI 2), .int (iI 8)] DX9_first_31 kzvX9_number_ ml_RX9_178 ⟨Nat.le_of_ble_eq_true rfl, Nat.le_of_ble_eq_true rfl⟩ rfl (Nat.le_of_ble_eq_true rfl) (kX9_number_ er4) ?_
  obtain ⟨s5, es5, h⟩ := bind_some h
  refine R_cV0 [.int (iI 1), .int r4.1] DX9_first_34 kzvX9_reads ml_RX9_181 ⟨Nat.le_of_ble_eq_true rfl, Nat.le_of_ble_eq_true rfl⟩ rfl (Nat.le_of_ble_eq_true rfl) (kX9_reads es5) ?_
  refine R_aload DX9_first_37 0 rfl ?_
  refine R_constI DX9_first_38 ci_2 ?_
  refine R_aload DX9_first_39 0 rfl ?_
  refine R_ldc2 DX9_first_40 cw_RX9_187 ?_
  refine R_constI DX9_first_43 ci_2 ?_
  refine R_constI DX9_first_44 ci_5 ?_
  obtain ⟨r6, er6, h⟩ := bind_some h
  refine R_cV1 [.long 173214550, .int (iI 2), .int (iI 5)] DX9_first_45 kzvX9_number_ ml_RX9_178 ⟨Nat.le_of_ble_eq_true rfl, Nat.le_of_ble_eq_true rfl⟩ rfl (Nat.le_of_ble_eq_true rfl) (kX9_number_ er6) ?_
  obtain ⟨s7, es7, h⟩ := bind_some h
  refine R_cV0 [.int (iI 2), .int r6.1] DX9_first_48 kzvX9_reads ml_RX9_181 ⟨Nat.le_of_ble_eq_true rfl, Nat.le_of_ble_eq_true rfl⟩ rfl (Nat.le_of_ble_eq_true rfl) (kX9_reads es7) ?_
  refine R_aload DX9_first_51 0 rfl ?_
  refine R_constI DX9_first_52 ci_3 ?_
  refine R_aload DX9_first_53 0 rfl ?_
  refine R_ldc2 DX9_first_54 cw_RX9_189 ?_
  refine R_constI DX9_first_57 ci_1 ?_
  refine R_constI DX9_first_58 ci_24 ?_
  obtain ⟨r8, er8, h⟩ := bind_some h
  refine R_cV1 [.long 4562587, .int (iI 1), .int (iI 24)] DX9_first_60 kzvX9_number_ ml_RX9_178 ⟨Nat.le_of_ble_eq_true rfl, Nat.le_of_ble_eq_true rfl⟩ rfl (Nat.le_of_ble_eq_true rfl) (kX9_number_ er8) ?_
  obtain ⟨s9, es9, h⟩ := bind_some h
  refine R_cV0 [.int (iI 3), .int r8.1] DX9_first_63 kzvX9_reads ml_RX9_181 ⟨Nat.le_of_ble_eq_true rfl, Nat.le_of_ble_eq_true rfl⟩ rfl (Nat.le_of_ble_eq_true rfl) (kX9_reads es9) ?_
  refine R_aload DX9_first_66 0 rfl ?_
  refine R_constI DX9_first_67 ci_4 ?_
  refine R_aload DX9_first_68 0 rfl ?_
  refine R_ldc2 DX9_first_69 cw_RX9_191 ?_
  refine R_constI DX9_first_72 ci_0 ?_
  refine R_constI DX9_first_73 ci_24 ?_
  obtain ⟨r10, er10, h⟩ := bind_some h
  refine R_cV1 [.long 1900846, .int (iI 0), .int (iI 24)] DX9_first_75 kzvX9_number_ ml_RX9_178 ⟨Nat.le_of_ble_eq_true rfl, Nat.le_of_ble_eq_true rfl⟩ rfl (Nat.le_of_ble_eq_true rfl) (kX9_number_ er10) ?_
  obtain ⟨s11, es11, h⟩ := bind_some h
  refine R_cV0 [.int (iI 4), .int r10.1] DX9_first_78 kzvX9_reads ml_RX9_181 ⟨Nat.le_of_ble_eq_true rfl, Nat.le_of_ble_eq_true rfl⟩ rfl (Nat.le_of_ble_eq_true rfl) (kX9_reads es11) ?_
  refine R_aload DX9_first_81 0 rfl ?_
  refine R_constI DX9_first_82 ci_6 ?_
  refine R_constI DX9_first_84 ci_9 ?_
  obtain ⟨s12, es12, h⟩ := bind_some h
  refine R_cV0 [.int (iI 6), .int (iI 9)] DX9_first_86 kzvX9_reads ml_RX9_181 ⟨Nat.le_of_ble_eq_true rfl, Nat.le_of_ble_eq_true rfl⟩ rfl (Nat.le_of_ble_eq_true rfl) (kX9_reads es12) ?_
  cases h
  exact R_return rfl DX9_first_89
set_option maxRecDepth 8000 in
theorem kX9_xHere {G : Gm} {x0 : Nat} {s : Hp} {w : Int32 × Hp} (h : fX9_xHere x0 s = some w) : (s.2.2 x0).1 = 9 ∧ Call G MX9_xHere [.ref x0] s (some (.int w.1), w.2) := by
  unfold fX9_xHere at h
  obtain ⟨_, e0, h⟩ := bind_some h
  refine ⟨ck_some e0, Call.of_R pnRX9 (Nat.le_of_ble_eq_true rfl) ?_⟩
  clear e0
  show R G MX9_xHere 0 [(0, .ref x0)] [] s (some (.int w.1), w.2)
  refine R_aload DX9_xHere_0 0 rfl ?_
  refine R_constI DX9_xHere_1 ci_0 ?_
  refine R_aload DX9_xHere_2 0 rfl ?_
  refine R_constI DX9_xHere_3 ci_0 ?_
  obtain ⟨r1, er1, h⟩ := bind_some h
  refine R_cV1 [.int (iI 0)] DX9_xHere_4 kzvX9_hasRead ml_RX9_193 ⟨Nat.le_of_ble_eq_true rfl, Nat.le_of_ble_eq_true rfl⟩ rfl (Nat.le_of_ble_eq_true rfl) (kX9_hasRead er1) ?_
  refine R_constI DX9_xHere_7 ci_1 ?_
  refine R_isub DX9_xHere_8 ?_
  obtain ⟨r2, er2, h⟩ := bind_some h
  refine R_cV1 [.int (iI 0), .int (r1.1 - (iI 1))] DX9_xHere_9 kzvX9_number ml_RX9_167 ⟨Nat.le_of_ble_eq_true rfl, Nat.le_of_ble_eq_true rfl⟩ rfl (Nat.le_of_ble_eq_true rfl) (kX9_number er2) ?_
  cases h
  exact R_ireturn rfl DX9_xHere_12
set_option maxRecDepth 8000 in
theorem kX9_yHere {G : Gm} {x0 : Nat} {s : Hp} {w : Int32 × Hp} (h : fX9_yHere x0 s = some w) : (s.2.2 x0).1 = 9 ∧ Call G MX9_yHere [.ref x0] s (some (.int w.1), w.2) := by
  unfold fX9_yHere at h
  obtain ⟨_, e0, h⟩ := bind_some h
  refine ⟨ck_some e0, Call.of_R pnRX9 (Nat.le_of_ble_eq_true rfl) ?_⟩
  clear e0
  show R G MX9_yHere 0 [(0, .ref x0)] [] s (some (.int w.1), w.2)
  refine R_aload DX9_yHere_0 0 rfl ?_
  refine R_constI DX9_yHere_1 ci_0 ?_
  refine R_aload DX9_yHere_2 0 rfl ?_
  refine R_constI DX9_yHere_3 ci_1 ?_
  obtain ⟨r1, er1, h⟩ := bind_some h
  refine R_cV1 [.int (iI 1)] DX9_yHere_4 kzvX9_hasRead ml_RX9_193 ⟨Nat.le_of_ble_eq_true rfl, Nat.le_of_ble_eq_true rfl⟩ rfl (Nat.le_of_ble_eq_true rfl) (kX9_hasRead er1) ?_
  refine R_constI DX9_yHere_7 ci_1 ?_
  refine R_isub DX9_yHere_8 ?_
  obtain ⟨r2, er2, h⟩ := bind_some h
  refine R_cV1 [.int (iI 0), .int (r1.1 - (iI 1))] DX9_yHere_9 kzvX9_number ml_RX9_167 ⟨Nat.le_of_ble_eq_true rfl, Nat.le_of_ble_eq_true rfl⟩ rfl (Nat.le_of_ble_eq_true rfl) (kX9_number er2) ?_
  cases h
  exact R_ireturn rfl DX9_yHere_12
set_option maxRecDepth 8000 in
theorem kX9_hourHere {G : Gm} {x0 : Nat} {s : Hp} {w : Int32 × Hp} (h : fX9_hourHere x0 s = some w) : (s.2.2 x0).1 = 9 ∧ Call G MX9_hourHere [.ref x0] s (some (.int w.1), w.2) := by
  unfold fX9_hourHere at h
  obtain ⟨_, e0, h⟩ := bind_some h
  refine ⟨ck_some e0, Call.of_R pnRX9 (Nat.le_of_ble_eq_true rfl) ?_⟩
  clear e0
  show R G MX9_hourHere 0 [(0, .ref x0)] [] s (some (.int w.1), w.2)
  refine R_aload DX9_hourHere_0 0 rfl ?_
  refine R_constI DX9_hourHere_1 ci_0 ?_
  refine R_aload DX9_hourHere_2 0 rfl ?_
  refine R_constI DX9_hourHere_3 ci_3 ?_
  obtain ⟨r1, er1, h⟩ := bind_some h
  refine R_cV1 [.int (iI 3)] DX9_hourHere_4 kzvX9_hasRead ml_RX9_193 ⟨Nat.le_of_ble_eq_true rfl, Nat.le_of_ble_eq_true rfl⟩ rfl (Nat.le_of_ble_eq_true rfl) (kX9_hasRead er1) ?_
  refine R_constI DX9_hourHere_7 ci_1 ?_
  refine R_isub DX9_hourHere_8 ?_
  obtain ⟨r2, er2, h⟩ := bind_some h
  refine R_cV1 [.int (iI 0), .int (r1.1 - (iI 1))] DX9_hourHere_9 kzvX9_number ml_RX9_167 ⟨Nat.le_of_ble_eq_true rfl, Nat.le_of_ble_eq_true rfl⟩ rfl (Nat.le_of_ble_eq_true rfl) (kX9_number er2) ?_
  cases h
  exact R_ireturn rfl DX9_hourHere_12
set_option maxRecDepth 8000 in
theorem tX9_windLine_b182 {G : Gm} {x0 : Nat} {x1 : Int32} {x2 : Int32} {x3 : Int32} {x4 : Int32} {s : Hp} {o : Option Value × Hp} {w : (Int32 × Hp) ⊕ ((Hp))} (h : fX9_windLine_b182 x0 x1 x2 x3 x4 s = some w) (hc : ∀ (q4 : Int32) (qs : Hp), w = .inl (q4, qs) → R G MX9_windLine 132 [(0, .ref x0), (1, .int x1), (2, .int x2), (3, .int x3), (4, .int q4)] [] qs o) (he0 : ∀ (qs : Hp), w = .inr qs → R G MX9_windLine 188 [] [] qs o) : R G MX9_windLine 182 [(0, .ref x0), (1, .int x1), (2, .int x2), (3, .int x3), (4, .int x4)] [] s o := by
  unfold fX9_windLine_b182 at h
  refine R_iinc [(4, .int (x4 + iI 1)), (0, .ref x0), (1, .int x1), (2, .int x2), (3, .int x3)] DX9_windLine_182 4 rfl (v := x4 + iI 1) (by rfl) (by decide) rfl ?_
  refine R_goto DX9_windLine_185 ?_
  refine R.sub (L' := [(0, .ref x0), (1, .int x1), (2, .int x2), (3, .int x3), (4, .int (x4 + iI 1))]) [1, 2, 3, 4, 0] rfl ?_
  cases h
  exact hc _ _ rfl
set_option maxRecDepth 8000 in
theorem tX9_windLine_l132 {G : Gm} {x0 : Nat} {x1 : Int32} {x2 : Int32} {x3 : Int32} {o : Option Value × Hp} {a : Int32 × Hp} {w : (Int32 × Hp) ⊕ ((Hp))} (h : fX9_windLine_l132 x0 x1 x2 x3 a = some w) (hc : ∀ (q4 : Int32) (qs : Hp), w = .inl (q4, qs) → R G MX9_windLine 132 [(0, .ref x0), (1, .int x1), (2, .int x2), (3, .int x3), (4, .int q4)] [] qs o) (he0 : ∀ (qs : Hp), w = .inr qs → R G MX9_windLine 188 [] [] qs o) : R G MX9_windLine 132 [(0, .ref x0), (1, .int x1), (2, .int x2), (3, .int x3), (4, .int a.1)] [] a.2 o := by
  unfold fX9_windLine_l132 at h
  refine R_iload DX9_windLine_132 4 rfl ?_
  refine R_constI DX9_windLine_134 ci_24 ?_
  by_cases c21 : (iI 24) ≤ a.1
  · replace h := if_t h c21
    refine R_icmp_ge_t DX9_windLine_136 c21 ?_
    refine R.sub (L' := []) [] rfl ?_
    cases h
    exact he0 _ rfl
  · replace h := if_f h c21
    refine R_icmp_ge_f DX9_windLine_136 c21 ?_
    refine R_constI DX9_windLine_139 ci_24 ?_
    refine R_iload DX9_windLine_141 1 rfl ?_
    refine R_imul DX9_windLine_142 ?_
    refine R_iload DX9_windLine_143 4 rfl ?_
    refine R_iadd DX9_windLine_145 ?_
    obtain ⟨z22, ez22, h⟩ := lt_some h
    refine R_istoreE ez22 [(5, .int z22), (0, .ref x0), (1, .int x1), (2, .int x2), (3, .int x3), (4, .int a.1)] DX9_windLine_146 (by decide) rfl ?_
    refine R_aload DX9_windLine_148 1 rfl ?_
    obtain ⟨v23, ev23, h⟩ := bind_some h
    refine R_gR DX9_windLine_149 fl_RX9_40 ev23 ?_
    refine R_iload DX9_windLine_152 0 rfl ?_
    obtain ⟨v24, ev24, h⟩ := bind_some h
    refine R_aI DX9_windLine_154 ev24 ?_
    refine R_iload DX9_windLine_155 3 rfl ?_
    by_cases c25 : v24 ≤ x2
    · replace h := if_t h c25
      refine R_icmp_le_t DX9_windLine_156 c25 ?_
      refine R_aload DX9_windLine_162 1 rfl ?_
      obtain ⟨v26, ev26, h⟩ := bind_some h
      refine R_gR DX9_windLine_163 fl_RX9_40 ev26 ?_
      refine R_iload DX9_windLine_166 0 rfl ?_
      refine R_iload DX9_windLine_168 3 rfl ?_
      obtain ⟨s27, es27, h⟩ := bind_some h
      refine R_sI DX9_windLine_169 es27 ?_
      refine R_aload DX9_windLine_170 1 rfl ?_
      obtain ⟨v28, ev28, h⟩ := bind_some h
      refine R_gR DX9_windLine_171 fl_RX9_37 ev28 ?_
      refine R_constI DX9_windLine_174 ci_480 ?_
      refine R_iload DX9_windLine_177 0 rfl ?_
      refine R_iadd DX9_windLine_179 ?_
      refine R_iload DX9_windLine_180 4 rfl ?_
      obtain ⟨s29, es29, h⟩ := bind_some h
      refine R_sI DX9_windLine_181 es29 ?_
      refine R.sub (L' := [(0, .ref x0), (1, .int x1), (2, .int x2), (3, .int x3), (4, .int a.1)]) [1, 2, 3, 4, 5] rfl ?_
      exact tX9_windLine_b182 h hc he0
    · replace h := if_f h c25
      refine R_icmp_le_f DX9_windLine_156 c25 ?_
      refine R_goto DX9_windLine_159 ?_
      refine R.sub (L' := [(0, .ref x0), (1, .int x1), (2, .int x2), (3, .int x3), (4, .int a.1)]) [1, 2, 3, 4, 5] rfl ?_
      exact tX9_windLine_b182 h hc he0
set_option maxRecDepth 8000 in
theorem tX9_windLine_b107 {G : Gm} {x0 : Nat} {x1 : Int32} {x2 : Int32} {x3 : Int32} {s : Hp} {w : Hp} (h : fX9_windLine_b107 x0 x1 x2 x3 s = some w) : R G MX9_windLine 107 [(0, .ref x0), (1, .int x1), (2, .int x2), (3, .int x3)] [] s (none, w) := by
  unfold fX9_windLine_b107 at h
  refine R_aload DX9_windLine_107 0 rfl ?_
  obtain ⟨v16, ev16, h⟩ := bind_some h
  refine R_gI DX9_windLine_108 fl_RX9_144 ev16 ?_
  by_cases c17 : v16 = 0
  · replace h := if_t h c17
    refine R_if_eq_t DX9_windLine_111 c17 ?_
    refine R_aload DX9_windLine_115 0 rfl ?_
    obtain ⟨s18, es18, h⟩ := bind_some h
    refine R_cV0 [] DX9_windLine_116 kzvX9_next ml_RX9_154 ⟨Nat.le_of_ble_eq_true rfl, Nat.le_of_ble_eq_true rfl⟩ rfl (Nat.le_of_ble_eq_true rfl) (kX9_next es18) ?_
    refine R_aload DX9_windLine_119 0 rfl ?_
    refine R_dup DX9_windLine_120 rfl ?_
    obtain ⟨v19, ev19, h⟩ := bind_some h
    refine R_gI DX9_windLine_121 fl_RX9_213 ev19 ?_
    refine R_constI DX9_windLine_124 ci_1 ?_
    refine R_iadd DX9_windLine_125 ?_
    obtain ⟨s20, es20, h⟩ := bind_some h
    refine R_pI DX9_windLine_126 fl_RX9_213 es20 ?_
    refine R_iload DX9_windLine_129 2 rfl ?_
    refine R_istore [(4, .int x2), (0, .ref x0), (1, .int x1), (2, .int x2), (3, .int x3)] DX9_windLine_130 (by decide) rfl ?_
    refine R.sub (L' := [(0, .ref x0), (1, .int x1), (2, .int x2), (3, .int x3), (4, .int x2)]) [1, 2, 3, 4, 0] rfl ?_
    obtain ⟨r30, hi, h⟩ := bind_some h
    have hE : (fun u132 : Hp => R G MX9_windLine 188 [] [] u132 (none, w)) r30 → ∀ (q4 : Int32) (qs : Hp), iter (fX9_windLine_l132 x0 x1 x2 x3) FU (q4, qs) = some r30 → R G MX9_windLine 132 [(0, .ref x0), (1, .int x1), (2, .int x2), (3, .int x3), (4, .int q4)] [] qs (none, w) := fun hX q4 qs hj => loop_R (fX9_windLine_l132 x0 x1 x2 x3) (fun p132 : Int32 × Hp => R G MX9_windLine 132 [(0, .ref x0), (1, .int x1), (2, .int x2), (3, .int x3), (4, .int p132.1)] [] p132.2 (none, w)) (fun u132 : Hp => R G MX9_windLine 188 [] [] u132 (none, w)) (fun a w hw hc he => tX9_windLine_l132 hw (fun q4 qs e => hc (q4, qs) e) (fun qs e => he qs e)) FU (q4, qs) r30 hj hX
    refine hE ?_ _ _ hi
    clear hE hi
    cases h
    exact R_return rfl DX9_windLine_188
  · replace h := if_f h c17
    refine R_if_eq_f DX9_windLine_111 c17 ?_
    cases h
    exact R_return rfl DX9_windLine_114
set_option maxRecDepth 8000 in
theorem tX9_windLine_b96 {G : Gm} {x0 : Nat} {x1 : Int32} {x2 : Int32} {y0 : Int32} {s : Hp} {w : Hp} (h : fX9_windLine_b96 x0 x1 x2 y0 s = some w) : R G MX9_windLine 96 [(0, .ref x0), (1, .int x1), (2, .int x2)] [.int y0] s (none, w) := by
  unfold fX9_windLine_b96 at h
  refine R_istore [(3, .int y0), (0, .ref x0), (1, .int x1), (2, .int x2)] DX9_windLine_96 (by decide) rfl ?_
  refine R_iload DX9_windLine_97 0 rfl ?_
  refine R_constI DX9_windLine_98 ci_m1 ?_
  by_cases c15 : y0 = (iI (-1))
  · replace h := if_t h c15
    refine R_icmp_ne_f DX9_windLine_99 c15 ?_
    refine R_aload DX9_windLine_102 1 rfl ?_
    refine R_constI DX9_windLine_103 ci_1 ?_
    obtain ⟨s31, es31, h⟩ := bind_some h
    refine R_cV0 [.int (iI 1)] DX9_windLine_104 kzvX9_fails ml_RX9_160 ⟨Nat.le_of_ble_eq_true rfl, Nat.le_of_ble_eq_true rfl⟩ rfl (Nat.le_of_ble_eq_true rfl) (kX9_fails es31) ?_
    refine R.sub (L' := [(0, .ref x0), (1, .int x1), (2, .int x2), (3, .int y0)]) [1, 2, 3, 0] rfl ?_
    exact tX9_windLine_b107 h
  · replace h := if_f h c15
    refine R_icmp_ne_t DX9_windLine_99 c15 ?_
    refine R.sub (L' := [(0, .ref x0), (1, .int x1), (2, .int x2), (3, .int y0)]) [1, 2, 3, 0] rfl ?_
    exact tX9_windLine_b107 h
set_option maxRecDepth 8000 in
theorem kX9_windLine {G : Gm} {x0 : Nat} {s : Hp} {w : Hp} (h : fX9_windLine x0 s = some w) : (s.2.2 x0).1 = 9 ∧ Call G MX9_windLine [.ref x0] s (none, w) := by
  unfold fX9_windLine at h
  obtain ⟨_, e0, h⟩ := bind_some h
  refine ⟨ck_some e0, Call.of_R pnRX9 (Nat.le_of_ble_eq_true rfl) ?_⟩
  clear e0
  show R G MX9_windLine 0 [(0, .ref x0)] [] s (none, w)
  refine R_aload DX9_windLine_0 0 rfl ?_
  refine R_constI DX9_windLine_1 ci_1 ?_
  refine R_aload DX9_windLine_2 0 rfl ?_
  refine R_constI DX9_windLine_3 ci_2 ?_
  obtain ⟨r1, er1, h⟩ := bind_some h
  refine R_cV1 [.int (iI 2)] DX9_windLine_4 kzvX9_hasRead ml_RX9_193 ⟨Nat.le_of_ble_eq_true rfl, Nat.le_of_ble_eq_true rfl⟩ rfl (Nat.le_of_ble_eq_true rfl) (kX9_hasRead er1) ?_
  refine R_constI DX9_windLine_7 ci_1 ?_
  refine R_isub DX9_windLine_8 ?_
  obtain ⟨r2, er2, h⟩ := bind_some h
  refine R_cV1 [.int (iI 1), .int (r1.1 - (iI 1))] DX9_windLine_9 kzvX9_number ml_RX9_167 ⟨Nat.le_of_ble_eq_true rfl, Nat.le_of_ble_eq_true rfl⟩ rfl (Nat.le_of_ble_eq_true rfl) (kX9_number er2) ?_
  refine R_istore [(1, .int r2.1), (0, .ref x0)] DX9_windLine_12 (by decide) rfl ?_
  refine R_aload DX9_windLine_13 1 rfl ?_
  refine R_ldc2 DX9_windLine_14 cw_RX9_197 ?_
  obtain ⟨s3, es3, h⟩ := bind_some h
  refine R_cV0 [.long 131638] DX9_windLine_17 kzvX9_asks ml_RX9_163 ⟨Nat.le_of_ble_eq_true rfl, Nat.le_of_ble_eq_true rfl⟩ rfl (Nat.le_of_ble_eq_true rfl) (kX9_asks es3) ?_
  refine R_aload DX9_windLine_20 1 rfl ?_
  obtain ⟨r4, er4, h⟩ := bind_some h
  refine R_cV1 [] DX9_windLine_21 kzvX9_hourHere ml_RX9_199 ⟨Nat.le_of_ble_eq_true rfl, Nat.le_of_ble_eq_true rfl⟩ rfl (Nat.le_of_ble_eq_true rfl) (kX9_hourHere er4) ?_
  refine R_istore [(2, .int r4.1), (1, .int r2.1), (0, .ref x0)] DX9_windLine_24 (by decide) rfl ?_
  refine R_aload DX9_windLine_25 2 rfl ?_
  refine R_ldc2 DX9_windLine_26 cw_RX9_203 ?_
  obtain ⟨r5, er5, h⟩ := bind_some h
  refine R_cV1 [.long 10497936] DX9_windLine_29 kzvX9_is ml_RX9_150 ⟨Nat.le_of_ble_eq_true rfl, Nat.le_of_ble_eq_true rfl⟩ rfl (Nat.le_of_ble_eq_true rfl) (kX9_is er5) ?_
  by_cases c6 : r5.1 = 0
  · replace h := if_t h c6
    refine R_if_eq_t DX9_windLine_32 c6 ?_
    refine R_aload DX9_windLine_39 2 rfl ?_
    refine R_ldc2 DX9_windLine_40 cw_RX9_205 ?_
    obtain ⟨r7, er7, h⟩ := bind_some h
    refine R_cV1 [.long 7749089] DX9_windLine_43 kzvX9_is ml_RX9_150 ⟨Nat.le_of_ble_eq_true rfl, Nat.le_of_ble_eq_true rfl⟩ rfl (Nat.le_of_ble_eq_true rfl) (kX9_is er7) ?_
    by_cases c8 : r7.1 = 0
    · replace h := if_t h c8
      refine R_if_eq_t DX9_windLine_46 c8 ?_
      refine R_aload DX9_windLine_53 2 rfl ?_
      refine R_ldc2 DX9_windLine_54 cw_RX9_207 ?_
      obtain ⟨r9, er9, h⟩ := bind_some h
      refine R_cV1 [.long 99677] DX9_windLine_57 kzvX9_is ml_RX9_150 ⟨Nat.le_of_ble_eq_true rfl, Nat.le_of_ble_eq_true rfl⟩ rfl (Nat.le_of_ble_eq_true rfl) (kX9_is er9) ?_
      by_cases c10 : r9.1 = 0
      · replace h := if_t h c10
        refine R_if_eq_t DX9_windLine_60 c10 ?_
        refine R_aload DX9_windLine_67 2 rfl ?_
        refine R_ldc2 DX9_windLine_68 cw_RX9_209 ?_
        obtain ⟨r11, er11, h⟩ := bind_some h
        refine R_cV1 [.long 10408481] DX9_windLine_71 kzvX9_is ml_RX9_150 ⟨Nat.le_of_ble_eq_true rfl, Nat.le_of_ble_eq_true rfl⟩ rfl (Nat.le_of_ble_eq_true rfl) (kX9_is er11) ?_
        by_cases c12 : r11.1 = 0
        · replace h := if_t h c12
          refine R_if_eq_t DX9_windLine_74 c12 ?_
          refine R_aload DX9_windLine_81 2 rfl ?_
          refine R_ldc2 DX9_windLine_82 cw_RX9_211 ?_
          obtain ⟨r13, er13, h⟩ := bind_some h
          refine R_cV1 [.long 456887] DX9_windLine_85 kzvX9_is ml_RX9_150 ⟨Nat.le_of_ble_eq_true rfl, Nat.le_of_ble_eq_true rfl⟩ rfl (Nat.le_of_ble_eq_true rfl) (kX9_is er13) ?_
          by_cases c14 : r13.1 = 0
          · replace h := if_t h c14
            refine R_if_eq_t DX9_windLine_88 c14 ?_
            refine R_constI DX9_windLine_95 ci_m1 ?_
            refine R.sub (L' := [(0, .ref x0), (1, .int r2.1), (2, .int r4.1)]) [2, 1, 0] rfl ?_
            exact tX9_windLine_b96 h
          · replace h := if_f h c14
            refine R_if_eq_f DX9_windLine_88 c14 ?_
            refine R_constI DX9_windLine_91 ci_4 ?_
            refine R_goto DX9_windLine_92 ?_
            refine R.sub (L' := [(0, .ref x0), (1, .int r2.1), (2, .int r4.1)]) [2, 1, 0] rfl ?_
            exact tX9_windLine_b96 h
        · replace h := if_f h c12
          refine R_if_eq_f DX9_windLine_74 c12 ?_
          refine R_constI DX9_windLine_77 ci_3 ?_
          refine R_goto DX9_windLine_78 ?_
          refine R.sub (L' := [(0, .ref x0), (1, .int r2.1), (2, .int r4.1)]) [2, 1, 0] rfl ?_
          exact tX9_windLine_b96 h
      · replace h := if_f h c10
        refine R_if_eq_f DX9_windLine_60 c10 ?_
        refine R_constI DX9_windLine_63 ci_2 ?_
        refine R_goto DX9_windLine_64 ?_
        refine R.sub (L' := [(0, .ref x0), (1, .int r2.1), (2, .int r4.1)]) [2, 1, 0] rfl ?_
        exact tX9_windLine_b96 h
    · replace h := if_f h c8
      refine R_if_eq_f DX9_windLine_46 c8 ?_
      refine R_constI DX9_windLine_49 ci_1 ?_
      refine R_goto DX9_windLine_50 ?_
      refine R.sub (L' := [(0, .ref x0), (1, .int r2.1), (2, .int r4.1)]) [2, 1, 0] rfl ?_
      exact tX9_windLine_b96 h
  · replace h := if_f h c6
    refine R_if_eq_f DX9_windLine_32 c6 ?_
    refine R_constI DX9_windLine_35 ci_0 ?_
    refine R_goto DX9_windLine_36 ?_
    refine R.sub (L' := [(0, .ref x0), (1, .int r2.1), (2, .int r4.1)]) [2, 1, 0] rfl ?_
    exact tX9_windLine_b96 h
set_option maxRecDepth 8000 in
theorem tX9_shopLine_l118 {G : Gm} {x0 : Nat} {o : Option Value × Hp} {a : Int32 × Hp} {w : (Int32 × Hp) ⊕ ((Hp))} (h : fX9_shopLine_l118 x0 a = some w) (hc : ∀ (q2 : Int32) (qs : Hp), w = .inl (q2, qs) → R G MX9_shopLine 118 [(0, .ref x0), (2, .int q2)] [] qs o) (he0 : ∀ (qs : Hp), w = .inr qs → R G MX9_shopLine 150 [(0, .ref x0)] [] qs o) : R G MX9_shopLine 118 [(0, .ref x0), (2, .int a.1)] [] a.2 o := by
  unfold fX9_shopLine_l118 at h
  refine R_iload DX9_shopLine_118 1 rfl ?_
  refine R_constI DX9_shopLine_119 ci_24 ?_
  by_cases c23 : (iI 24) ≤ a.1
  · replace h := if_t h c23
    refine R_icmp_ge_t DX9_shopLine_121 c23 ?_
    refine R.sub (L' := [(0, .ref x0)]) [0] rfl ?_
    cases h
    exact he0 _ rfl
  · replace h := if_f h c23
    refine R_icmp_ge_f DX9_shopLine_121 c23 ?_
    refine R_aload DX9_shopLine_124 0 rfl ?_
    obtain ⟨v24, ev24, h⟩ := bind_some h
    refine R_gR DX9_shopLine_125 fl_RX9_49 ev24 ?_
    refine R_constI DX9_shopLine_128 ci_24 ?_
    refine R_constI DX9_shopLine_130 ci_16 ?_
    refine R_aload DX9_shopLine_132 0 rfl ?_
    refine R_constI DX9_shopLine_133 ci_7 ?_
    obtain ⟨r25, er25, h⟩ := bind_some h
    refine R_cV1 [.int (iI 7)] DX9_shopLine_135 kzvX9_hasRead ml_RX9_193 ⟨Nat.le_of_ble_eq_true rfl, Nat.le_of_ble_eq_true rfl⟩ rfl (Nat.le_of_ble_eq_true rfl) (kX9_hasRead er25) ?_
    refine R_iadd DX9_shopLine_138 ?_
    refine R_imul DX9_shopLine_139 ?_
    refine R_iload DX9_shopLine_140 1 rfl ?_
    refine R_iadd DX9_shopLine_141 ?_
    refine R_constI DX9_shopLine_142 ci_0 ?_
    obtain ⟨s26, es26, h⟩ := bind_some h
    refine R_sI DX9_shopLine_143 es26 ?_
    refine R_iinc [(2, .int (a.1 + iI 1)), (0, .ref x0)] DX9_shopLine_144 1 rfl (v := a.1 + iI 1) (by rfl) (by decide) rfl ?_
    refine R_goto DX9_shopLine_147 ?_
    refine R.sub (L' := [(0, .ref x0), (2, .int (a.1 + iI 1))]) [1, 0] rfl ?_
    cases h
    exact hc _ _ rfl
set_option maxRecDepth 8000 in
theorem kX9_shopLine {G : Gm} {x0 : Nat} {s : Hp} {w : Hp} (h : fX9_shopLine x0 s = some w) : (s.2.2 x0).1 = 9 ∧ Call G MX9_shopLine [.ref x0] s (none, w) := by
  unfold fX9_shopLine at h
  obtain ⟨_, e0, h⟩ := bind_some h
  refine ⟨ck_some e0, Call.of_R pnRX9 (Nat.le_of_ble_eq_true rfl) ?_⟩
  clear e0
  show R G MX9_shopLine 0 [(0, .ref x0)] [] s (none, w)
  refine R_constI DX9_shopLine_0 ci_6 ?_
  refine R_constI DX9_shopLine_2 ci_16 ?_
  refine R_aload DX9_shopLine_4 0 rfl ?_
  refine R_constI DX9_shopLine_5 ci_7 ?_
  obtain ⟨r1, er1, h⟩ := bind_some h
  refine R_cV1 [.int (iI 7)] DX9_shopLine_7 kzvX9_hasRead ml_RX9_193 ⟨Nat.le_of_ble_eq_true rfl, Nat.le_of_ble_eq_true rfl⟩ rfl (Nat.le_of_ble_eq_true rfl) (kX9_hasRead er1) ?_
  refine R_iadd DX9_shopLine_10 ?_
  refine R_imul DX9_shopLine_11 ?_
  obtain ⟨z2, ez2, h⟩ := lt_some h
  refine R_istoreE ez2 [(1, .int z2), (0, .ref x0)] DX9_shopLine_12 (by decide) rfl ?_
  refine R_aload DX9_shopLine_13 1 rfl ?_
  refine R_ldc2 DX9_shopLine_14 cw_RX9_216 ?_
  obtain ⟨s3, es3, h⟩ := bind_some h
  refine R_cV0 [.long 47] DX9_shopLine_17 kzvX9_asks ml_RX9_163 ⟨Nat.le_of_ble_eq_true rfl, Nat.le_of_ble_eq_true rfl⟩ rfl (Nat.le_of_ble_eq_true rfl) (kX9_asks es3) ?_
  refine R_aload DX9_shopLine_20 1 rfl ?_
  obtain ⟨v4, ev4, h⟩ := bind_some h
  refine R_gR DX9_shopLine_21 fl_RX9_43 ev4 ?_
  refine R_iload DX9_shopLine_24 0 rfl ?_
  refine R_aload DX9_shopLine_25 1 rfl ?_
  obtain ⟨r5, er5, h⟩ := bind_some h
  refine R_cV1 [] DX9_shopLine_26 kzvX9_xHere ml_RX9_218 ⟨Nat.le_of_ble_eq_true rfl, Nat.le_of_ble_eq_true rfl⟩ rfl (Nat.le_of_ble_eq_true rfl) (kX9_xHere er5) ?_
  obtain ⟨s6, es6, h⟩ := bind_some h
  refine R_sI DX9_shopLine_29 es6 ?_
  refine R_aload DX9_shopLine_30 1 rfl ?_
  obtain ⟨v7, ev7, h⟩ := bind_some h
  refine R_gR DX9_shopLine_31 fl_RX9_43 ev7 ?_
  refine R_iload DX9_shopLine_34 0 rfl ?_
  refine R_constI DX9_shopLine_35 ci_1 ?_
  refine R_iadd DX9_shopLine_36 ?_
  refine R_aload DX9_shopLine_37 1 rfl ?_
  obtain ⟨r8, er8, h⟩ := bind_some h
  refine R_cV1 [] DX9_shopLine_38 kzvX9_yHere ml_RX9_221 ⟨Nat.le_of_ble_eq_true rfl, Nat.le_of_ble_eq_true rfl⟩ rfl (Nat.le_of_ble_eq_true rfl) (kX9_yHere er8) ?_
  obtain ⟨s9, es9, h⟩ := bind_some h
  refine R_sI DX9_shopLine_41 es9 ?_
  refine R_aload DX9_shopLine_42 1 rfl ?_
  obtain ⟨v10, ev10, h⟩ := bind_some h
  refine R_gR DX9_shopLine_43 fl_RX9_43 ev10 ?_
  refine R_iload DX9_shopLine_46 0 rfl ?_
  refine R_constI DX9_shopLine_47 ci_2 ?_
  refine R_iadd DX9_shopLine_48 ?_
  refine R_aload DX9_shopLine_49 1 rfl ?_
  refine R_constI DX9_shopLine_50 ci_0 ?_
  refine R_aload DX9_shopLine_51 1 rfl ?_
  refine R_constI DX9_shopLine_52 ci_2 ?_
  obtain ⟨r11, er11, h⟩ := bind_some h
  refine R_cV1 [.int (iI 2)] DX9_shopLine_53 kzvX9_hasRead ml_RX9_193 ⟨Nat.le_of_ble_eq_true rfl, Nat.le_of_ble_eq_true rfl⟩ rfl (Nat.le_of_ble_eq_true rfl) (kX9_hasRead er11) ?_
  refine R_constI DX9_shopLine_56 ci_1 ?_
  refine R_isub DX9_shopLine_57 ?_
  obtain ⟨r12, er12, h⟩ := bind_some h
  refine R_cV1 [.int (iI 0), .int (r11.1 - (iI 1))] DX9_shopLine_58 kzvX9_number ml_RX9_167 ⟨Nat.le_of_ble_eq_true rfl, Nat.le_of_ble_eq_true rfl⟩ rfl (Nat.le_of_ble_eq_true rfl) (kX9_number er12) ?_
  obtain ⟨s13, es13, h⟩ := bind_some h
  refine R_sI DX9_shopLine_61 es13 ?_
  refine R_aload DX9_shopLine_62 1 rfl ?_
  obtain ⟨v14, ev14, h⟩ := bind_some h
  refine R_gR DX9_shopLine_63 fl_RX9_43 ev14 ?_
  refine R_iload DX9_shopLine_66 0 rfl ?_
  refine R_constI DX9_shopLine_67 ci_3 ?_
  refine R_iadd DX9_shopLine_68 ?_
  refine R_aload DX9_shopLine_69 1 rfl ?_
  refine R_ldc2 DX9_shopLine_70 cw_RX9_224 ?_
  refine R_constI DX9_shopLine_73 ci_0 ?_
  refine R_constI DX9_shopLine_74 ci_9 ?_
  obtain ⟨r15, er15, h⟩ := bind_some h
  refine R_cV1 [.long 375088, .int (iI 0), .int (iI 9)] DX9_shopLine_76 kzvX9_number_ ml_RX9_178 ⟨Nat.le_of_ble_eq_true rfl, Nat.le_of_ble_eq_true rfl⟩ rfl (Nat.le_of_ble_eq_true rfl) (kX9_number_ er15) ?_
  obtain ⟨s16, es16, h⟩ := bind_some h
  refine R_sI DX9_shopLine_79 es16 ?_
  refine R_aload DX9_shopLine_80 1 rfl ?_
  obtain ⟨v17, ev17, h⟩ := bind_some h
  refine R_gR DX9_shopLine_81 fl_RX9_43 ev17 ?_
  refine R_iload DX9_shopLine_84 0 rfl ?_
  refine R_constI DX9_shopLine_85 ci_4 ?_
  refine R_iadd DX9_shopLine_86 ?_
  refine R_aload DX9_shopLine_87 1 rfl ?_
  refine R_ldc2 DX9_shopLine_88 cw_RX9_226 ?_
  refine R_constI DX9_shopLine_91 ci_0 ?_
  refine R_constI DX9_shopLine_92 ci_9 ?_
  obtain ⟨r18, er18, h⟩ := bind_some h
  refine R_cV1 [.long 5149, .int (iI 0), .int (iI 9)] DX9_shopLine_94 kzvX9_number_ ml_RX9_178 ⟨Nat.le_of_ble_eq_true rfl, Nat.le_of_ble_eq_true rfl⟩ rfl (Nat.le_of_ble_eq_true rfl) (kX9_number_ er18) ?_
  obtain ⟨s19, es19, h⟩ := bind_some h
  refine R_sI DX9_shopLine_97 es19 ?_
  refine R_aload DX9_shopLine_98 1 rfl ?_
  obtain ⟨v20, ev20, h⟩ := bind_some h
  refine R_gR DX9_shopLine_99 fl_RX9_43 ev20 ?_
  refine R_iload DX9_shopLine_102 0 rfl ?_
  refine R_constI DX9_shopLine_103 ci_5 ?_
  refine R_iadd DX9_shopLine_104 ?_
  refine R_aload DX9_shopLine_105 1 rfl ?_
  refine R_ldc2 DX9_shopLine_106 cw_RX9_228 ?_
  refine R_constI DX9_shopLine_109 ci_0 ?_
  refine R_constI DX9_shopLine_110 ci_9 ?_
  obtain ⟨r21, er21, h⟩ := bind_some h
  refine R_cV1 [.long 4026394, .int (iI 0), .int (iI 9)] DX9_shopLine_112 kzvX9_number_ ml_RX9_178 ⟨Nat.le_of_ble_eq_true rfl, Nat.le_of_ble_eq_true rfl⟩ rfl (Nat.le_of_ble_eq_true rfl) (kX9_number_ er21) ?_
  obtain ⟨s22, es22, h⟩ := bind_some h
  refine R_sI DX9_shopLine_115 es22 ?_
  refine R_constI DX9_shopLine_116 ci_0 ?_
  refine R_istore [(2, .int (iI 0)), (1, .int z2), (0, .ref x0)] DX9_shopLine_117 (by decide) rfl ?_
  refine R.sub (L' := [(0, .ref x0), (2, .int (iI 0))]) [2, 0] rfl ?_
  obtain ⟨r27, hi, h⟩ := bind_some h
  have hE : (fun u118 : Hp => R G MX9_shopLine 150 [(0, .ref x0)] [] u118 (none, w)) r27 → ∀ (q2 : Int32) (qs : Hp), iter (fX9_shopLine_l118 x0) FU (q2, qs) = some r27 → R G MX9_shopLine 118 [(0, .ref x0), (2, .int q2)] [] qs (none, w) := fun hX q2 qs hj => loop_R (fX9_shopLine_l118 x0) (fun p118 : Int32 × Hp => R G MX9_shopLine 118 [(0, .ref x0), (2, .int p118.1)] [] p118.2 (none, w)) (fun u118 : Hp => R G MX9_shopLine 150 [(0, .ref x0)] [] u118 (none, w)) (fun a w hw hc he => tX9_shopLine_l118 hw (fun q2 qs e => hc (q2, qs) e) (fun qs e => he qs e)) FU (q2, qs) r27 hj hX
  refine hE ?_ _ _ hi
  clear hE hi
  refine R_aload DX9_shopLine_150 0 rfl ?_
  refine R_constI DX9_shopLine_151 ci_7 ?_
  refine R_aload DX9_shopLine_153 0 rfl ?_
  refine R_constI DX9_shopLine_154 ci_7 ?_
  obtain ⟨r28, er28, h⟩ := bind_some h
  refine R_cV1 [.int (iI 7)] DX9_shopLine_156 kzvX9_hasRead ml_RX9_193 ⟨Nat.le_of_ble_eq_true rfl, Nat.le_of_ble_eq_true rfl⟩ rfl (Nat.le_of_ble_eq_true rfl) (kX9_hasRead er28) ?_
  refine R_constI DX9_shopLine_159 ci_1 ?_
  refine R_iadd DX9_shopLine_160 ?_
  obtain ⟨s29, es29, h⟩ := bind_some h
  refine R_cV0 [.int (iI 7), .int (r28.1 + (iI 1))] DX9_shopLine_161 kzvX9_reads ml_RX9_181 ⟨Nat.le_of_ble_eq_true rfl, Nat.le_of_ble_eq_true rfl⟩ rfl (Nat.le_of_ble_eq_true rfl) (kX9_reads es29) ?_
  cases h
  exact R_return rfl DX9_shopLine_164
set_option maxRecDepth 8000 in
theorem tX9_doorLine_b119 {G : Gm} {x0 : Nat} {x1 : Int32} {s : Hp} {w : Hp} (h : fX9_doorLine_b119 x0 x1 s = some w) : R G MX9_doorLine 119 [(0, .ref x0), (1, .int x1)] [] s (none, w) := by
  unfold fX9_doorLine_b119 at h
  refine R_aload DX9_doorLine_119 0 rfl ?_
  obtain ⟨v9, ev9, h⟩ := bind_some h
  refine R_gR DX9_doorLine_120 fl_RX9_46 ev9 ?_
  refine R_iload DX9_doorLine_123 1 rfl ?_
  refine R_constI DX9_doorLine_124 ci_1 ?_
  refine R_iadd DX9_doorLine_125 ?_
  refine R_aload DX9_doorLine_126 0 rfl ?_
  obtain ⟨r10, er10, h⟩ := bind_some h
  refine R_cV1 [] DX9_doorLine_127 kzvX9_yHere ml_RX9_221 ⟨Nat.le_of_ble_eq_true rfl, Nat.le_of_ble_eq_true rfl⟩ rfl (Nat.le_of_ble_eq_true rfl) (kX9_yHere er10) ?_
  obtain ⟨s11, es11, h⟩ := bind_some h
  refine R_sI DX9_doorLine_130 es11 ?_
  refine R_aload DX9_doorLine_131 0 rfl ?_
  obtain ⟨v12, ev12, h⟩ := bind_some h
  refine R_gR DX9_doorLine_132 fl_RX9_46 ev12 ?_
  refine R_iload DX9_doorLine_135 1 rfl ?_
  refine R_constI DX9_doorLine_136 ci_2 ?_
  refine R_iadd DX9_doorLine_137 ?_
  refine R_aload DX9_doorLine_138 0 rfl ?_
  refine R_ldc2 DX9_doorLine_139 cw_RX9_230 ?_
  refine R_constI DX9_doorLine_142 ci_0 ?_
  refine R_constI DX9_doorLine_143 ci_9 ?_
  obtain ⟨r13, er13, h⟩ := bind_some h
  refine R_cV1 [.long 12253591, .int (iI 0), .int (iI 9)] DX9_doorLine_145 kzvX9_number_ ml_RX9_178 ⟨Nat.le_of_ble_eq_true rfl, Nat.le_of_ble_eq_true rfl⟩ rfl (Nat.le_of_ble_eq_true rfl) (kX9_number_ er13) ?_
  obtain ⟨s14, es14, h⟩ := bind_some h
  refine R_sI DX9_doorLine_148 es14 ?_
  refine R_aload DX9_doorLine_149 0 rfl ?_
  refine R_constI DX9_doorLine_150 ci_8 ?_
  refine R_aload DX9_doorLine_152 0 rfl ?_
  refine R_constI DX9_doorLine_153 ci_8 ?_
  obtain ⟨r15, er15, h⟩ := bind_some h
  refine R_cV1 [.int (iI 8)] DX9_doorLine_155 kzvX9_hasRead ml_RX9_193 ⟨Nat.le_of_ble_eq_true rfl, Nat.le_of_ble_eq_true rfl⟩ rfl (Nat.le_of_ble_eq_true rfl) (kX9_hasRead er15) ?_
  refine R_constI DX9_doorLine_158 ci_1 ?_
  refine R_iadd DX9_doorLine_159 ?_
  obtain ⟨s16, es16, h⟩ := bind_some h
  refine R_cV0 [.int (iI 8), .int (r15.1 + (iI 1))] DX9_doorLine_160 kzvX9_reads ml_RX9_181 ⟨Nat.le_of_ble_eq_true rfl, Nat.le_of_ble_eq_true rfl⟩ rfl (Nat.le_of_ble_eq_true rfl) (kX9_reads es16) ?_
  cases h
  exact R_return rfl DX9_doorLine_163
set_option maxRecDepth 8000 in
theorem tX9_doorLine_b113 {G : Gm} {x0 : Nat} {x1 : Int32} {x2 : Int32} {s : Hp} {o : Option Value × Hp} {w : (Int32 × Hp) ⊕ ((Hp))} (h : fX9_doorLine_b113 x0 x1 x2 s = some w) (hc : ∀ (q2 : Int32) (qs : Hp), w = .inl (q2, qs) → R G MX9_doorLine 58 [(0, .ref x0), (1, .int x1), (2, .int q2)] [] qs o) (he0 : ∀ (qs : Hp), w = .inr qs → R G MX9_doorLine 119 [(0, .ref x0), (1, .int x1)] [] qs o) : R G MX9_doorLine 113 [(0, .ref x0), (1, .int x1), (2, .int x2)] [] s o := by
  unfold fX9_doorLine_b113 at h
  refine R_iinc [(2, .int (x2 + iI 1)), (0, .ref x0), (1, .int x1)] DX9_doorLine_113 2 rfl (v := x2 + iI 1) (by rfl) (by decide) rfl ?_
  refine R_goto DX9_doorLine_116 ?_
  refine R.sub (L' := [(0, .ref x0), (1, .int x1), (2, .int (x2 + iI 1))]) [1, 2, 0] rfl ?_
  cases h
  exact hc _ _ rfl
set_option maxRecDepth 8000 in
theorem tX9_doorLine_l58 {G : Gm} {x0 : Nat} {x1 : Int32} {o : Option Value × Hp} {a : Int32 × Hp} {w : (Int32 × Hp) ⊕ ((Hp))} (h : fX9_doorLine_l58 x0 x1 a = some w) (hc : ∀ (q2 : Int32) (qs : Hp), w = .inl (q2, qs) → R G MX9_doorLine 58 [(0, .ref x0), (1, .int x1), (2, .int q2)] [] qs o) (he0 : ∀ (qs : Hp), w = .inr qs → R G MX9_doorLine 119 [(0, .ref x0), (1, .int x1)] [] qs o) : R G MX9_doorLine 58 [(0, .ref x0), (1, .int x1), (2, .int a.1)] [] a.2 o := by
  unfold fX9_doorLine_l58 at h
  refine R_iload DX9_doorLine_58 2 rfl ?_
  refine R_aload DX9_doorLine_59 0 rfl ?_
  refine R_constI DX9_doorLine_60 ci_8 ?_
  obtain ⟨r22, er22, h⟩ := bind_some h
  refine R_cV1 [.int (iI 8)] DX9_doorLine_62 kzvX9_hasRead ml_RX9_193 ⟨Nat.le_of_ble_eq_true rfl, Nat.le_of_ble_eq_true rfl⟩ rfl (Nat.le_of_ble_eq_true rfl) (kX9_hasRead er22) ?_
  by_cases c23 : r22.1 ≤ a.1
  · replace h := if_t h c23
    refine R_icmp_ge_t DX9_doorLine_65 c23 ?_
    refine R.sub (L' := [(0, .ref x0), (1, .int x1)]) [0, 1] rfl ?_
    cases h
    exact he0 _ rfl
  · replace h := if_f h c23
    refine R_icmp_ge_f DX9_doorLine_65 c23 ?_
    refine R_aload DX9_doorLine_68 0 rfl ?_
    obtain ⟨v24, ev24, h⟩ := bind_some h
    refine R_gR DX9_doorLine_69 fl_RX9_46 ev24 ?_
    refine R_constI DX9_doorLine_72 ci_3 ?_
    refine R_constI DX9_doorLine_73 ci_20 ?_
    refine R_iload DX9_doorLine_75 2 rfl ?_
    refine R_iadd DX9_doorLine_76 ?_
    refine R_imul DX9_doorLine_77 ?_
    obtain ⟨v25, ev25, h⟩ := bind_some h
    refine R_aI DX9_doorLine_78 ev25 ?_
    refine R_aload DX9_doorLine_79 0 rfl ?_
    obtain ⟨v26, ev26, h⟩ := bind_some h
    refine R_gR DX9_doorLine_80 fl_RX9_46 ev26 ?_
    refine R_iload DX9_doorLine_83 1 rfl ?_
    obtain ⟨v27, ev27, h⟩ := bind_some h
    refine R_aI DX9_doorLine_84 ev27 ?_
    by_cases c28 : v25 = v27
    · replace h := if_t h c28
      refine R_icmp_ne_f DX9_doorLine_85 c28 ?_
      refine R_aload DX9_doorLine_88 0 rfl ?_
      obtain ⟨v29, ev29, h⟩ := bind_some h
      refine R_gR DX9_doorLine_89 fl_RX9_46 ev29 ?_
      refine R_constI DX9_doorLine_92 ci_3 ?_
      refine R_constI DX9_doorLine_93 ci_20 ?_
      refine R_iload DX9_doorLine_95 2 rfl ?_
      refine R_iadd DX9_doorLine_96 ?_
      refine R_imul DX9_doorLine_97 ?_
      refine R_constI DX9_doorLine_98 ci_1 ?_
      refine R_iadd DX9_doorLine_99 ?_
      obtain ⟨v30, ev30, h⟩ := bind_some h
      refine R_aI DX9_doorLine_100 ev30 ?_
      refine R_aload DX9_doorLine_101 0 rfl ?_
      obtain ⟨v31, ev31, h⟩ := bind_some h
      refine R_gI DX9_doorLine_102 fl_RX9_126 ev31 ?_
      by_cases c32 : v30 = v31
      · replace h := if_t h c32
        refine R_icmp_ne_f DX9_doorLine_105 c32 ?_
        refine R_aload DX9_doorLine_108 0 rfl ?_
        refine R_constI DX9_doorLine_109 ci_2 ?_
        obtain ⟨s33, es33, h⟩ := bind_some h
        refine R_cV0 [.int (iI 2)] DX9_doorLine_110 kzvX9_fails ml_RX9_160 ⟨Nat.le_of_ble_eq_true rfl, Nat.le_of_ble_eq_true rfl⟩ rfl (Nat.le_of_ble_eq_true rfl) (kX9_fails es33) ?_
        exact tX9_doorLine_b113 h hc he0
      · replace h := if_f h c32
        refine R_icmp_ne_t DX9_doorLine_105 c32 ?_
        exact tX9_doorLine_b113 h hc he0
    · replace h := if_f h c28
      refine R_icmp_ne_t DX9_doorLine_85 c28 ?_
      exact tX9_doorLine_b113 h hc he0
set_option maxRecDepth 8000 in
theorem kX9_doorLine {G : Gm} {x0 : Nat} {s : Hp} {w : Hp} (h : fX9_doorLine x0 s = some w) : (s.2.2 x0).1 = 9 ∧ Call G MX9_doorLine [.ref x0] s (none, w) := by
  unfold fX9_doorLine at h
  obtain ⟨_, e0, h⟩ := bind_some h
  refine ⟨ck_some e0, Call.of_R pnRX9 (Nat.le_of_ble_eq_true rfl) ?_⟩
  clear e0
  show R G MX9_doorLine 0 [(0, .ref x0)] [] s (none, w)
  refine R_constI DX9_doorLine_0 ci_3 ?_
  refine R_constI DX9_doorLine_1 ci_20 ?_
  refine R_aload DX9_doorLine_3 0 rfl ?_
  refine R_constI DX9_doorLine_4 ci_8 ?_
  obtain ⟨r1, er1, h⟩ := bind_some h
  refine R_cV1 [.int (iI 8)] DX9_doorLine_6 kzvX9_hasRead ml_RX9_193 ⟨Nat.le_of_ble_eq_true rfl, Nat.le_of_ble_eq_true rfl⟩ rfl (Nat.le_of_ble_eq_true rfl) (kX9_hasRead er1) ?_
  refine R_iadd DX9_doorLine_9 ?_
  refine R_imul DX9_doorLine_10 ?_
  obtain ⟨z2, ez2, h⟩ := lt_some h
  refine R_istoreE ez2 [(1, .int z2), (0, .ref x0)] DX9_doorLine_11 (by decide) rfl ?_
  refine R_aload DX9_doorLine_12 1 rfl ?_
  refine R_ldc2 DX9_doorLine_13 cw_RX9_216 ?_
  obtain ⟨s3, es3, h⟩ := bind_some h
  refine R_cV0 [.long 47] DX9_doorLine_16 kzvX9_asks ml_RX9_163 ⟨Nat.le_of_ble_eq_true rfl, Nat.le_of_ble_eq_true rfl⟩ rfl (Nat.le_of_ble_eq_true rfl) (kX9_asks es3) ?_
  refine R_aload DX9_doorLine_19 1 rfl ?_
  obtain ⟨v4, ev4, h⟩ := bind_some h
  refine R_gR DX9_doorLine_20 fl_RX9_46 ev4 ?_
  refine R_iload DX9_doorLine_23 0 rfl ?_
  refine R_aload DX9_doorLine_24 1 rfl ?_
  obtain ⟨r5, er5, h⟩ := bind_some h
  refine R_cV1 [] DX9_doorLine_25 kzvX9_xHere ml_RX9_218 ⟨Nat.le_of_ble_eq_true rfl, Nat.le_of_ble_eq_true rfl⟩ rfl (Nat.le_of_ble_eq_true rfl) (kX9_xHere er5) ?_
  obtain ⟨s6, es6, h⟩ := bind_some h
  refine R_sI DX9_doorLine_28 es6 ?_
  refine R_aload DX9_doorLine_29 1 rfl ?_
  obtain ⟨v7, ev7, h⟩ := bind_some h
  refine R_gI DX9_doorLine_30 fl_RX9_144 ev7 ?_
  by_cases c8 : v7 = 0
  · replace h := if_t h c8
    refine R_if_ne_f DX9_doorLine_33 c8 ?_
    refine R_aload DX9_doorLine_36 1 rfl ?_
    obtain ⟨v17, ev17, h⟩ := bind_some h
    refine R_gI DX9_doorLine_37 fl_RX9_133 ev17 ?_
    refine R_constI DX9_doorLine_40 ci_2 ?_
    by_cases c18 : v17 = (iI 2)
    · replace h := if_t h c18
      refine R_icmp_ne_f DX9_doorLine_41 c18 ?_
      refine R_aload DX9_doorLine_44 1 rfl ?_
      obtain ⟨v19, ev19, h⟩ := bind_some h
      refine R_gI DX9_doorLine_45 fl_RX9_126 ev19 ?_
      refine R_aload DX9_doorLine_48 1 rfl ?_
      refine R_constI DX9_doorLine_49 ci_1 ?_
      obtain ⟨r20, er20, h⟩ := bind_some h
      refine R_cV1 [.int (iI 1)] DX9_doorLine_50 kzvX9_hasRead ml_RX9_193 ⟨Nat.le_of_ble_eq_true rfl, Nat.le_of_ble_eq_true rfl⟩ rfl (Nat.le_of_ble_eq_true rfl) (kX9_hasRead er20) ?_
      by_cases c21 : r20.1 ≤ v19
      · replace h := if_t h c21
        refine R_icmp_ge_t DX9_doorLine_53 c21 ?_
        refine R.sub (L' := [(0, .ref x0), (1, .int z2)]) [1, 0] rfl ?_
        exact tX9_doorLine_b119 h
      · replace h := if_f h c21
        refine R_icmp_ge_f DX9_doorLine_53 c21 ?_
        refine R_constI DX9_doorLine_56 ci_0 ?_
        refine R_istore [(2, .int (iI 0)), (1, .int z2), (0, .ref x0)] DX9_doorLine_57 (by decide) rfl ?_
        refine R.sub (L' := [(0, .ref x0), (1, .int z2), (2, .int (iI 0))]) [2, 1, 0] rfl ?_
        obtain ⟨r34, hi, h⟩ := bind_some h
        have hE : (fun u58 : Hp => R G MX9_doorLine 119 [(0, .ref x0), (1, .int z2)] [] u58 (none, w)) r34 → ∀ (q2 : Int32) (qs : Hp), iter (fX9_doorLine_l58 x0 z2) FU (q2, qs) = some r34 → R G MX9_doorLine 58 [(0, .ref x0), (1, .int z2), (2, .int q2)] [] qs (none, w) := fun hX q2 qs hj => loop_R (fX9_doorLine_l58 x0 z2) (fun p58 : Int32 × Hp => R G MX9_doorLine 58 [(0, .ref x0), (1, .int z2), (2, .int p58.1)] [] p58.2 (none, w)) (fun u58 : Hp => R G MX9_doorLine 119 [(0, .ref x0), (1, .int z2)] [] u58 (none, w)) (fun a w hw hc he => tX9_doorLine_l58 hw (fun q2 qs e => hc (q2, qs) e) (fun qs e => he qs e)) FU (q2, qs) r34 hj hX
        refine hE ?_ _ _ hi
        clear hE hi
        exact tX9_doorLine_b119 h
    · replace h := if_f h c18
      refine R_icmp_ne_t DX9_doorLine_41 c18 ?_
      refine R.sub (L' := [(0, .ref x0), (1, .int z2)]) [1, 0] rfl ?_
      exact tX9_doorLine_b119 h
  · replace h := if_f h c8
    refine R_if_ne_t DX9_doorLine_33 c8 ?_
    refine R.sub (L' := [(0, .ref x0), (1, .int z2)]) [1, 0] rfl ?_
    exact tX9_doorLine_b119 h
set_option maxRecDepth 8000 in
theorem kX9_fairLine {G : Gm} {x0 : Nat} {s : Hp} {w : Hp} (h : fX9_fairLine x0 s = some w) : (s.2.2 x0).1 = 9 ∧ Call G MX9_fairLine [.ref x0] s (none, w) := by
  unfold fX9_fairLine at h
  obtain ⟨_, e0, h⟩ := bind_some h
  refine ⟨ck_some e0, Call.of_R pnRX9 (Nat.le_of_ble_eq_true rfl) ?_⟩
  clear e0
  show R G MX9_fairLine 0 [(0, .ref x0)] [] s (none, w)
  refine R_aload DX9_fairLine_0 0 rfl ?_
  refine R_ldc2 DX9_fairLine_1 cw_RX9_216 ?_
  obtain ⟨s1, es1, h⟩ := bind_some h
  refine R_cV0 [.long 47] DX9_fairLine_4 kzvX9_asks ml_RX9_163 ⟨Nat.le_of_ble_eq_true rfl, Nat.le_of_ble_eq_true rfl⟩ rfl (Nat.le_of_ble_eq_true rfl) (kX9_asks es1) ?_
  refine R_aload DX9_fairLine_7 0 rfl ?_
  obtain ⟨r2, er2, h⟩ := bind_some h
  refine R_cV1 [] DX9_fairLine_8 kzvX9_xHere ml_RX9_218 ⟨Nat.le_of_ble_eq_true rfl, Nat.le_of_ble_eq_true rfl⟩ rfl (Nat.le_of_ble_eq_true rfl) (kX9_xHere er2) ?_
  refine R_istore [(1, .int r2.1), (0, .ref x0)] DX9_fairLine_11 (by decide) rfl ?_
  refine R_aload DX9_fairLine_12 1 rfl ?_
  obtain ⟨r3, er3, h⟩ := bind_some h
  refine R_cV1 [] DX9_fairLine_13 kzvX9_yHere ml_RX9_221 ⟨Nat.le_of_ble_eq_true rfl, Nat.le_of_ble_eq_true rfl⟩ rfl (Nat.le_of_ble_eq_true rfl) (kX9_yHere er3) ?_
  refine R_istore [(2, .int r3.1), (1, .int r2.1), (0, .ref x0)] DX9_fairLine_16 (by decide) rfl ?_
  refine R_aload DX9_fairLine_17 2 rfl ?_
  refine R_ldc2 DX9_fairLine_18 cw_RX9_197 ?_
  obtain ⟨s4, es4, h⟩ := bind_some h
  refine R_cV0 [.long 131638] DX9_fairLine_21 kzvX9_asks ml_RX9_163 ⟨Nat.le_of_ble_eq_true rfl, Nat.le_of_ble_eq_true rfl⟩ rfl (Nat.le_of_ble_eq_true rfl) (kX9_asks es4) ?_
  refine R_aload DX9_fairLine_24 2 rfl ?_
  obtain ⟨r5, er5, h⟩ := bind_some h
  refine R_cV1 [] DX9_fairLine_25 kzvX9_hourHere ml_RX9_199 ⟨Nat.le_of_ble_eq_true rfl, Nat.le_of_ble_eq_true rfl⟩ rfl (Nat.le_of_ble_eq_true rfl) (kX9_hourHere er5) ?_
  refine R_istore [(3, .int r5.1), (2, .int r3.1), (1, .int r2.1), (0, .ref x0)] DX9_fairLine_28 (by decide) rfl ?_
  refine R_aload DX9_fairLine_29 3 rfl ?_
  refine R_ldc2 DX9_fairLine_30 cw_RX9_232 ?_
  refine R_iload DX9_fairLine_33 0 rfl ?_
  refine R_aload DX9_fairLine_34 3 rfl ?_
  refine R_constI DX9_fairLine_35 ci_3 ?_
  obtain ⟨r6, er6, h⟩ := bind_some h
  refine R_cV1 [.int (iI 3)] DX9_fairLine_36 kzvX9_hasRead ml_RX9_193 ⟨Nat.le_of_ble_eq_true rfl, Nat.le_of_ble_eq_true rfl⟩ rfl (Nat.le_of_ble_eq_true rfl) (kX9_hasRead er6) ?_
  refine R_constI DX9_fairLine_39 ci_1 ?_
  refine R_isub DX9_fairLine_40 ?_
  obtain ⟨r7, er7, h⟩ := bind_some h
  refine R_cV1 [.long 555, .int r5.1, .int (r6.1 - (iI 1))] DX9_fairLine_41 kzvX9_number_ ml_RX9_178 ⟨Nat.le_of_ble_eq_true rfl, Nat.le_of_ble_eq_true rfl⟩ rfl (Nat.le_of_ble_eq_true rfl) (kX9_number_ er7) ?_
  refine R_istore [(4, .int r7.1), (3, .int r5.1), (2, .int r3.1), (1, .int r2.1), (0, .ref x0)] DX9_fairLine_44 (by decide) rfl ?_
  refine R_aload DX9_fairLine_46 4 rfl ?_
  obtain ⟨v8, ev8, h⟩ := bind_some h
  refine R_gI DX9_fairLine_47 fl_RX9_144 ev8 ?_
  by_cases c9 : v8 = 0
  · replace h := if_t h c9
    refine R_if_eq_t DX9_fairLine_50 c9 ?_
    refine R_aload DX9_fairLine_54 4 rfl ?_
    refine R_constI DX9_fairLine_55 ci_9 ?_
    refine R_constI DX9_fairLine_57 ci_1 ?_
    obtain ⟨s10, es10, h⟩ := bind_some h
    refine R_cV0 [.int (iI 9), .int (iI 1)] DX9_fairLine_58 kzvX9_reads ml_RX9_181 ⟨Nat.le_of_ble_eq_true rfl, Nat.le_of_ble_eq_true rfl⟩ rfl (Nat.le_of_ble_eq_true rfl) (kX9_reads es10) ?_
    refine R_aload DX9_fairLine_61 4 rfl ?_
    refine R_constI DX9_fairLine_62 ci_10 ?_
    refine R_iload DX9_fairLine_64 3 rfl ?_
    obtain ⟨s11, es11, h⟩ := bind_some h
    refine R_cV0 [.int (iI 10), .int r2.1] DX9_fairLine_65 kzvX9_reads ml_RX9_181 ⟨Nat.le_of_ble_eq_true rfl, Nat.le_of_ble_eq_true rfl⟩ rfl (Nat.le_of_ble_eq_true rfl) (kX9_reads es11) ?_
    refine R_aload DX9_fairLine_68 4 rfl ?_
    refine R_constI DX9_fairLine_69 ci_11 ?_
    refine R_iload DX9_fairLine_71 2 rfl ?_
    obtain ⟨s12, es12, h⟩ := bind_some h
    refine R_cV0 [.int (iI 11), .int r3.1] DX9_fairLine_72 kzvX9_reads ml_RX9_181 ⟨Nat.le_of_ble_eq_true rfl, Nat.le_of_ble_eq_true rfl⟩ rfl (Nat.le_of_ble_eq_true rfl) (kX9_reads es12) ?_
    refine R_aload DX9_fairLine_75 4 rfl ?_
    refine R_constI DX9_fairLine_76 ci_12 ?_
    refine R_iload DX9_fairLine_78 1 rfl ?_
    obtain ⟨s13, es13, h⟩ := bind_some h
    refine R_cV0 [.int (iI 12), .int r5.1] DX9_fairLine_79 kzvX9_reads ml_RX9_181 ⟨Nat.le_of_ble_eq_true rfl, Nat.le_of_ble_eq_true rfl⟩ rfl (Nat.le_of_ble_eq_true rfl) (kX9_reads es13) ?_
    refine R_aload DX9_fairLine_82 4 rfl ?_
    refine R_constI DX9_fairLine_83 ci_13 ?_
    refine R_iload DX9_fairLine_85 0 rfl ?_
    obtain ⟨s14, es14, h⟩ := bind_some h
    refine R_cV0 [.int (iI 13), .int r7.1] DX9_fairLine_87 kzvX9_reads ml_RX9_181 ⟨Nat.le_of_ble_eq_true rfl, Nat.le_of_ble_eq_true rfl⟩ rfl (Nat.le_of_ble_eq_true rfl) (kX9_reads es14) ?_
    cases h
    exact R_return rfl DX9_fairLine_90
  · replace h := if_f h c9
    refine R_if_eq_f DX9_fairLine_50 c9 ?_
    cases h
    exact R_return rfl DX9_fairLine_53
set_option maxRecDepth 8000 in
theorem tX9_planLine_b59 {G : Gm} {x0 : Nat} {x1 : Int32} {x2 : Int32} {x3 : Int32} {s : Hp} {w : Hp} (h : fX9_planLine_b59 x0 x1 x2 x3 s = some w) : R G MX9_planLine 59 [(0, .ref x0), (1, .int x1), (2, .int x2), (3, .int x3)] [] s (none, w) := by
  unfold fX9_planLine_b59 at h
  refine R_aload DX9_planLine_59 0 rfl ?_
  obtain ⟨v9, ev9, h⟩ := bind_some h
  refine R_gI DX9_planLine_60 fl_RX9_144 ev9 ?_
  by_cases c10 : v9 = 0
  · replace h := if_t h c10
    refine R_if_eq_t DX9_planLine_63 c10 ?_
    refine R_aload DX9_planLine_67 0 rfl ?_
    obtain ⟨s11, es11, h⟩ := bind_some h
    refine R_cV0 [] DX9_planLine_68 kzvX9_next ml_RX9_154 ⟨Nat.le_of_ble_eq_true rfl, Nat.le_of_ble_eq_true rfl⟩ rfl (Nat.le_of_ble_eq_true rfl) (kX9_next es11) ?_
    refine R_aload DX9_planLine_71 0 rfl ?_
    obtain ⟨v12, ev12, h⟩ := bind_some h
    refine R_gR DX9_planLine_72 fl_RX9_49 ev12 ?_
    refine R_constI DX9_planLine_75 ci_24 ?_
    refine R_constI DX9_planLine_77 ci_16 ?_
    refine R_iload DX9_planLine_79 1 rfl ?_
    refine R_iadd DX9_planLine_80 ?_
    refine R_imul DX9_planLine_81 ?_
    refine R_iload DX9_planLine_82 2 rfl ?_
    refine R_iadd DX9_planLine_83 ?_
    refine R_iload DX9_planLine_84 3 rfl ?_
    obtain ⟨s13, es13, h⟩ := bind_some h
    refine R_sI DX9_planLine_85 es13 ?_
    cases h
    exact R_return rfl DX9_planLine_86
  · replace h := if_f h c10
    refine R_if_eq_f DX9_planLine_63 c10 ?_
    cases h
    exact R_return rfl DX9_planLine_66
set_option maxRecDepth 8000 in
theorem tX9_planLine_b48 {G : Gm} {x0 : Nat} {x1 : Int32} {x2 : Int32} {y0 : Int32} {s : Hp} {w : Hp} (h : fX9_planLine_b48 x0 x1 x2 y0 s = some w) : R G MX9_planLine 48 [(0, .ref x0), (1, .int x1), (2, .int x2)] [.int y0] s (none, w) := by
  unfold fX9_planLine_b48 at h
  refine R_istore [(3, .int y0), (0, .ref x0), (1, .int x1), (2, .int x2)] DX9_planLine_48 (by decide) rfl ?_
  refine R_iload DX9_planLine_49 0 rfl ?_
  refine R_constI DX9_planLine_50 ci_m1 ?_
  by_cases c8 : y0 = (iI (-1))
  · replace h := if_t h c8
    refine R_icmp_ne_f DX9_planLine_51 c8 ?_
    refine R_aload DX9_planLine_54 1 rfl ?_
    refine R_constI DX9_planLine_55 ci_1 ?_
    obtain ⟨s14, es14, h⟩ := bind_some h
    refine R_cV0 [.int (iI 1)] DX9_planLine_56 kzvX9_fails ml_RX9_160 ⟨Nat.le_of_ble_eq_true rfl, Nat.le_of_ble_eq_true rfl⟩ rfl (Nat.le_of_ble_eq_true rfl) (kX9_fails es14) ?_
    refine R.sub (L' := [(0, .ref x0), (1, .int x1), (2, .int x2), (3, .int y0)]) [1, 2, 3, 0] rfl ?_
    exact tX9_planLine_b59 h
  · replace h := if_f h c8
    refine R_icmp_ne_t DX9_planLine_51 c8 ?_
    refine R.sub (L' := [(0, .ref x0), (1, .int x1), (2, .int x2), (3, .int y0)]) [1, 2, 3, 0] rfl ?_
    exact tX9_planLine_b59 h
set_option maxRecDepth 8000 in
theorem kX9_planLine {G : Gm} {x0 : Nat} {s : Hp} {w : Hp} (h : fX9_planLine x0 s = some w) : (s.2.2 x0).1 = 9 ∧ Call G MX9_planLine [.ref x0] s (none, w) := by
  unfold fX9_planLine at h
  obtain ⟨_, e0, h⟩ := bind_some h
  refine ⟨ck_some e0, Call.of_R pnRX9 (Nat.le_of_ble_eq_true rfl) ?_⟩
  clear e0
  show R G MX9_planLine 0 [(0, .ref x0)] [] s (none, w)
  refine R_aload DX9_planLine_0 0 rfl ?_
  refine R_constI DX9_planLine_1 ci_0 ?_
  refine R_aload DX9_planLine_2 0 rfl ?_
  refine R_constI DX9_planLine_3 ci_7 ?_
  obtain ⟨r1, er1, h⟩ := bind_some h
  refine R_cV1 [.int (iI 7)] DX9_planLine_5 kzvX9_hasRead ml_RX9_193 ⟨Nat.le_of_ble_eq_true rfl, Nat.le_of_ble_eq_true rfl⟩ rfl (Nat.le_of_ble_eq_true rfl) (kX9_hasRead er1) ?_
  refine R_constI DX9_planLine_8 ci_1 ?_
  refine R_isub DX9_planLine_9 ?_
  obtain ⟨r2, er2, h⟩ := bind_some h
  refine R_cV1 [.int (iI 0), .int (r1.1 - (iI 1))] DX9_planLine_10 kzvX9_number ml_RX9_167 ⟨Nat.le_of_ble_eq_true rfl, Nat.le_of_ble_eq_true rfl⟩ rfl (Nat.le_of_ble_eq_true rfl) (kX9_number er2) ?_
  refine R_istore [(1, .int r2.1), (0, .ref x0)] DX9_planLine_13 (by decide) rfl ?_
  refine R_aload DX9_planLine_14 1 rfl ?_
  obtain ⟨r3, er3, h⟩ := bind_some h
  refine R_cV1 [] DX9_planLine_15 kzvX9_hourHere ml_RX9_199 ⟨Nat.le_of_ble_eq_true rfl, Nat.le_of_ble_eq_true rfl⟩ rfl (Nat.le_of_ble_eq_true rfl) (kX9_hourHere er3) ?_
  refine R_istore [(2, .int r3.1), (1, .int r2.1), (0, .ref x0)] DX9_planLine_18 (by decide) rfl ?_
  refine R_aload DX9_planLine_19 2 rfl ?_
  refine R_ldc2 DX9_planLine_20 cw_RX9_234 ?_
  obtain ⟨r4, er4, h⟩ := bind_some h
  refine R_cV1 [.long 9757090] DX9_planLine_23 kzvX9_is ml_RX9_150 ⟨Nat.le_of_ble_eq_true rfl, Nat.le_of_ble_eq_true rfl⟩ rfl (Nat.le_of_ble_eq_true rfl) (kX9_is er4) ?_
  by_cases c5 : r4.1 = 0
  · replace h := if_t h c5
    refine R_if_eq_t DX9_planLine_26 c5 ?_
    refine R_aload DX9_planLine_33 2 rfl ?_
    refine R_ldc2 DX9_planLine_34 cw_RX9_236 ?_
    obtain ⟨r6, er6, h⟩ := bind_some h
    refine R_cV1 [.long 10285048] DX9_planLine_37 kzvX9_is ml_RX9_150 ⟨Nat.le_of_ble_eq_true rfl, Nat.le_of_ble_eq_true rfl⟩ rfl (Nat.le_of_ble_eq_true rfl) (kX9_is er6) ?_
    by_cases c7 : r6.1 = 0
    · replace h := if_t h c7
      refine R_if_eq_t DX9_planLine_40 c7 ?_
      refine R_constI DX9_planLine_47 ci_m1 ?_
      refine R.sub (L' := [(0, .ref x0), (1, .int r2.1), (2, .int r3.1)]) [2, 1, 0] rfl ?_
      exact tX9_planLine_b48 h
    · replace h := if_f h c7
      refine R_if_eq_f DX9_planLine_40 c7 ?_
      refine R_constI DX9_planLine_43 ci_2 ?_
      refine R_goto DX9_planLine_44 ?_
      refine R.sub (L' := [(0, .ref x0), (1, .int r2.1), (2, .int r3.1)]) [2, 1, 0] rfl ?_
      exact tX9_planLine_b48 h
  · replace h := if_f h c5
    refine R_if_eq_f DX9_planLine_26 c5 ?_
    refine R_constI DX9_planLine_29 ci_1 ?_
    refine R_goto DX9_planLine_30 ?_
    refine R.sub (L' := [(0, .ref x0), (1, .int r2.1), (2, .int r3.1)]) [2, 1, 0] rfl ?_
    exact tX9_planLine_b48 h
