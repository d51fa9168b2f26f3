set_option maxRecDepth 8000 in
theorem tX3_isDigit_b16 {G : Gm} {s : Hp} {w : Int32 × Hp} (h : fX3_isDigit_b16 s = some w) : R G MX3_isDigit 16 [] [] s (some (.int w.1), w.2) := by
  unfold fX3_isDigit_b16 at h
  refine R_constI DX3_isDigit_16 ci_0 ?_
  cases h
  exact R_zreturn rfl DX3_isDigit_17 (by decide)
set_option maxRecDepth 8000 in
theorem kX3_isDigit {G : Gm} {x0 : Int32} {s : Hp} {w : Int32 × Hp} (h : fX3_isDigit x0 s = some w) : Call G MX3_isDigit [.int x0] s (some (.int w.1), w.2) := by
  unfold fX3_isDigit at h
  refine Call.of_R pnRX3 (Nat.le_of_ble_eq_true rfl) ?_
  show R G MX3_isDigit 0 [(0, .int x0)] [] s (some (.int w.1), w.2)
  refine R_iload DX3_isDigit_0 0 rfl ?_
  refine R_constI DX3_isDigit_1 ci_48 ?_
  by_cases c1 : x0 < (iI 48)
  · replace h := if_t h c1
    refine R_icmp_lt_t DX3_isDigit_3 c1 ?_
    refine R.sub (L' := []) [] rfl ?_
    exact tX3_isDigit_b16 h
  · replace h := if_f h c1
    refine R_icmp_lt_f DX3_isDigit_3 c1 ?_
    refine R_iload DX3_isDigit_6 0 rfl ?_
    refine R_constI DX3_isDigit_7 ci_57 ?_
    by_cases c2 : (iI 57) < x0
    · replace h := if_t h c2
      refine R_icmp_gt_t DX3_isDigit_9 c2 ?_
      refine R.sub (L' := []) [] rfl ?_
      exact tX3_isDigit_b16 h
    · replace h := if_f h c2
      refine R_icmp_gt_f DX3_isDigit_9 c2 ?_
      refine R_constI DX3_isDigit_12 ci_1 ?_
      refine R_goto DX3_isDigit_13 ?_
      cases h
      exact R_zreturn rfl DX3_isDigit_17 (by decide)
set_option maxRecDepth 8000 in
theorem tX3_advance_b39 {G : Gm} {x0 : Nat} {s : Hp} {o : Option Value × Hp} {w : (Hp) ⊕ ((Hp))} (h : fX3_advance_b39 x0 s = some w) (hc : ∀ (qs : Hp), w = .inl qs → R G MX3_advance 0 [(0, .ref x0)] [] qs o) (he0 : ∀ (qs : Hp), w = .inr qs → R G MX3_advance 52 [(0, .ref x0)] [] qs o) : R G MX3_advance 39 [(0, .ref x0)] [] s o := by
  unfold fX3_advance_b39 at h
  refine R_aload DX3_advance_39 0 rfl ?_
  refine R_dup DX3_advance_40 rfl ?_
  obtain ⟨v8, ev8, h⟩ := bind_some h
  refine R_gI DX3_advance_41 fl_RX3_40 ev8 ?_
  refine R_constI DX3_advance_44 ci_1 ?_
  refine R_iadd DX3_advance_45 ?_
  obtain ⟨s9, es9, h⟩ := bind_some h
  refine R_pI DX3_advance_46 fl_RX3_40 es9 ?_
  refine R_goto DX3_advance_49 ?_
  cases h
  exact hc _ rfl
set_option maxRecDepth 8000 in
theorem tX3_advance_l0 {G : Gm} {x0 : Nat} {o : Option Value × Hp} {a : Hp} {w : (Hp) ⊕ ((Hp))} (h : fX3_advance_l0 x0 a = some w) (hc : ∀ (qs : Hp), w = .inl qs → R G MX3_advance 0 [(0, .ref x0)] [] qs o) (he0 : ∀ (qs : Hp), w = .inr qs → R G MX3_advance 52 [(0, .ref x0)] [] qs o) : R G MX3_advance 0 [(0, .ref x0)] [] a o := by
  unfold fX3_advance_l0 at h
  refine R_aload DX3_advance_0 0 rfl ?_
  obtain ⟨v1, ev1, h⟩ := bind_some h
  refine R_gI DX3_advance_1 fl_RX3_40 ev1 ?_
  refine R_aload DX3_advance_4 0 rfl ?_
  obtain ⟨v2, ev2, h⟩ := bind_some h
  refine R_gI DX3_advance_5 fl_RX3_25 ev2 ?_
  by_cases c3 : v2 ≤ v1
  · replace h := if_t h c3
    refine R_icmp_ge_t DX3_advance_8 c3 ?_
    cases h
    exact he0 _ rfl
  · replace h := if_f h c3
    refine R_icmp_ge_f DX3_advance_8 c3 ?_
    refine R_aload DX3_advance_11 0 rfl ?_
    obtain ⟨v4, ev4, h⟩ := bind_some h
    refine R_gR DX3_advance_12 fl_RX3_15 ev4 ?_
    refine R_aload DX3_advance_15 0 rfl ?_
    obtain ⟨v5, ev5, h⟩ := bind_some h
    refine R_gI DX3_advance_16 fl_RX3_40 ev5 ?_
    obtain ⟨v6, ev6, h⟩ := bind_some h
    refine R_aB DX3_advance_19 ev6 ?_
    refine R_constI DX3_advance_20 ci_32 ?_
    by_cases c7 : v6 = (iI 32)
    · replace h := if_t h c7
      refine R_icmp_eq_t DX3_advance_22 c7 ?_
      exact tX3_advance_b39 h hc he0
    · replace h := if_f h c7
      refine R_icmp_eq_f DX3_advance_22 c7 ?_
      refine R_aload DX3_advance_25 0 rfl ?_
      obtain ⟨v10, ev10, h⟩ := bind_some h
      refine R_gR DX3_advance_26 fl_RX3_15 ev10 ?_
      refine R_aload DX3_advance_29 0 rfl ?_
      obtain ⟨v11, ev11, h⟩ := bind_some h
      refine R_gI DX3_advance_30 fl_RX3_40 ev11 ?_
      obtain ⟨v12, ev12, h⟩ := bind_some h
      refine R_aB DX3_advance_33 ev12 ?_
      refine R_constI DX3_advance_34 ci_10 ?_
      by_cases c13 : v12 = (iI 10)
      · replace h := if_t h c13
        refine R_icmp_ne_f DX3_advance_36 c13 ?_
        exact tX3_advance_b39 h hc he0
      · replace h := if_f h c13
        refine R_icmp_ne_t DX3_advance_36 c13 ?_
        cases h
        exact he0 _ rfl
set_option maxRecDepth 8000 in
theorem tX3_advance_b251 {G : Gm} {x0 : Nat} {y0 : Nat} {y1 : Int32} {s : Hp} {w : Hp} (h : fX3_advance_b251 x0 y0 y1 s = some w) : R G MX3_advance 251 [(0, .ref x0)] [.int y1, .ref y0] s (none, w) := by
  unfold fX3_advance_b251 at h
  obtain ⟨s34, es34, h⟩ := bind_some h
  refine R_pI DX3_advance_251 fl_RX3_49 es34 ?_
  refine R_aload DX3_advance_254 0 rfl ?_
  refine R_dup DX3_advance_255 rfl ?_
  obtain ⟨v35, ev35, h⟩ := bind_some h
  refine R_gI DX3_advance_256 fl_RX3_40 ev35 ?_
  refine R_constI DX3_advance_259 ci_1 ?_
  refine R_iadd DX3_advance_260 ?_
  obtain ⟨s36, es36, h⟩ := bind_some h
  refine R_pI DX3_advance_261 fl_RX3_40 es36 ?_
  cases h
  exact R_return rfl DX3_advance_264
set_option maxRecDepth 8000 in
theorem tX3_advance_l163 {G : Gm} {x0 : Nat} {o : Option Value × Hp} {a : Hp} {w : (Hp) ⊕ ((Hp))} (h : fX3_advance_l163 x0 a = some w) (hc : ∀ (qs : Hp), w = .inl qs → R G MX3_advance 163 [(0, .ref x0)] [] qs o) (he0 : ∀ (qs : Hp), w = .inr qs → R G MX3_advance 264 [] [] qs o) : R G MX3_advance 163 [(0, .ref x0)] [] a o := by
  unfold fX3_advance_l163 at h
  refine R_aload DX3_advance_163 0 rfl ?_
  obtain ⟨v39, ev39, h⟩ := bind_some h
  refine R_gI DX3_advance_164 fl_RX3_40 ev39 ?_
  refine R_aload DX3_advance_167 0 rfl ?_
  obtain ⟨v40, ev40, h⟩ := bind_some h
  refine R_gI DX3_advance_168 fl_RX3_25 ev40 ?_
  by_cases c41 : v40 ≤ v39
  · replace h := if_t h c41
    refine R_icmp_ge_t DX3_advance_171 c41 ?_
    refine R.sub (L' := []) [] rfl ?_
    cases h
    exact he0 _ rfl
  · replace h := if_f h c41
    refine R_icmp_ge_f DX3_advance_171 c41 ?_
    refine R_aload DX3_advance_174 0 rfl ?_
    obtain ⟨v42, ev42, h⟩ := bind_some h
    refine R_gR DX3_advance_175 fl_RX3_15 ev42 ?_
    refine R_aload DX3_advance_178 0 rfl ?_
    obtain ⟨v43, ev43, h⟩ := bind_some h
    refine R_gI DX3_advance_179 fl_RX3_40 ev43 ?_
    obtain ⟨v44, ev44, h⟩ := bind_some h
    refine R_aB DX3_advance_182 ev44 ?_
    obtain ⟨r45, er45, h⟩ := bind_some h
    refine R_cS1 [.int v44] DX3_advance_183 kzsX3_isDigit ml_RX3_233 ⟨Nat.le_of_ble_eq_true rfl, Nat.le_of_ble_eq_true rfl⟩ rfl (Nat.le_of_ble_eq_true rfl) (kX3_isDigit er45) ?_
    by_cases c46 : r45.1 = 0
    · replace h := if_t h c46
      refine R_if_eq_t DX3_advance_186 c46 ?_
      refine R.sub (L' := []) [] rfl ?_
      cases h
      exact he0 _ rfl
    · replace h := if_f h c46
      refine R_if_eq_f DX3_advance_186 c46 ?_
      refine R_aload DX3_advance_189 0 rfl ?_
      refine R_ldcI DX3_advance_190 cw_RX3_236 ci_1000000 ?_
      refine R_aload DX3_advance_192 0 rfl ?_
      obtain ⟨v47, ev47, h⟩ := bind_some h
      refine R_gI DX3_advance_193 fl_RX3_218 ev47 ?_
      refine R_constI DX3_advance_196 ci_10 ?_
      refine R_imul DX3_advance_198 ?_
      refine R_aload DX3_advance_199 0 rfl ?_
      obtain ⟨v48, ev48, h⟩ := bind_some h
      refine R_gR DX3_advance_200 fl_RX3_15 ev48 ?_
      refine R_aload DX3_advance_203 0 rfl ?_
      obtain ⟨v49, ev49, h⟩ := bind_some h
      refine R_gI DX3_advance_204 fl_RX3_40 ev49 ?_
      obtain ⟨v50, ev50, h⟩ := bind_some h
      refine R_aB DX3_advance_207 ev50 ?_
      refine R_iadd DX3_advance_208 ?_
      refine R_constI DX3_advance_209 ci_48 ?_
      refine R_isub DX3_advance_211 ?_
      refine R_mmin DX3_advance_212 mw_RX3_19 ⟨Nat.le_of_ble_eq_true rfl, Nat.le_of_ble_eq_true rfl⟩ ?_
      obtain ⟨s51, es51, h⟩ := bind_some h
      refine R_pI DX3_advance_215 fl_RX3_218 es51 ?_
      refine R_aload DX3_advance_218 0 rfl ?_
      refine R_dup DX3_advance_219 rfl ?_
      obtain ⟨v52, ev52, h⟩ := bind_some h
      refine R_gI DX3_advance_220 fl_RX3_40 ev52 ?_
      refine R_constI DX3_advance_223 ci_1 ?_
      refine R_iadd DX3_advance_224 ?_
      obtain ⟨s53, es53, h⟩ := bind_some h
      refine R_pI DX3_advance_225 fl_RX3_40 es53 ?_
      refine R_goto DX3_advance_228 ?_
      cases h
      exact hc _ rfl
set_option maxRecDepth 8000 in
theorem tX3_advance_l99 {G : Gm} {x0 : Nat} {o : Option Value × Hp} {a : Hp} {w : (Hp) ⊕ ((Hp))} (h : fX3_advance_l99 x0 a = some w) (hc : ∀ (qs : Hp), w = .inl qs → R G MX3_advance 99 [(0, .ref x0)] [] qs o) (he0 : ∀ (qs : Hp), w = .inr qs → R G MX3_advance 264 [] [] qs o) : R G MX3_advance 99 [(0, .ref x0)] [] a o := by
  unfold fX3_advance_l99 at h
  refine R_aload DX3_advance_99 0 rfl ?_
  obtain ⟨v56, ev56, h⟩ := bind_some h
  refine R_gI DX3_advance_100 fl_RX3_40 ev56 ?_
  refine R_aload DX3_advance_103 0 rfl ?_
  obtain ⟨v57, ev57, h⟩ := bind_some h
  refine R_gI DX3_advance_104 fl_RX3_25 ev57 ?_
  by_cases c58 : v57 ≤ v56
  · replace h := if_t h c58
    refine R_icmp_ge_t DX3_advance_107 c58 ?_
    refine R.sub (L' := []) [] rfl ?_
    cases h
    exact he0 _ rfl
  · replace h := if_f h c58
    refine R_icmp_ge_f DX3_advance_107 c58 ?_
    refine R_aload DX3_advance_110 0 rfl ?_
    obtain ⟨v59, ev59, h⟩ := bind_some h
    refine R_gR DX3_advance_111 fl_RX3_15 ev59 ?_
    refine R_aload DX3_advance_114 0 rfl ?_
    obtain ⟨v60, ev60, h⟩ := bind_some h
    refine R_gI DX3_advance_115 fl_RX3_40 ev60 ?_
    obtain ⟨v61, ev61, h⟩ := bind_some h
    refine R_aB DX3_advance_118 ev61 ?_
    obtain ⟨r62, er62, h⟩ := bind_some h
    refine R_cS1 [.int v61] DX3_advance_119 kzsX3_isLetter ml_RX3_229 ⟨Nat.le_of_ble_eq_true rfl, Nat.le_of_ble_eq_true rfl⟩ rfl (Nat.le_of_ble_eq_true rfl) (kX3_isLetter er62) ?_
    by_cases c63 : r62.1 = 0
    · replace h := if_t h c63
      refine R_if_eq_t DX3_advance_122 c63 ?_
      refine R.sub (L' := []) [] rfl ?_
      cases h
      exact he0 _ rfl
    · replace h := if_f h c63
      refine R_if_eq_f DX3_advance_122 c63 ?_
      refine R_aload DX3_advance_125 0 rfl ?_
      refine R_dup DX3_advance_126 rfl ?_
      obtain ⟨v64, ev64, h⟩ := bind_some h
      refine R_gI DX3_advance_127 fl_RX3_40 ev64 ?_
      refine R_constI DX3_advance_130 ci_1 ?_
      refine R_iadd DX3_advance_131 ?_
      obtain ⟨s65, es65, h⟩ := bind_some h
      refine R_pI DX3_advance_132 fl_RX3_40 es65 ?_
      refine R_goto DX3_advance_135 ?_
      cases h
      exact hc _ rfl
set_option maxRecDepth 8000 in
theorem tX3_advance_b52 {G : Gm} {x0 : Nat} {s : Hp} {w : Hp} (h : fX3_advance_b52 x0 s = some w) : R G MX3_advance 52 [(0, .ref x0)] [] s (none, w) := by
  unfold fX3_advance_b52 at h
  refine R_aload DX3_advance_52 0 rfl ?_
  refine R_aload DX3_advance_53 0 rfl ?_
  obtain ⟨v15, ev15, h⟩ := bind_some h
  refine R_gI DX3_advance_54 fl_RX3_40 ev15 ?_
  obtain ⟨s16, es16, h⟩ := bind_some h
  refine R_pI DX3_advance_57 fl_RX3_101 es16 ?_
  refine R_aload DX3_advance_60 0 rfl ?_
  obtain ⟨v17, ev17, h⟩ := bind_some h
  refine R_gI DX3_advance_61 fl_RX3_40 ev17 ?_
  refine R_aload DX3_advance_64 0 rfl ?_
  obtain ⟨v18, ev18, h⟩ := bind_some h
  refine R_gI DX3_advance_65 fl_RX3_25 ev18 ?_
  by_cases c19 : v17 < v18
  · replace h := if_t h c19
    refine R_icmp_lt_t DX3_advance_68 c19 ?_
    refine R_aload DX3_advance_79 0 rfl ?_
    obtain ⟨v20, ev20, h⟩ := bind_some h
    refine R_gR DX3_advance_80 fl_RX3_15 ev20 ?_
    refine R_aload DX3_advance_83 0 rfl ?_
    obtain ⟨v21, ev21, h⟩ := bind_some h
    refine R_gI DX3_advance_84 fl_RX3_40 ev21 ?_
    obtain ⟨v22, ev22, h⟩ := bind_some h
    refine R_aB DX3_advance_87 ev22 ?_
    obtain ⟨r23, er23, h⟩ := bind_some h
    refine R_cS1 [.int v22] DX3_advance_88 kzsX3_isLetter ml_RX3_229 ⟨Nat.le_of_ble_eq_true rfl, Nat.le_of_ble_eq_true rfl⟩ rfl (Nat.le_of_ble_eq_true rfl) (kX3_isLetter er23) ?_
    by_cases c24 : r23.1 = 0
    · replace h := if_t h c24
      refine R_if_eq_t DX3_advance_91 c24 ?_
      refine R_aload DX3_advance_138 0 rfl ?_
      obtain ⟨v25, ev25, h⟩ := bind_some h
      refine R_gR DX3_advance_139 fl_RX3_15 ev25 ?_
      refine R_aload DX3_advance_142 0 rfl ?_
      obtain ⟨v26, ev26, h⟩ := bind_some h
      refine R_gI DX3_advance_143 fl_RX3_40 ev26 ?_
      obtain ⟨v27, ev27, h⟩ := bind_some h
      refine R_aB DX3_advance_146 ev27 ?_
      obtain ⟨r28, er28, h⟩ := bind_some h
      refine R_cS1 [.int v27] DX3_advance_147 kzsX3_isDigit ml_RX3_233 ⟨Nat.le_of_ble_eq_true rfl, Nat.le_of_ble_eq_true rfl⟩ rfl (Nat.le_of_ble_eq_true rfl) (kX3_isDigit er28) ?_
      by_cases c29 : r28.1 = 0
      · replace h := if_t h c29
        refine R_if_eq_t DX3_advance_150 c29 ?_
        refine R_aload DX3_advance_231 0 rfl ?_
        refine R_aload DX3_advance_232 0 rfl ?_
        obtain ⟨v30, ev30, h⟩ := bind_some h
        refine R_gR DX3_advance_233 fl_RX3_15 ev30 ?_
        refine R_aload DX3_advance_236 0 rfl ?_
        obtain ⟨v31, ev31, h⟩ := bind_some h
        refine R_gI DX3_advance_237 fl_RX3_40 ev31 ?_
        obtain ⟨v32, ev32, h⟩ := bind_some h
        refine R_aB DX3_advance_240 ev32 ?_
        refine R_constI DX3_advance_241 ci_59 ?_
        by_cases c33 : v32 = (iI 59)
        · replace h := if_t h c33
          refine R_icmp_ne_f DX3_advance_243 c33 ?_
          refine R_constI DX3_advance_246 ci_3 ?_
          refine R_goto DX3_advance_247 ?_
          exact tX3_advance_b251 h
        · replace h := if_f h c33
          refine R_icmp_ne_t DX3_advance_243 c33 ?_
          refine R_constI DX3_advance_250 ci_4 ?_
          exact tX3_advance_b251 h
      · replace h := if_f h c29
        refine R_if_eq_f DX3_advance_150 c29 ?_
        refine R_aload DX3_advance_153 0 rfl ?_
        refine R_constI DX3_advance_154 ci_2 ?_
        obtain ⟨s37, es37, h⟩ := bind_some h
        refine R_pI DX3_advance_155 fl_RX3_49 es37 ?_
        refine R_aload DX3_advance_158 0 rfl ?_
        refine R_constI DX3_advance_159 ci_0 ?_
        obtain ⟨s38, es38, h⟩ := bind_some h
        refine R_pI DX3_advance_160 fl_RX3_218 es38 ?_
        obtain ⟨r54, hi, h⟩ := bind_some h
        have hE : (fun u163 : Hp => R G MX3_advance 264 [] [] u163 (none, w)) r54 → ∀ (qs : Hp), iter (fX3_advance_l163 x0) FU qs = some r54 → R G MX3_advance 163 [(0, .ref x0)] [] qs (none, w) := fun hX qs hj => loop_R (fX3_advance_l163 x0) (fun p163 : Hp => R G MX3_advance 163 [(0, .ref x0)] [] p163 (none, w)) (fun u163 : Hp => R G MX3_advance 264 [] [] u163 (none, w)) (fun a w hw hc he => tX3_advance_l163 hw (fun qs e => hc qs e) (fun qs e => he qs e)) FU qs r54 hj hX
        refine hE ?_ _ hi
        clear hE hi
        cases h
        exact R_return rfl DX3_advance_264
    · replace h := if_f h c24
      refine R_if_eq_f DX3_advance_91 c24 ?_
      refine R_aload DX3_advance_94 0 rfl ?_
      refine R_constI DX3_advance_95 ci_1 ?_
      obtain ⟨s55, es55, h⟩ := bind_some h
      refine R_pI DX3_advance_96 fl_RX3_49 es55 ?_
      obtain ⟨r66, hi, h⟩ := bind_some h
      have hE : (fun u99 : Hp => R G MX3_advance 264 [] [] u99 (none, w)) r66 → ∀ (qs : Hp), iter (fX3_advance_l99 x0) FU qs = some r66 → R G MX3_advance 99 [(0, .ref x0)] [] qs (none, w) := fun hX qs hj => loop_R (fX3_advance_l99 x0) (fun p99 : Hp => R G MX3_advance 99 [(0, .ref x0)] [] p99 (none, w)) (fun u99 : Hp => R G MX3_advance 264 [] [] u99 (none, w)) (fun a w hw hc he => tX3_advance_l99 hw (fun qs e => hc qs e) (fun qs e => he qs e)) FU qs r66 hj hX
      refine hE ?_ _ hi
      clear hE hi
      cases h
      exact R_return rfl DX3_advance_264
  · replace h := if_f h c19
    refine R_icmp_lt_f DX3_advance_68 c19 ?_
    refine R_aload DX3_advance_71 0 rfl ?_
    refine R_constI DX3_advance_72 ci_0 ?_
    obtain ⟨s67, es67, h⟩ := bind_some h
    refine R_pI DX3_advance_73 fl_RX3_49 es67 ?_
    refine R_goto DX3_advance_76 ?_
    cases h
    exact R_return rfl DX3_advance_264
set_option maxRecDepth 8000 in
theorem kX3_advance {G : Gm} {x0 : Nat} {s : Hp} {w : Hp} (h : fX3_advance x0 s = some w) : (s.2.2 x0).1 = 3 ∧ Call G MX3_advance [.ref x0] s (none, w) := by
  unfold fX3_advance at h
  obtain ⟨_, e0, h⟩ := bind_some h
  refine ⟨ck_some e0, Call.of_R pnRX3 (Nat.le_of_ble_eq_true rfl) ?_⟩
  clear e0
  show R G MX3_advance 0 [(0, .ref x0)] [] s (none, w)
  obtain ⟨r14, hi, h⟩ := bind_some h
  have hE : (fun u0 : Hp => R G MX3_advance 52 [(0, .ref x0)] [] u0 (none, w)) r14 → ∀ (qs : Hp), iter (fX3_advance_l0 x0) FU qs = some r14 → R G MX3_advance 0 [(0, .ref x0)] [] qs (none, w) := fun hX qs hj => loop_R (fX3_advance_l0 x0) (fun p0 : Hp => R G MX3_advance 0 [(0, .ref x0)] [] p0 (none, w)) (fun u0 : Hp => R G MX3_advance 52 [(0, .ref x0)] [] u0 (none, w)) (fun a w hw hc he => tX3_advance_l0 hw (fun qs e => hc qs e) (fun qs e => he qs e)) FU qs r14 hj hX
  refine hE ?_ _ hi
  clear hE hi
  exact tX3_advance_b52 h
set_option maxRecDepth 8000 in
theorem tX3_isWord_b24 {G : Gm} {s : Hp} {w : Int32 × Hp} (h : fX3_isWord_b24 s = some w) : R G MX3_isWord 24 [] [] s (some (.int w.1), w.2) := by
  unfold fX3_isWord_b24 at h
  refine R_constI DX3_isWord_24 ci_0 ?_
  cases h
  exact R_zreturn rfl DX3_isWord_25 (by decide)
set_option maxRecDepth 8000 in
theorem tX3_isWord_l28 {G : Gm} {x0 : Nat} {x1 : Nat} {o : Option Value × Hp} {a : Int32 × Hp} {w : (Int32 × Hp) ⊕ ((Hp) ⊕ (Hp))} (h : fX3_isWord_l28 x0 x1 a = some w) (hc : ∀ (q2 : Int32) (qs : Hp), w = .inl (q2, qs) → R G MX3_isWord 28 [(0, .ref x0), (1, .ref x1), (2, .int q2)] [] qs o) (he0 : ∀ (qs : Hp), w = .inr (.inl qs) → R G MX3_isWord 63 [] [] qs o) (he1 : ∀ (qs : Hp), w = .inr (.inr qs) → R G MX3_isWord 55 [] [] qs o) : R G MX3_isWord 28 [(0, .ref x0), (1, .ref x1), (2, .int a.1)] [] a.2 o := by
  unfold fX3_isWord_l28 at h
  refine R_iload DX3_isWord_28 2 rfl ?_
  refine R_aload DX3_isWord_29 1 rfl ?_
  obtain ⟨r7, er7, h⟩ := bind_some h
  refine R_cT [] DX3_isWord_30 kztJ0_length_8abf5 ml_RX3_221 ⟨Nat.le_of_ble_eq_true rfl, Nat.le_of_ble_eq_true rfl⟩ rfl (Nat.le_of_ble_eq_true rfl) (kJ0_length_8abf5 er7) ?_
  by_cases c8 : r7.1 ≤ a.1
  · replace h := if_t h c8
    refine R_icmp_ge_t DX3_isWord_33 c8 ?_
    refine R.sub (L' := []) [] rfl ?_
    cases h
    exact he0 _ rfl
  · replace h := if_f h c8
    refine R_icmp_ge_f DX3_isWord_33 c8 ?_
    refine R_aload DX3_isWord_36 0 rfl ?_
    obtain ⟨v9, ev9, h⟩ := bind_some h
    refine R_gR DX3_isWord_37 fl_RX3_15 ev9 ?_
    refine R_aload DX3_isWord_40 0 rfl ?_
    obtain ⟨v10, ev10, h⟩ := bind_some h
    refine R_gI DX3_isWord_41 fl_RX3_101 ev10 ?_
    refine R_iload DX3_isWord_44 2 rfl ?_
    refine R_iadd DX3_isWord_45 ?_
    obtain ⟨v11, ev11, h⟩ := bind_some h
    refine R_aB DX3_isWord_46 ev11 ?_
    refine R_aload DX3_isWord_47 1 rfl ?_
    refine R_iload DX3_isWord_48 2 rfl ?_
    obtain ⟨r12, er12, h⟩ := bind_some h
    refine R_cT [.int a.1] DX3_isWord_49 kztJ0_charAt_5068e ml_RX3_225 ⟨Nat.le_of_ble_eq_true rfl, Nat.le_of_ble_eq_true rfl⟩ rfl (Nat.le_of_ble_eq_true rfl) (kJ0_charAt_5068e er12) ?_
    by_cases c13 : v11 = r12.1
    · replace h := if_t h c13
      refine R_icmp_eq_t DX3_isWord_52 c13 ?_
      refine R_iinc [(2, .int (a.1 + iI 1)), (0, .ref x0), (1, .ref x1)] DX3_isWord_57 2 rfl (v := a.1 + iI 1) (by rfl) (by decide) rfl ?_
      refine R_goto DX3_isWord_60 ?_
      refine R.sub (L' := [(0, .ref x0), (1, .ref x1), (2, .int (a.1 + iI 1))]) [1, 2, 0] rfl ?_
      cases h
      exact hc _ _ rfl
    · replace h := if_f h c13
      refine R_icmp_eq_f DX3_isWord_52 c13 ?_
      refine R.sub (L' := []) [] rfl ?_
      cases h
      exact he1 _ rfl
set_option maxRecDepth 8000 in
theorem kX3_isWord {G : Gm} {x0 : Nat} {x1 : Nat} {s : Hp} {w : Int32 × Hp} (h : fX3_isWord x0 x1 s = some w) : (s.2.2 x0).1 = 3 ∧ Call G MX3_isWord [.ref x0, .ref x1] s (some (.int w.1), w.2) := by
  unfold fX3_isWord at h
  obtain ⟨_, e0, h⟩ := bind_some h
  refine ⟨ck_some e0, Call.of_R pnRX3 (Nat.le_of_ble_eq_true rfl) ?_⟩
  clear e0
  show R G MX3_isWord 0 [(0, .ref x0), (1, .ref x1)] [] s (some (.int w.1), w.2)
  refine R_aload DX3_isWord_0 0 rfl ?_
  obtain ⟨v1, ev1, h⟩ := bind_some h
  refine R_gI DX3_isWord_1 fl_RX3_49 ev1 ?_
  refine R_constI DX3_isWord_4 ci_1 ?_
  by_cases c2 : v1 = (iI 1)
  · replace h := if_t h c2
    refine R_icmp_ne_f DX3_isWord_5 c2 ?_
    refine R_aload DX3_isWord_8 0 rfl ?_
    obtain ⟨v3, ev3, h⟩ := bind_some h
    refine R_gI DX3_isWord_9 fl_RX3_40 ev3 ?_
    refine R_aload DX3_isWord_12 0 rfl ?_
    obtain ⟨v4, ev4, h⟩ := bind_some h
    refine R_gI DX3_isWord_13 fl_RX3_101 ev4 ?_
    refine R_isub DX3_isWord_16 ?_
    refine R_aload DX3_isWord_17 1 rfl ?_
    obtain ⟨r5, er5, h⟩ := bind_some h
    refine R_cT [] DX3_isWord_18 kztJ0_length_8abf5 ml_RX3_221 ⟨Nat.le_of_ble_eq_true rfl, Nat.le_of_ble_eq_true rfl⟩ rfl (Nat.le_of_ble_eq_true rfl) (kJ0_length_8abf5 er5) ?_
    by_cases c6 : (v3 - v4) = r5.1
    · replace h := if_t h c6
      refine R_icmp_eq_t DX3_isWord_21 c6 ?_
      refine R_constI DX3_isWord_26 ci_0 ?_
      refine R_istore [(2, .int (iI 0)), (0, .ref x0), (1, .ref x1)] DX3_isWord_27 (by decide) rfl ?_
      refine R.sub (L' := [(0, .ref x0), (1, .ref x1), (2, .int (iI 0))]) [1, 2, 0] rfl ?_
      obtain ⟨r14, hi, h⟩ := bind_some h
      have hE : (Sum.elim (fun u28 : Hp => R G MX3_isWord 63 [] [] u28 (some (.int w.1), w.2)) (fun u28 : Hp => R G MX3_isWord 55 [] [] u28 (some (.int w.1), w.2))) r14 → ∀ (q2 : Int32) (qs : Hp), iter (fX3_isWord_l28 x0 x1) FU (q2, qs) = some r14 → R G MX3_isWord 28 [(0, .ref x0), (1, .ref x1), (2, .int q2)] [] qs (some (.int w.1), w.2) := fun hX q2 qs hj => loop_R (fX3_isWord_l28 x0 x1) (fun p28 : Int32 × Hp => R G MX3_isWord 28 [(0, .ref x0), (1, .ref x1), (2, .int p28.1)] [] p28.2 (some (.int w.1), w.2)) (Sum.elim (fun u28 : Hp => R G MX3_isWord 63 [] [] u28 (some (.int w.1), w.2)) (fun u28 : Hp => R G MX3_isWord 55 [] [] u28 (some (.int w.1), w.2))) (fun a w hw hc he => tX3_isWord_l28 hw (fun q2 qs e => hc (q2, qs) e) (fun qs e => he (.inl qs) e) (fun qs e => he (.inr qs) e)) FU (q2, qs) r14 hj hX
      refine hE ?_ _ _ hi
      clear hE hi
      rcases r14 with r14a | r14b
      · replace h := el_l h
        refine R_constI DX3_isWord_63 ci_1 ?_
        cases h
        exact R_zreturn rfl DX3_isWord_64 (by decide)
      replace h := el_r h
      refine R_constI DX3_isWord_55 ci_0 ?_
      cases h
      exact R_zreturn rfl DX3_isWord_56 (by decide)
    · replace h := if_f h c6
      refine R_icmp_eq_f DX3_isWord_21 c6 ?_
      refine R.sub (L' := []) [] rfl ?_
      exact tX3_isWord_b24 h
  · replace h := if_f h c2
    refine R_icmp_ne_t DX3_isWord_5 c2 ?_
    refine R.sub (L' := []) [] rfl ?_
    exact tX3_isWord_b24 h
set_option maxRecDepth 8000 in
theorem kX3_fail {G : Gm} {x0 : Nat} {x1 : Int32} {x2 : Int32} {s : Hp} {w : Hp} (h : fX3_fail x0 x1 x2 s = some w) : (s.2.2 x0).1 = 3 ∧ Call G MX3_fail [.ref x0, .int x1, .int x2] s (none, w) := by
  unfold fX3_fail at h
  obtain ⟨_, e0, h⟩ := bind_some h
  refine ⟨ck_some e0, Call.of_R pnRX3 (Nat.le_of_ble_eq_true rfl) ?_⟩
  clear e0
  show R G MX3_fail 0 [(0, .ref x0), (1, .int x1), (2, .int x2)] [] s (none, w)
  refine R_aload DX3_fail_0 0 rfl ?_
  obtain ⟨v1, ev1, h⟩ := bind_some h
  refine R_gI DX3_fail_1 fl_RX3_37 ev1 ?_
  by_cases c2 : v1 = 0
  · replace h := if_t h c2
    refine R_if_ne_f DX3_fail_4 c2 ?_
    refine R_aload DX3_fail_7 0 rfl ?_
    refine R_iload DX3_fail_8 1 rfl ?_
    obtain ⟨s3, es3, h⟩ := bind_some h
    refine R_pI DX3_fail_9 fl_RX3_37 es3 ?_
    refine R_aload DX3_fail_12 0 rfl ?_
    refine R_iload DX3_fail_13 2 rfl ?_
    obtain ⟨s4, es4, h⟩ := bind_some h
    refine R_pI DX3_fail_14 fl_RX3_9 es4 ?_
    cases h
    exact R_return rfl DX3_fail_17
  · replace h := if_f h c2
    refine R_if_ne_t DX3_fail_4 c2 ?_
    cases h
    exact R_return rfl DX3_fail_17
set_option maxRecDepth 8000 in
theorem kX3_takeWord {G : Gm} {x0 : Nat} {x1 : Nat} {s : Hp} {w : Hp} (h : fX3_takeWord x0 x1 s = some w) : (s.2.2 x0).1 = 3 ∧ Call G MX3_takeWord [.ref x0, .ref x1] s (none, w) := by
  unfold fX3_takeWord at h
  obtain ⟨_, e0, h⟩ := bind_some h
  refine ⟨ck_some e0, Call.of_R pnRX3 (Nat.le_of_ble_eq_true rfl) ?_⟩
  clear e0
  show R G MX3_takeWord 0 [(0, .ref x0), (1, .ref x1)] [] s (none, w)
  refine R_aload DX3_takeWord_0 0 rfl ?_
  refine R_aload DX3_takeWord_1 1 rfl ?_
  obtain ⟨r1, er1, h⟩ := bind_some h
  refine R_cV1 [.ref x1] DX3_takeWord_2 kzvX3_isWord ml_RX3_69 ⟨Nat.le_of_ble_eq_true rfl, Nat.le_of_ble_eq_true rfl⟩ rfl (Nat.le_of_ble_eq_true rfl) (kX3_isWord er1) ?_
  by_cases c2 : r1.1 = 0
  · replace h := if_t h c2
    refine R_if_eq_t DX3_takeWord_5 c2 ?_
    refine R_aload DX3_takeWord_15 0 rfl ?_
    refine R_constI DX3_takeWord_16 ci_1 ?_
    refine R_aload DX3_takeWord_17 0 rfl ?_
    obtain ⟨v3, ev3, h⟩ := bind_some h
    refine R_gI DX3_takeWord_18 fl_RX3_101 ev3 ?_
    obtain ⟨s4, es4, h⟩ := bind_some h
    refine R_cV0 [.int (iI 1), .int v3] DX3_takeWord_21 kzvX3_fail ml_RX3_104 ⟨Nat.le_of_ble_eq_true rfl, Nat.le_of_ble_eq_true rfl⟩ rfl (Nat.le_of_ble_eq_true rfl) (kX3_fail es4) ?_
    cases h
    exact R_return rfl DX3_takeWord_24
  · replace h := if_f h c2
    refine R_if_eq_f DX3_takeWord_5 c2 ?_
    refine R_aload DX3_takeWord_8 0 rfl ?_
    obtain ⟨s5, es5, h⟩ := bind_some h
    refine R_cV0 [] DX3_takeWord_9 kzvX3_advance ml_RX3_46 ⟨Nat.le_of_ble_eq_true rfl, Nat.le_of_ble_eq_true rfl⟩ rfl (Nat.le_of_ble_eq_true rfl) (kX3_advance es5) ?_
    refine R_goto DX3_takeWord_12 ?_
    cases h
    exact R_return rfl DX3_takeWord_24
set_option maxRecDepth 8000 in
theorem tX3_takeNumber_b51 {G : Gm} {x0 : Nat} {x3 : Int32} {s : Hp} {w : Int32 × Hp} (h : fX3_takeNumber_b51 x0 x3 s = some w) : R G MX3_takeNumber 51 [(0, .ref x0), (3, .int x3)] [] s (some (.int w.1), w.2) := by
  unfold fX3_takeNumber_b51 at h
  refine R_aload DX3_takeNumber_51 0 rfl ?_
  obtain ⟨v7, ev7, h⟩ := bind_some h
  refine R_gI DX3_takeNumber_52 fl_RX3_37 ev7 ?_
  by_cases c8 : v7 = 0
  · replace h := if_t h c8
    refine R_if_ne_f DX3_takeNumber_55 c8 ?_
    refine R_iload DX3_takeNumber_58 1 rfl ?_
    refine R_goto DX3_takeNumber_59 ?_
    cases h
    exact R_ireturn rfl DX3_takeNumber_63
  · replace h := if_f h c8
    refine R_if_ne_t DX3_takeNumber_55 c8 ?_
    refine R_constI DX3_takeNumber_62 ci_0 ?_
    cases h
    exact R_ireturn rfl DX3_takeNumber_63
set_option maxRecDepth 8000 in
theorem tX3_takeNumber_b35 {G : Gm} {x0 : Nat} {x3 : Int32} {s : Hp} {w : Int32 × Hp} (h : fX3_takeNumber_b35 x0 x3 s = some w) : R G MX3_takeNumber 35 [(0, .ref x0), (3, .int x3)] [] s (some (.int w.1), w.2) := by
  unfold fX3_takeNumber_b35 at h
  refine R_aload DX3_takeNumber_35 0 rfl ?_
  refine R_constI DX3_takeNumber_36 ci_2 ?_
  refine R_aload DX3_takeNumber_37 0 rfl ?_
  obtain ⟨v5, ev5, h⟩ := bind_some h
  refine R_gI DX3_takeNumber_38 fl_RX3_101 ev5 ?_
  obtain ⟨s6, es6, h⟩ := bind_some h
  refine R_cV0 [.int (iI 2), .int v5] DX3_takeNumber_41 kzvX3_fail ml_RX3_104 ⟨Nat.le_of_ble_eq_true rfl, Nat.le_of_ble_eq_true rfl⟩ rfl (Nat.le_of_ble_eq_true rfl) (kX3_fail es6) ?_
  refine R_goto DX3_takeNumber_44 ?_
  exact tX3_takeNumber_b51 h
set_option maxRecDepth 8000 in
theorem kX3_takeNumber {G : Gm} {x0 : Nat} {x1 : Int32} {x2 : Int32} {s : Hp} {w : Int32 × Hp} (h : fX3_takeNumber x0 x1 x2 s = some w) : (s.2.2 x0).1 = 3 ∧ Call G MX3_takeNumber [.ref x0, .int x1, .int x2] s (some (.int w.1), w.2) := by
  unfold fX3_takeNumber at h
  obtain ⟨_, e0, h⟩ := bind_some h
  refine ⟨ck_some e0, Call.of_R pnRX3 (Nat.le_of_ble_eq_true rfl) ?_⟩
  clear e0
  show R G MX3_takeNumber 0 [(0, .ref x0), (1, .int x1), (2, .int x2)] [] s (some (.int w.1), w.2)
  refine R_aload DX3_takeNumber_0 0 rfl ?_
  obtain ⟨v1, ev1, h⟩ := bind_some h
  refine R_gI DX3_takeNumber_1 fl_RX3_218 ev1 ?_
  refine R_istore [(3, .int v1), (0, .ref x0), (1, .int x1), (2, .int x2)] DX3_takeNumber_4 (by decide) rfl ?_
  refine R_aload DX3_takeNumber_5 1 rfl ?_
  obtain ⟨v2, ev2, h⟩ := bind_some h
  refine R_gI DX3_takeNumber_6 fl_RX3_49 ev2 ?_
  refine R_constI DX3_takeNumber_9 ci_2 ?_
  by_cases c3 : v2 = (iI 2)
  · replace h := if_t h c3
    refine R_icmp_eq_t DX3_takeNumber_10 c3 ?_
    refine R_iload DX3_takeNumber_25 0 rfl ?_
    refine R_iload DX3_takeNumber_26 2 rfl ?_
    by_cases c4 : v1 < x1
    · replace h := if_t h c4
      refine R_icmp_lt_t DX3_takeNumber_27 c4 ?_
      refine R.sub (L' := [(0, .ref x0), (3, .int v1)]) [1, 0] rfl ?_
      exact tX3_takeNumber_b35 h
    · replace h := if_f h c4
      refine R_icmp_lt_f DX3_takeNumber_27 c4 ?_
      refine R_iload DX3_takeNumber_30 0 rfl ?_
      refine R_iload DX3_takeNumber_31 3 rfl ?_
      by_cases c9 : v1 ≤ x2
      · replace h := if_t h c9
        refine R_icmp_le_t DX3_takeNumber_32 c9 ?_
        refine R_aload DX3_takeNumber_47 1 rfl ?_
        obtain ⟨s10, es10, h⟩ := bind_some h
        refine R_cV0 [] DX3_takeNumber_48 kzvX3_advance ml_RX3_46 ⟨Nat.le_of_ble_eq_true rfl, Nat.le_of_ble_eq_true rfl⟩ rfl (Nat.le_of_ble_eq_true rfl) (kX3_advance es10) ?_
        refine R.sub (L' := [(0, .ref x0), (3, .int v1)]) [1, 0] rfl ?_
        exact tX3_takeNumber_b51 h
      · replace h := if_f h c9
        refine R_icmp_le_f DX3_takeNumber_32 c9 ?_
        refine R.sub (L' := [(0, .ref x0), (3, .int v1)]) [1, 0] rfl ?_
        exact tX3_takeNumber_b35 h
  · replace h := if_f h c3
    refine R_icmp_eq_f DX3_takeNumber_10 c3 ?_
    refine R_aload DX3_takeNumber_13 1 rfl ?_
    refine R_constI DX3_takeNumber_14 ci_1 ?_
    refine R_aload DX3_takeNumber_15 1 rfl ?_
    obtain ⟨v11, ev11, h⟩ := bind_some h
    refine R_gI DX3_takeNumber_16 fl_RX3_101 ev11 ?_
    obtain ⟨s12, es12, h⟩ := bind_some h
    refine R_cV0 [.int (iI 1), .int v11] DX3_takeNumber_19 kzvX3_fail ml_RX3_104 ⟨Nat.le_of_ble_eq_true rfl, Nat.le_of_ble_eq_true rfl⟩ rfl (Nat.le_of_ble_eq_true rfl) (kX3_fail es12) ?_
    refine R_goto DX3_takeNumber_22 ?_
    refine R.sub (L' := [(0, .ref x0), (3, .int v1)]) [1, 0] rfl ?_
    exact tX3_takeNumber_b51 h
set_option maxRecDepth 8000 in
theorem kX3_readSizes {G : Gm} {x0 : Nat} {s : Hp} {w : Hp} (h : fX3_readSizes (gK G) x0 s = some w) : (s.2.2 x0).1 = 3 ∧ Call G MX3_readSizes [.ref x0] s (none, w) := by
  unfold fX3_readSizes at h
  obtain ⟨_, e0, h⟩ := bind_some h
  refine ⟨ck_some e0, Call.of_R pnRX3 (Nat.le_of_ble_eq_true rfl) ?_⟩
  clear e0
  show R G MX3_readSizes 0 [(0, .ref x0)] [] s (none, w)
  refine R_aload DX3_readSizes_0 0 rfl ?_
  refine R_ldcS 0 (by decide) rfl rfl DX3_readSizes_1 ?_
  obtain ⟨s1, es1, h⟩ := bind_some h
  refine R_cV0 [.ref (gK G 0)] DX3_readSizes_3 kzvX3_takeWord ml_RX3_110 ⟨Nat.le_of_ble_eq_true rfl, Nat.le_of_ble_eq_true rfl⟩ rfl (Nat.le_of_ble_eq_true rfl) (kX3_takeWord es1) ?_
  refine R_aload DX3_readSizes_6 0 rfl ?_
  refine R_ldcS 1 (by decide) rfl rfl DX3_readSizes_7 ?_
  obtain ⟨s2, es2, h⟩ := bind_some h
  refine R_cV0 [.ref (gK G 1)] DX3_readSizes_9 kzvX3_takeWord ml_RX3_110 ⟨Nat.le_of_ble_eq_true rfl, Nat.le_of_ble_eq_true rfl⟩ rfl (Nat.le_of_ble_eq_true rfl) (kX3_takeWord es2) ?_
  refine R_aload DX3_readSizes_12 0 rfl ?_
  obtain ⟨v3, ev3, h⟩ := bind_some h
  refine R_gR DX3_readSizes_13 fl_RX3_28 ev3 ?_
  refine R_aload DX3_readSizes_16 0 rfl ?_
  refine R_constI DX3_readSizes_17 ci_2 ?_
  refine R_constI DX3_readSizes_18 ci_8 ?_
  obtain ⟨r4, er4, h⟩ := bind_some h
  refine R_cV1 [.int (iI 2), .int (iI 8)] DX3_readSizes_20 kzvX3_takeNumber ml_RX3_116 ⟨Nat.le_of_ble_eq_true rfl, Nat.le_of_ble_eq_true rfl⟩ rfl (Nat.le_of_ble_eq_true rfl) (kX3_takeNumber er4) ?_
  obtain ⟨s5, es5, h⟩ := bind_some h
  refine R_pI DX3_readSizes_23 fl_RX3_119 es5 ?_
  refine R_aload DX3_readSizes_26 0 rfl ?_
  refine R_ldcS 2 (by decide) rfl rfl DX3_readSizes_27 ?_
  obtain ⟨s6, es6, h⟩ := bind_some h
  refine R_cV0 [.ref (gK G 2)] DX3_readSizes_29 kzvX3_takeWord ml_RX3_110 ⟨Nat.le_of_ble_eq_true rfl, Nat.le_of_ble_eq_true rfl⟩ rfl (Nat.le_of_ble_eq_true rfl) (kX3_takeWord es6) ?_
  refine R_aload DX3_readSizes_32 0 rfl ?_
  obtain ⟨v7, ev7, h⟩ := bind_some h
  refine R_gR DX3_readSizes_33 fl_RX3_28 ev7 ?_
  refine R_aload DX3_readSizes_36 0 rfl ?_
  refine R_constI DX3_readSizes_37 ci_2 ?_
  refine R_constI DX3_readSizes_38 ci_8 ?_
  obtain ⟨r8, er8, h⟩ := bind_some h
  refine R_cV1 [.int (iI 2), .int (iI 8)] DX3_readSizes_40 kzvX3_takeNumber ml_RX3_116 ⟨Nat.le_of_ble_eq_true rfl, Nat.le_of_ble_eq_true rfl⟩ rfl (Nat.le_of_ble_eq_true rfl) (kX3_takeNumber er8) ?_
  obtain ⟨s9, es9, h⟩ := bind_some h
  refine R_pI DX3_readSizes_43 fl_RX3_123 es9 ?_
  refine R_aload DX3_readSizes_46 0 rfl ?_
  refine R_ldcS 3 (by decide) rfl rfl DX3_readSizes_47 ?_
  obtain ⟨s10, es10, h⟩ := bind_some h
  refine R_cV0 [.ref (gK G 3)] DX3_readSizes_49 kzvX3_takeWord ml_RX3_110 ⟨Nat.le_of_ble_eq_true rfl, Nat.le_of_ble_eq_true rfl⟩ rfl (Nat.le_of_ble_eq_true rfl) (kX3_takeWord es10) ?_
  refine R_aload DX3_readSizes_52 0 rfl ?_
  obtain ⟨v11, ev11, h⟩ := bind_some h
  refine R_gR DX3_readSizes_53 fl_RX3_28 ev11 ?_
  refine R_aload DX3_readSizes_56 0 rfl ?_
  refine R_constI DX3_readSizes_57 ci_2 ?_
  refine R_constI DX3_readSizes_58 ci_5 ?_
  obtain ⟨r12, er12, h⟩ := bind_some h
  refine R_cV1 [.int (iI 2), .int (iI 5)] DX3_readSizes_59 kzvX3_takeNumber ml_RX3_116 ⟨Nat.le_of_ble_eq_true rfl, Nat.le_of_ble_eq_true rfl⟩ rfl (Nat.le_of_ble_eq_true rfl) (kX3_takeNumber er12) ?_
  obtain ⟨s13, es13, h⟩ := bind_some h
  refine R_pI DX3_readSizes_62 fl_RX3_127 es13 ?_
  refine R_aload DX3_readSizes_65 0 rfl ?_
  refine R_ldcS 4 (by decide) rfl rfl DX3_readSizes_66 ?_
  obtain ⟨s14, es14, h⟩ := bind_some h
  refine R_cV0 [.ref (gK G 4)] DX3_readSizes_68 kzvX3_takeWord ml_RX3_110 ⟨Nat.le_of_ble_eq_true rfl, Nat.le_of_ble_eq_true rfl⟩ rfl (Nat.le_of_ble_eq_true rfl) (kX3_takeWord es14) ?_
  refine R_aload DX3_readSizes_71 0 rfl ?_
  obtain ⟨v15, ev15, h⟩ := bind_some h
  refine R_gR DX3_readSizes_72 fl_RX3_28 ev15 ?_
  refine R_aload DX3_readSizes_75 0 rfl ?_
  refine R_constI DX3_readSizes_76 ci_1 ?_
  refine R_constI DX3_readSizes_77 ci_24 ?_
  obtain ⟨r16, er16, h⟩ := bind_some h
  refine R_cV1 [.int (iI 1), .int (iI 24)] DX3_readSizes_79 kzvX3_takeNumber ml_RX3_116 ⟨Nat.le_of_ble_eq_true rfl, Nat.le_of_ble_eq_true rfl⟩ rfl (Nat.le_of_ble_eq_true rfl) (kX3_takeNumber er16) ?_
  obtain ⟨s17, es17, h⟩ := bind_some h
  refine R_pI DX3_readSizes_82 fl_RX3_131 es17 ?_
  refine R_aload DX3_readSizes_85 0 rfl ?_
  refine R_ldcS 5 (by decide) rfl rfl DX3_readSizes_86 ?_
  obtain ⟨s18, es18, h⟩ := bind_some h
  refine R_cV0 [.ref (gK G 5)] DX3_readSizes_88 kzvX3_takeWord ml_RX3_110 ⟨Nat.le_of_ble_eq_true rfl, Nat.le_of_ble_eq_true rfl⟩ rfl (Nat.le_of_ble_eq_true rfl) (kX3_takeWord es18) ?_
  refine R_aload DX3_readSizes_91 0 rfl ?_
  obtain ⟨v19, ev19, h⟩ := bind_some h
  refine R_gR DX3_readSizes_92 fl_RX3_28 ev19 ?_
  refine R_aload DX3_readSizes_95 0 rfl ?_
  refine R_constI DX3_readSizes_96 ci_0 ?_
  refine R_constI DX3_readSizes_97 ci_24 ?_
  obtain ⟨r20, er20, h⟩ := bind_some h
  refine R_cV1 [.int (iI 0), .int (iI 24)] DX3_readSizes_99 kzvX3_takeNumber ml_RX3_116 ⟨Nat.le_of_ble_eq_true rfl, Nat.le_of_ble_eq_true rfl⟩ rfl (Nat.le_of_ble_eq_true rfl) (kX3_takeNumber er20) ?_
  obtain ⟨s21, es21, h⟩ := bind_some h
  refine R_pI DX3_readSizes_102 fl_RX3_135 es21 ?_
  refine R_aload DX3_readSizes_105 0 rfl ?_
  obtain ⟨v22, ev22, h⟩ := bind_some h
  refine R_gR DX3_readSizes_106 fl_RX3_28 ev22 ?_
  refine R_constI DX3_readSizes_109 ci_9 ?_
  obtain ⟨s23, es23, h⟩ := bind_some h
  refine R_pI DX3_readSizes_111 fl_RX3_137 es23 ?_
  cases h
  exact R_return rfl DX3_readSizes_114
set_option maxRecDepth 8000 in
theorem kX3_readSells {G : Gm} {x0 : Nat} {s : Hp} {w : Hp} (h : fX3_readSells (gK G) x0 s = some w) : (s.2.2 x0).1 = 3 ∧ Call G MX3_readSells [.ref x0] s (none, w) := by
  unfold fX3_readSells at h
  obtain ⟨_, e0, h⟩ := bind_some h
  refine ⟨ck_some e0, Call.of_R pnRX3 (Nat.le_of_ble_eq_true rfl) ?_⟩
  clear e0
  show R G MX3_readSells 0 [(0, .ref x0)] [] s (none, w)
  refine R_aload DX3_readSells_0 0 rfl ?_
  obtain ⟨s1, es1, h⟩ := bind_some h
  refine R_cV0 [] DX3_readSells_1 kzvX3_advance ml_RX3_46 ⟨Nat.le_of_ble_eq_true rfl, Nat.le_of_ble_eq_true rfl⟩ rfl (Nat.le_of_ble_eq_true rfl) (kX3_advance es1) ?_
  refine R_aload DX3_readSells_4 0 rfl ?_
  refine R_ldcS 7 (by decide) rfl rfl DX3_readSells_5 ?_
  obtain ⟨s2, es2, h⟩ := bind_some h
  refine R_cV0 [.ref (gK G 7)] DX3_readSells_7 kzvX3_takeWord ml_RX3_110 ⟨Nat.le_of_ble_eq_true rfl, Nat.le_of_ble_eq_true rfl⟩ rfl (Nat.le_of_ble_eq_true rfl) (kX3_takeWord es2) ?_
  refine R_aload DX3_readSells_10 0 rfl ?_
  obtain ⟨v3, ev3, h⟩ := bind_some h
  refine R_gR DX3_readSells_11 fl_RX3_28 ev3 ?_
  refine R_aload DX3_readSells_14 0 rfl ?_
  refine R_constI DX3_readSells_15 ci_0 ?_
  refine R_aload DX3_readSells_16 0 rfl ?_
  obtain ⟨v4, ev4, h⟩ := bind_some h
  refine R_gR DX3_readSells_17 fl_RX3_28 ev4 ?_
  obtain ⟨v5, ev5, h⟩ := bind_some h
  refine R_gI DX3_readSells_20 fl_RX3_127 ev5 ?_
  refine R_constI DX3_readSells_23 ci_1 ?_
  refine R_isub DX3_readSells_24 ?_
  obtain ⟨r6, er6, h⟩ := bind_some h
  refine R_cV1 [.int (iI 0), .int (v5 - (iI 1))] DX3_readSells_25 kzvX3_takeNumber ml_RX3_116 ⟨Nat.le_of_ble_eq_true rfl, Nat.le_of_ble_eq_true rfl⟩ rfl (Nat.le_of_ble_eq_true rfl) (kX3_takeNumber er6) ?_
  obtain ⟨s7, es7, h⟩ := bind_some h
  refine R_pI DX3_readSells_28 fl_RX3_142 es7 ?_
  refine R_aload DX3_readSells_31 0 rfl ?_
  refine R_ldcS 8 (by decide) rfl rfl DX3_readSells_32 ?_
  obtain ⟨s8, es8, h⟩ := bind_some h
  refine R_cV0 [.ref (gK G 8)] DX3_readSells_34 kzvX3_takeWord ml_RX3_110 ⟨Nat.le_of_ble_eq_true rfl, Nat.le_of_ble_eq_true rfl⟩ rfl (Nat.le_of_ble_eq_true rfl) (kX3_takeWord es8) ?_
  refine R_aload DX3_readSells_37 0 rfl ?_
  obtain ⟨v9, ev9, h⟩ := bind_some h
  refine R_gR DX3_readSells_38 fl_RX3_28 ev9 ?_
  refine R_aload DX3_readSells_41 0 rfl ?_
  refine R_constI DX3_readSells_42 ci_0 ?_
  refine R_constI DX3_readSells_43 ci_99 ?_
  obtain ⟨r10, er10, h⟩ := bind_some h
  refine R_cV1 [.int (iI 0), .int (iI 99)] DX3_readSells_45 kzvX3_takeNumber ml_RX3_116 ⟨Nat.le_of_ble_eq_true rfl, Nat.le_of_ble_eq_true rfl⟩ rfl (Nat.le_of_ble_eq_true rfl) (kX3_takeNumber er10) ?_
  obtain ⟨s11, es11, h⟩ := bind_some h
  refine R_pI DX3_readSells_48 fl_RX3_137 es11 ?_
  cases h
  exact R_return rfl DX3_readSells_51
set_option maxRecDepth 8000 in
theorem kX3_windWord {G : Gm} {x0 : Nat} {s : Hp} {w : Int32 × Hp} (h : fX3_windWord (gK G) x0 s = some w) : (s.2.2 x0).1 = 3 ∧ Call G MX3_windWord [.ref x0] s (some (.int w.1), w.2) := by
  unfold fX3_windWord at h
  obtain ⟨_, e0, h⟩ := bind_some h
  refine ⟨ck_some e0, Call.of_R pnRX3 (Nat.le_of_ble_eq_true rfl) ?_⟩
  clear e0
  show R G MX3_windWord 0 [(0, .ref x0)] [] s (some (.int w.1), w.2)
  refine R_aload DX3_windWord_0 0 rfl ?_
  refine R_ldcS 11 (by decide) rfl rfl DX3_windWord_1 ?_
  obtain ⟨r1, er1, h⟩ := bind_some h
  refine R_cV1 [.ref (gK G 11)] DX3_windWord_3 kzvX3_isWord ml_RX3_69 ⟨Nat.le_of_ble_eq_true rfl, Nat.le_of_ble_eq_true rfl⟩ rfl (Nat.le_of_ble_eq_true rfl) (kX3_isWord er1) ?_
  by_cases c2 : r1.1 = 0
  · replace h := if_t h c2
    refine R_if_eq_t DX3_windWord_6 c2 ?_
    refine R_aload DX3_windWord_11 0 rfl ?_
    refine R_ldcS 12 (by decide) rfl rfl DX3_windWord_12 ?_
    obtain ⟨r3, er3, h⟩ := bind_some h
    refine R_cV1 [.ref (gK G 12)] DX3_windWord_14 kzvX3_isWord ml_RX3_69 ⟨Nat.le_of_ble_eq_true rfl, Nat.le_of_ble_eq_true rfl⟩ rfl (Nat.le_of_ble_eq_true rfl) (kX3_isWord er3) ?_
    by_cases c4 : r3.1 = 0
    · replace h := if_t h c4
      refine R_if_eq_t DX3_windWord_17 c4 ?_
      refine R_aload DX3_windWord_22 0 rfl ?_
      refine R_ldcS 13 (by decide) rfl rfl DX3_windWord_23 ?_
      obtain ⟨r5, er5, h⟩ := bind_some h
      refine R_cV1 [.ref (gK G 13)] DX3_windWord_25 kzvX3_isWord ml_RX3_69 ⟨Nat.le_of_ble_eq_true rfl, Nat.le_of_ble_eq_true rfl⟩ rfl (Nat.le_of_ble_eq_true rfl) (kX3_isWord er5) ?_
      by_cases c6 : r5.1 = 0
      · replace h := if_t h c6
        refine R_if_eq_t DX3_windWord_28 c6 ?_
        refine R_aload DX3_windWord_33 0 rfl ?_
        refine R_ldcS 14 (by decide) rfl rfl DX3_windWord_34 ?_
        obtain ⟨r7, er7, h⟩ := bind_some h
        refine R_cV1 [.ref (gK G 14)] DX3_windWord_36 kzvX3_isWord ml_RX3_69 ⟨Nat.le_of_ble_eq_true rfl, Nat.le_of_ble_eq_true rfl⟩ rfl (Nat.le_of_ble_eq_true rfl) (kX3_isWord er7) ?_
        by_cases c8 : r7.1 = 0
        · replace h := if_t h c8
          refine R_if_eq_t DX3_windWord_39 c8 ?_
          refine R_aload DX3_windWord_44 0 rfl ?_
          refine R_ldcS 15 (by decide) rfl rfl DX3_windWord_45 ?_
          obtain ⟨r9, er9, h⟩ := bind_some h
          refine R_cV1 [.ref (gK G 15)] DX3_windWord_47 kzvX3_isWord ml_RX3_69 ⟨Nat.le_of_ble_eq_true rfl, Nat.le_of_ble_eq_true rfl⟩ rfl (Nat.le_of_ble_eq_true rfl) (kX3_isWord er9) ?_
          by_cases c10 : r9.1 = 0
          · replace h := if_t h c10
            refine R_if_eq_t DX3_windWord_50 c10 ?_
            refine R_constI DX3_windWord_57 ci_m1 ?_
            cases h
            exact R_ireturn rfl DX3_windWord_58
          · replace h := if_f h c10
            refine R_if_eq_f DX3_windWord_50 c10 ?_
            refine R_constI DX3_windWord_53 ci_4 ?_
            refine R_goto DX3_windWord_54 ?_
            cases h
            exact R_ireturn rfl DX3_windWord_58
        · replace h := if_f h c8
          refine R_if_eq_f DX3_windWord_39 c8 ?_
          refine R_constI DX3_windWord_42 ci_3 ?_
          cases h
          exact R_ireturn rfl DX3_windWord_43
      · replace h := if_f h c6
        refine R_if_eq_f DX3_windWord_28 c6 ?_
        refine R_constI DX3_windWord_31 ci_2 ?_
        cases h
        exact R_ireturn rfl DX3_windWord_32
    · replace h := if_f h c4
      refine R_if_eq_f DX3_windWord_17 c4 ?_
      refine R_constI DX3_windWord_20 ci_1 ?_
      cases h
      exact R_ireturn rfl DX3_windWord_21
  · replace h := if_f h c2
    refine R_if_eq_f DX3_windWord_6 c2 ?_
    refine R_constI DX3_windWord_9 ci_0 ?_
    cases h
    exact R_ireturn rfl DX3_windWord_10
set_option maxRecDepth 8000 in
theorem tX3_takeWind_b26 {G : Gm} {x1 : Int32} {s : Hp} {w : Int32 × Hp} (h : fX3_takeWind_b26 (gK G) x1 s = some w) : R G MX3_takeWind 26 [(1, .int x1)] [] s (some (.int w.1), w.2) := by
  unfold fX3_takeWind_b26 at h
  refine R_iload DX3_takeWind_26 0 rfl ?_
  cases h
  exact R_ireturn rfl DX3_takeWind_27
set_option maxRecDepth 8000 in
theorem kX3_takeWind {G : Gm} {x0 : Nat} {s : Hp} {w : Int32 × Hp} (h : fX3_takeWind (gK G) x0 s = some w) : (s.2.2 x0).1 = 3 ∧ Call G MX3_takeWind [.ref x0] s (some (.int w.1), w.2) := by
  unfold fX3_takeWind at h
  obtain ⟨_, e0, h⟩ := bind_some h
  refine ⟨ck_some e0, Call.of_R pnRX3 (Nat.le_of_ble_eq_true rfl) ?_⟩
  clear e0
  show R G MX3_takeWind 0 [(0, .ref x0)] [] s (some (.int w.1), w.2)
  refine R_aload DX3_takeWind_0 0 rfl ?_
  obtain ⟨r1, er1, h⟩ := bind_some h
  refine R_cV1 [] DX3_takeWind_1 kzvX3_windWord ml_RX3_157 ⟨Nat.le_of_ble_eq_true rfl, Nat.le_of_ble_eq_true rfl⟩ rfl (Nat.le_of_ble_eq_true rfl) (kX3_windWord er1) ?_
  refine R_istore [(1, .int r1.1), (0, .ref x0)] DX3_takeWind_4 (by decide) rfl ?_
  refine R_iload DX3_takeWind_5 0 rfl ?_
  refine R_constI DX3_takeWind_6 ci_m1 ?_
  by_cases c2 : r1.1 = (iI (-1))
  · replace h := if_t h c2
    refine R_icmp_ne_f DX3_takeWind_7 c2 ?_
    refine R_aload DX3_takeWind_10 1 rfl ?_
    refine R_constI DX3_takeWind_11 ci_1 ?_
    refine R_aload DX3_takeWind_12 1 rfl ?_
    obtain ⟨v4, ev4, h⟩ := bind_some h
    refine R_gI DX3_takeWind_13 fl_RX3_101 ev4 ?_
    obtain ⟨s5, es5, h⟩ := bind_some h
    refine R_cV0 [.int (iI 1), .int v4] DX3_takeWind_16 kzvX3_fail ml_RX3_104 ⟨Nat.le_of_ble_eq_true rfl, Nat.le_of_ble_eq_true rfl⟩ rfl (Nat.le_of_ble_eq_true rfl) (kX3_fail es5) ?_
    refine R_goto DX3_takeWind_19 ?_
    refine R.sub (L' := [(1, .int r1.1)]) [0] rfl ?_
    exact tX3_takeWind_b26 h
  · replace h := if_f h c2
    refine R_icmp_ne_t DX3_takeWind_7 c2 ?_
    refine R_aload DX3_takeWind_22 1 rfl ?_
    obtain ⟨s3, es3, h⟩ := bind_some h
    refine R_cV0 [] DX3_takeWind_23 kzvX3_advance ml_RX3_46 ⟨Nat.le_of_ble_eq_true rfl, Nat.le_of_ble_eq_true rfl⟩ rfl (Nat.le_of_ble_eq_true rfl) (kX3_advance es3) ?_
    refine R.sub (L' := [(1, .int r1.1)]) [0] rfl ?_
    exact tX3_takeWind_b26 h
set_option maxRecDepth 8000 in
theorem tX3_readWind_b18 {G : Gm} {x0 : Nat} {s : Hp} {w : Hp} (h : fX3_readWind_b18 (gK G) x0 s = some w) : R G MX3_readWind 18 [(0, .ref x0)] [] s (none, w) := by
  unfold fX3_readWind_b18 at h
  refine R_aload DX3_readWind_18 0 rfl ?_
  refine R_dup DX3_readWind_19 rfl ?_
  obtain ⟨v3, ev3, h⟩ := bind_some h
  refine R_gI DX3_readWind_20 fl_RX3_43 ev3 ?_
  refine R_constI DX3_readWind_23 ci_1 ?_
  refine R_iadd DX3_readWind_24 ?_
  obtain ⟨s4, es4, h⟩ := bind_some h
  refine R_pI DX3_readWind_25 fl_RX3_43 es4 ?_
  refine R_aload DX3_readWind_28 0 rfl ?_
  obtain ⟨s5, es5, h⟩ := bind_some h
  refine R_cV0 [] DX3_readWind_29 kzvX3_advance ml_RX3_46 ⟨Nat.le_of_ble_eq_true rfl, Nat.le_of_ble_eq_true rfl⟩ rfl (Nat.le_of_ble_eq_true rfl) (kX3_advance es5) ?_
  refine R_aload DX3_readWind_32 0 rfl ?_
  refine R_constI DX3_readWind_33 ci_1 ?_
  refine R_aload DX3_readWind_34 0 rfl ?_
  obtain ⟨v6, ev6, h⟩ := bind_some h
  refine R_gR DX3_readWind_35 fl_RX3_28 ev6 ?_
  obtain ⟨v7, ev7, h⟩ := bind_some h
  refine R_gI DX3_readWind_38 fl_RX3_127 ev7 ?_
  refine R_constI DX3_readWind_41 ci_1 ?_
  refine R_isub DX3_readWind_42 ?_
  obtain ⟨r8, er8, h⟩ := bind_some h
  refine R_cV1 [.int (iI 1), .int (v7 - (iI 1))] DX3_readWind_43 kzvX3_takeNumber ml_RX3_116 ⟨Nat.le_of_ble_eq_true rfl, Nat.le_of_ble_eq_true rfl⟩ rfl (Nat.le_of_ble_eq_true rfl) (kX3_takeNumber er8) ?_
  refine R_istore [(1, .int r8.1), (0, .ref x0)] DX3_readWind_46 (by decide) rfl ?_
  refine R_aload DX3_readWind_47 1 rfl ?_
  refine R_ldcS 10 (by decide) rfl rfl DX3_readWind_48 ?_
  obtain ⟨s9, es9, h⟩ := bind_some h
  refine R_cV0 [.ref (gK G 10)] DX3_readWind_50 kzvX3_takeWord ml_RX3_110 ⟨Nat.le_of_ble_eq_true rfl, Nat.le_of_ble_eq_true rfl⟩ rfl (Nat.le_of_ble_eq_true rfl) (kX3_takeWord es9) ?_
  refine R_aload DX3_readWind_53 1 rfl ?_
  refine R_constI DX3_readWind_54 ci_0 ?_
  refine R_aload DX3_readWind_55 1 rfl ?_
  obtain ⟨v10, ev10, h⟩ := bind_some h
  refine R_gR DX3_readWind_56 fl_RX3_28 ev10 ?_
  obtain ⟨v11, ev11, h⟩ := bind_some h
  refine R_gI DX3_readWind_59 fl_RX3_131 ev11 ?_
  refine R_constI DX3_readWind_62 ci_1 ?_
  refine R_isub DX3_readWind_63 ?_
  obtain ⟨r12, er12, h⟩ := bind_some h
  refine R_cV1 [.int (iI 0), .int (v11 - (iI 1))] DX3_readWind_64 kzvX3_takeNumber ml_RX3_116 ⟨Nat.le_of_ble_eq_true rfl, Nat.le_of_ble_eq_true rfl⟩ rfl (Nat.le_of_ble_eq_true rfl) (kX3_takeNumber er12) ?_
  refine R_istore [(2, .int r12.1), (1, .int r8.1), (0, .ref x0)] DX3_readWind_67 (by decide) rfl ?_
  refine R_aload DX3_readWind_68 2 rfl ?_
  obtain ⟨r13, er13, h⟩ := bind_some h
  refine R_cV1 [] DX3_readWind_69 kzvX3_takeWind ml_RX3_149 ⟨Nat.le_of_ble_eq_true rfl, Nat.le_of_ble_eq_true rfl⟩ rfl (Nat.le_of_ble_eq_true rfl) (kX3_takeWind er13) ?_
  refine R_istore [(3, .int r13.1), (2, .int r12.1), (1, .int r8.1), (0, .ref x0)] DX3_readWind_72 (by decide) rfl ?_
  refine R_aload DX3_readWind_73 3 rfl ?_
  obtain ⟨v14, ev14, h⟩ := bind_some h
  refine R_gI DX3_readWind_74 fl_RX3_37 ev14 ?_
  by_cases c15 : v14 = 0
  · replace h := if_t h c15
    refine R_if_ne_f DX3_readWind_77 c15 ?_
    refine R_aload DX3_readWind_80 3 rfl ?_
    obtain ⟨v16, ev16, h⟩ := bind_some h
    refine R_gR DX3_readWind_81 fl_RX3_28 ev16 ?_
    obtain ⟨v17, ev17, h⟩ := bind_some h
    refine R_gR DX3_readWind_84 fl_RX3_153 ev17 ?_
    refine R_iload DX3_readWind_87 2 rfl ?_
    refine R_constI DX3_readWind_88 ci_24 ?_
    refine R_imul DX3_readWind_90 ?_
    refine R_iload DX3_readWind_91 1 rfl ?_
    refine R_iadd DX3_readWind_92 ?_
    refine R_iload DX3_readWind_93 0 rfl ?_
    obtain ⟨s18, es18, h⟩ := bind_some h
    refine R_sI DX3_readWind_94 es18 ?_
    cases h
    exact R_return rfl DX3_readWind_95
  · replace h := if_f h c15
    refine R_if_ne_t DX3_readWind_77 c15 ?_
    cases h
    exact R_return rfl DX3_readWind_95
set_option maxRecDepth 8000 in
theorem kX3_readWind {G : Gm} {x0 : Nat} {s : Hp} {w : Hp} (h : fX3_readWind (gK G) x0 s = some w) : (s.2.2 x0).1 = 3 ∧ Call G MX3_readWind [.ref x0] s (none, w) := by
  unfold fX3_readWind at h
  obtain ⟨_, e0, h⟩ := bind_some h
  refine ⟨ck_some e0, Call.of_R pnRX3 (Nat.le_of_ble_eq_true rfl) ?_⟩
  clear e0
  show R G MX3_readWind 0 [(0, .ref x0)] [] s (none, w)
  refine R_aload DX3_readWind_0 0 rfl ?_
  obtain ⟨v1, ev1, h⟩ := bind_some h
  refine R_gI DX3_readWind_1 fl_RX3_43 ev1 ?_
  refine R_constI DX3_readWind_4 ci_20 ?_
  by_cases c2 : v1 < (iI 20)
  · replace h := if_t h c2
    refine R_icmp_lt_t DX3_readWind_6 c2 ?_
    exact tX3_readWind_b18 h
  · replace h := if_f h c2
    refine R_icmp_lt_f DX3_readWind_6 c2 ?_
    refine R_aload DX3_readWind_9 0 rfl ?_
    refine R_constI DX3_readWind_10 ci_3 ?_
    refine R_aload DX3_readWind_11 0 rfl ?_
    obtain ⟨v19, ev19, h⟩ := bind_some h
    refine R_gI DX3_readWind_12 fl_RX3_101 ev19 ?_
    obtain ⟨s20, es20, h⟩ := bind_some h
    refine R_cV0 [.int (iI 3), .int v19] DX3_readWind_15 kzvX3_fail ml_RX3_104 ⟨Nat.le_of_ble_eq_true rfl, Nat.le_of_ble_eq_true rfl⟩ rfl (Nat.le_of_ble_eq_true rfl) (kX3_fail es20) ?_
    exact tX3_readWind_b18 h
set_option maxRecDepth 8000 in
theorem tX3_readShop_b20 {G : Gm} {x0 : Nat} {s : Hp} {w : Hp} (h : fX3_readShop_b20 (gK G) x0 s = some w) : R G MX3_readShop 20 [(0, .ref x0)] [] s (none, w) := by
  unfold fX3_readShop_b20 at h
  refine R_aload DX3_readShop_20 0 rfl ?_
  obtain ⟨s4, es4, h⟩ := bind_some h
  refine R_cV0 [] DX3_readShop_21 kzvX3_advance ml_RX3_46 ⟨Nat.le_of_ble_eq_true rfl, Nat.le_of_ble_eq_true rfl⟩ rfl (Nat.le_of_ble_eq_true rfl) (kX3_advance es4) ?_
  refine R_aload DX3_readShop_24 0 rfl ?_
  refine R_ldcS 17 (by decide) rfl rfl DX3_readShop_25 ?_
  obtain ⟨s5, es5, h⟩ := bind_some h
  refine R_cV0 [.ref (gK G 17)] DX3_readShop_27 kzvX3_takeWord ml_RX3_110 ⟨Nat.le_of_ble_eq_true rfl, Nat.le_of_ble_eq_true rfl⟩ rfl (Nat.le_of_ble_eq_true rfl) (kX3_takeWord es5) ?_
  refine R_aload DX3_readShop_30 0 rfl ?_
  refine R_constI DX3_readShop_31 ci_0 ?_
  refine R_aload DX3_readShop_32 0 rfl ?_
  obtain ⟨v6, ev6, h⟩ := bind_some h
  refine R_gR DX3_readShop_33 fl_RX3_28 ev6 ?_
  obtain ⟨v7, ev7, h⟩ := bind_some h
  refine R_gI DX3_readShop_36 fl_RX3_119 ev7 ?_
  refine R_constI DX3_readShop_39 ci_1 ?_
  refine R_isub DX3_readShop_40 ?_
  obtain ⟨r8, er8, h⟩ := bind_some h
  refine R_cV1 [.int (iI 0), .int (v7 - (iI 1))] DX3_readShop_41 kzvX3_takeNumber ml_RX3_116 ⟨Nat.le_of_ble_eq_true rfl, Nat.le_of_ble_eq_true rfl⟩ rfl (Nat.le_of_ble_eq_true rfl) (kX3_takeNumber er8) ?_
  refine R_istore [(1, .int r8.1), (0, .ref x0)] DX3_readShop_44 (by decide) rfl ?_
  refine R_aload DX3_readShop_45 1 rfl ?_
  refine R_constI DX3_readShop_46 ci_0 ?_
  refine R_aload DX3_readShop_47 1 rfl ?_
  obtain ⟨v9, ev9, h⟩ := bind_some h
  refine R_gR DX3_readShop_48 fl_RX3_28 ev9 ?_
  obtain ⟨v10, ev10, h⟩ := bind_some h
  refine R_gI DX3_readShop_51 fl_RX3_123 ev10 ?_
  refine R_constI DX3_readShop_54 ci_1 ?_
  refine R_isub DX3_readShop_55 ?_
  obtain ⟨r11, er11, h⟩ := bind_some h
  refine R_cV1 [.int (iI 0), .int (v10 - (iI 1))] DX3_readShop_56 kzvX3_takeNumber ml_RX3_116 ⟨Nat.le_of_ble_eq_true rfl, Nat.le_of_ble_eq_true rfl⟩ rfl (Nat.le_of_ble_eq_true rfl) (kX3_takeNumber er11) ?_
  refine R_istore [(2, .int r11.1), (1, .int r8.1), (0, .ref x0)] DX3_readShop_59 (by decide) rfl ?_
  refine R_aload DX3_readShop_60 2 rfl ?_
  refine R_constI DX3_readShop_61 ci_0 ?_
  refine R_aload DX3_readShop_62 2 rfl ?_
  obtain ⟨v12, ev12, h⟩ := bind_some h
  refine R_gR DX3_readShop_63 fl_RX3_28 ev12 ?_
  obtain ⟨v13, ev13, h⟩ := bind_some h
  refine R_gI DX3_readShop_66 fl_RX3_127 ev13 ?_
  refine R_constI DX3_readShop_69 ci_1 ?_
  refine R_isub DX3_readShop_70 ?_
  obtain ⟨r14, er14, h⟩ := bind_some h
  refine R_cV1 [.int (iI 0), .int (v13 - (iI 1))] DX3_readShop_71 kzvX3_takeNumber ml_RX3_116 ⟨Nat.le_of_ble_eq_true rfl, Nat.le_of_ble_eq_true rfl⟩ rfl (Nat.le_of_ble_eq_true rfl) (kX3_takeNumber er14) ?_
  refine R_istore [(3, .int r14.1), (2, .int r11.1), (1, .int r8.1), (0, .ref x0)] DX3_readShop_74 (by decide) rfl ?_
  refine R_aload DX3_readShop_75 3 rfl ?_
  refine R_ldcS 18 (by decide) rfl rfl DX3_readShop_76 ?_
  obtain ⟨s15, es15, h⟩ := bind_some h
  refine R_cV0 [.ref (gK G 18)] DX3_readShop_78 kzvX3_takeWord ml_RX3_110 ⟨Nat.le_of_ble_eq_true rfl, Nat.le_of_ble_eq_true rfl⟩ rfl (Nat.le_of_ble_eq_true rfl) (kX3_takeWord es15) ?_
  refine R_aload DX3_readShop_81 3 rfl ?_
  refine R_constI DX3_readShop_82 ci_0 ?_
  refine R_constI DX3_readShop_83 ci_9 ?_
  obtain ⟨r16, er16, h⟩ := bind_some h
  refine R_cV1 [.int (iI 0), .int (iI 9)] DX3_readShop_85 kzvX3_takeNumber ml_RX3_116 ⟨Nat.le_of_ble_eq_true rfl, Nat.le_of_ble_eq_true rfl⟩ rfl (Nat.le_of_ble_eq_true rfl) (kX3_takeNumber er16) ?_
  refine R_istore [(4, .int r16.1), (3, .int r14.1), (2, .int r11.1), (1, .int r8.1), (0, .ref x0)] DX3_readShop_88 (by decide) rfl ?_
  refine R_aload DX3_readShop_90 4 rfl ?_
  refine R_ldcS 19 (by decide) rfl rfl DX3_readShop_91 ?_
  obtain ⟨s17, es17, h⟩ := bind_some h
  refine R_cV0 [.ref (gK G 19)] DX3_readShop_93 kzvX3_takeWord ml_RX3_110 ⟨Nat.le_of_ble_eq_true rfl, Nat.le_of_ble_eq_true rfl⟩ rfl (Nat.le_of_ble_eq_true rfl) (kX3_takeWord es17) ?_
  refine R_aload DX3_readShop_96 4 rfl ?_
  refine R_constI DX3_readShop_97 ci_0 ?_
  refine R_constI DX3_readShop_98 ci_9 ?_
  obtain ⟨r18, er18, h⟩ := bind_some h
  refine R_cV1 [.int (iI 0), .int (iI 9)] DX3_readShop_100 kzvX3_takeNumber ml_RX3_116 ⟨Nat.le_of_ble_eq_true rfl, Nat.le_of_ble_eq_true rfl⟩ rfl (Nat.le_of_ble_eq_true rfl) (kX3_takeNumber er18) ?_
  refine R_istore [(5, .int r18.1), (4, .int r16.1), (3, .int r14.1), (2, .int r11.1), (1, .int r8.1), (0, .ref x0)] DX3_readShop_103 (by decide) rfl ?_
  refine R_aload DX3_readShop_105 5 rfl ?_
  refine R_ldcS 20 (by decide) rfl rfl DX3_readShop_106 ?_
  obtain ⟨s19, es19, h⟩ := bind_some h
  refine R_cV0 [.ref (gK G 20)] DX3_readShop_108 kzvX3_takeWord ml_RX3_110 ⟨Nat.le_of_ble_eq_true rfl, Nat.le_of_ble_eq_true rfl⟩ rfl (Nat.le_of_ble_eq_true rfl) (kX3_takeWord es19) ?_
  refine R_aload DX3_readShop_111 5 rfl ?_
  refine R_constI DX3_readShop_112 ci_0 ?_
  refine R_constI DX3_readShop_113 ci_9 ?_
  obtain ⟨r20, er20, h⟩ := bind_some h
  refine R_cV1 [.int (iI 0), .int (iI 9)] DX3_readShop_115 kzvX3_takeNumber ml_RX3_116 ⟨Nat.le_of_ble_eq_true rfl, Nat.le_of_ble_eq_true rfl⟩ rfl (Nat.le_of_ble_eq_true rfl) (kX3_takeNumber er20) ?_
  refine R_istore [(6, .int r20.1), (5, .int r18.1), (4, .int r16.1), (3, .int r14.1), (2, .int r11.1), (1, .int r8.1), (0, .ref x0)] DX3_readShop_118 (by decide) rfl ?_
  refine R_aload DX3_readShop_120 6 rfl ?_
  obtain ⟨v21, ev21, h⟩ := bind_some h
  refine R_gI DX3_readShop_121 fl_RX3_37 ev21 ?_
  by_cases c22 : v21 = 0
  · replace h := if_t h c22
    refine R_if_ne_f DX3_readShop_124 c22 ?_
    refine R_aload DX3_readShop_127 6 rfl ?_
    obtain ⟨v23, ev23, h⟩ := bind_some h
    refine R_gR DX3_readShop_128 fl_RX3_28 ev23 ?_
    obtain ⟨v24, ev24, h⟩ := bind_some h
    refine R_gI DX3_readShop_131 fl_RX3_170 ev24 ?_
    refine R_constI DX3_readShop_134 ci_6 ?_
    refine R_imul DX3_readShop_136 ?_
    obtain ⟨z25, ez25, h⟩ := lt_some h
    refine R_istoreE ez25 [(7, .int z25), (6, .int r20.1), (5, .int r18.1), (4, .int r16.1), (3, .int r14.1), (2, .int r11.1), (1, .int r8.1), (0, .ref x0)] DX3_readShop_137 (by decide) rfl ?_
    refine R_aload DX3_readShop_139 7 rfl ?_
    obtain ⟨v26, ev26, h⟩ := bind_some h
    refine R_gR DX3_readShop_140 fl_RX3_28 ev26 ?_
    obtain ⟨v27, ev27, h⟩ := bind_some h
    refine R_gR DX3_readShop_143 fl_RX3_181 ev27 ?_
    refine R_iload DX3_readShop_146 0 rfl ?_
    refine R_constI DX3_readShop_148 ci_0 ?_
    refine R_iadd DX3_readShop_149 ?_
    refine R_iload DX3_readShop_150 6 rfl ?_
    obtain ⟨s28, es28, h⟩ := bind_some h
    refine R_sI DX3_readShop_151 es28 ?_
    refine R_aload DX3_readShop_152 7 rfl ?_
    obtain ⟨v29, ev29, h⟩ := bind_some h
    refine R_gR DX3_readShop_153 fl_RX3_28 ev29 ?_
    obtain ⟨v30, ev30, h⟩ := bind_some h
    refine R_gR DX3_readShop_156 fl_RX3_181 ev30 ?_
    refine R_iload DX3_readShop_159 0 rfl ?_
    refine R_constI DX3_readShop_161 ci_1 ?_
    refine R_iadd DX3_readShop_162 ?_
    refine R_iload DX3_readShop_163 5 rfl ?_
    obtain ⟨s31, es31, h⟩ := bind_some h
    refine R_sI DX3_readShop_164 es31 ?_
    refine R_aload DX3_readShop_165 7 rfl ?_
    obtain ⟨v32, ev32, h⟩ := bind_some h
    refine R_gR DX3_readShop_166 fl_RX3_28 ev32 ?_
    obtain ⟨v33, ev33, h⟩ := bind_some h
    refine R_gR DX3_readShop_169 fl_RX3_181 ev33 ?_
    refine R_iload DX3_readShop_172 0 rfl ?_
    refine R_constI DX3_readShop_174 ci_2 ?_
    refine R_iadd DX3_readShop_175 ?_
    refine R_iload DX3_readShop_176 4 rfl ?_
    obtain ⟨s34, es34, h⟩ := bind_some h
    refine R_sI DX3_readShop_177 es34 ?_
    refine R_aload DX3_readShop_178 7 rfl ?_
    obtain ⟨v35, ev35, h⟩ := bind_some h
    refine R_gR DX3_readShop_179 fl_RX3_28 ev35 ?_
    obtain ⟨v36, ev36, h⟩ := bind_some h
    refine R_gR DX3_readShop_182 fl_RX3_181 ev36 ?_
    refine R_iload DX3_readShop_185 0 rfl ?_
    refine R_constI DX3_readShop_187 ci_3 ?_
    refine R_iadd DX3_readShop_188 ?_
    refine R_iload DX3_readShop_189 3 rfl ?_
    obtain ⟨s37, es37, h⟩ := bind_some h
    refine R_sI DX3_readShop_191 es37 ?_
    refine R_aload DX3_readShop_192 7 rfl ?_
    obtain ⟨v38, ev38, h⟩ := bind_some h
    refine R_gR DX3_readShop_193 fl_RX3_28 ev38 ?_
    obtain ⟨v39, ev39, h⟩ := bind_some h
    refine R_gR DX3_readShop_196 fl_RX3_181 ev39 ?_
    refine R_iload DX3_readShop_199 0 rfl ?_
    refine R_constI DX3_readShop_201 ci_4 ?_
    refine R_iadd DX3_readShop_202 ?_
    refine R_iload DX3_readShop_203 2 rfl ?_
    obtain ⟨s40, es40, h⟩ := bind_some h
    refine R_sI DX3_readShop_205 es40 ?_
    refine R_aload DX3_readShop_206 7 rfl ?_
    obtain ⟨v41, ev41, h⟩ := bind_some h
    refine R_gR DX3_readShop_207 fl_RX3_28 ev41 ?_
    obtain ⟨v42, ev42, h⟩ := bind_some h
    refine R_gR DX3_readShop_210 fl_RX3_181 ev42 ?_
    refine R_iload DX3_readShop_213 0 rfl ?_
    refine R_constI DX3_readShop_215 ci_5 ?_
    refine R_iadd DX3_readShop_216 ?_
    refine R_iload DX3_readShop_217 1 rfl ?_
    obtain ⟨s43, es43, h⟩ := bind_some h
    refine R_sI DX3_readShop_219 es43 ?_
    refine R_aload DX3_readShop_220 7 rfl ?_
    obtain ⟨v44, ev44, h⟩ := bind_some h
    refine R_gR DX3_readShop_221 fl_RX3_28 ev44 ?_
    refine R_dup DX3_readShop_224 rfl ?_
    obtain ⟨v45, ev45, h⟩ := bind_some h
    refine R_gI DX3_readShop_225 fl_RX3_170 ev45 ?_
    refine R_constI DX3_readShop_228 ci_1 ?_
    refine R_iadd DX3_readShop_229 ?_
    obtain ⟨s46, es46, h⟩ := bind_some h
    refine R_pI DX3_readShop_230 fl_RX3_170 es46 ?_
    cases h
    exact R_return rfl DX3_readShop_233
  · replace h := if_f h c22
    refine R_if_ne_t DX3_readShop_124 c22 ?_
    cases h
    exact R_return rfl DX3_readShop_233
set_option maxRecDepth 8000 in
theorem kX3_readShop {G : Gm} {x0 : Nat} {s : Hp} {w : Hp} (h : fX3_readShop (gK G) x0 s = some w) : (s.2.2 x0).1 = 3 ∧ Call G MX3_readShop [.ref x0] s (none, w) := by
  unfold fX3_readShop at h
  obtain ⟨_, e0, h⟩ := bind_some h
  refine ⟨ck_some e0, Call.of_R pnRX3 (Nat.le_of_ble_eq_true rfl) ?_⟩
  clear e0
  show R G MX3_readShop 0 [(0, .ref x0)] [] s (none, w)
  refine R_aload DX3_readShop_0 0 rfl ?_
  obtain ⟨v1, ev1, h⟩ := bind_some h
  refine R_gR DX3_readShop_1 fl_RX3_28 ev1 ?_
  obtain ⟨v2, ev2, h⟩ := bind_some h
  refine R_gI DX3_readShop_4 fl_RX3_170 ev2 ?_
  refine R_constI DX3_readShop_7 ci_4 ?_
  by_cases c3 : v2 < (iI 4)
  · replace h := if_t h c3
    refine R_icmp_lt_t DX3_readShop_8 c3 ?_
    exact tX3_readShop_b20 h
  · replace h := if_f h c3
    refine R_icmp_lt_f DX3_readShop_8 c3 ?_
    refine R_aload DX3_readShop_11 0 rfl ?_
    refine R_constI DX3_readShop_12 ci_3 ?_
    refine R_aload DX3_readShop_13 0 rfl ?_
    obtain ⟨v47, ev47, h⟩ := bind_some h
    refine R_gI DX3_readShop_14 fl_RX3_101 ev47 ?_
    obtain ⟨s48, es48, h⟩ := bind_some h
    refine R_cV0 [.int (iI 3), .int v47] DX3_readShop_17 kzvX3_fail ml_RX3_104 ⟨Nat.le_of_ble_eq_true rfl, Nat.le_of_ble_eq_true rfl⟩ rfl (Nat.le_of_ble_eq_true rfl) (kX3_fail es48) ?_
    exact tX3_readShop_b20 h
set_option maxRecDepth 8000 in
theorem kX6_doorFact {G : Gm} {x0 : Nat} {x1 : Int32} {x2 : Int32} {s : Hp} {w : Int32 × Hp} (h : fX6_doorFact x0 x1 x2 s = some w) : (s.2.2 x0).1 = 6 ∧ Call G MX6_doorFact [.ref x0, .int x1, .int x2] s (some (.int w.1), w.2) := by
  unfold fX6_doorFact at h
  obtain ⟨_, e0, h⟩ := bind_some h
  refine ⟨ck_some e0, Call.of_R pnRX6 (Nat.le_of_ble_eq_true rfl) ?_⟩
  clear e0
  show R G MX6_doorFact 0 [(0, .ref x0), (1, .int x1), (2, .int x2)] [] s (some (.int w.1), w.2)
  refine R_aload DX6_doorFact_0 0 rfl ?_
  obtain ⟨v1, ev1, h⟩ := bind_some h
  refine R_gR DX6_doorFact_1 fl_RX6_22 ev1 ?_
  refine R_iload DX6_doorFact_4 1 rfl ?_
  refine R_constI DX6_doorFact_5 ci_3 ?_
  refine R_imul DX6_doorFact_6 ?_
  refine R_iload DX6_doorFact_7 2 rfl ?_
  refine R_iadd DX6_doorFact_8 ?_
  obtain ⟨v2, ev2, h⟩ := bind_some h
  refine R_aI DX6_doorFact_9 ev2 ?_
  cases h
  exact R_ireturn rfl DX6_doorFact_10
set_option maxRecDepth 8000 in
theorem tX6_doorAt_l2 {G : Gm} {x0 : Nat} {x1 : Int32} {o : Option Value × Hp} {a : Int32 × Hp} {w : (Int32 × Hp) ⊕ ((Hp) ⊕ (Int32 × Hp))} (h : fX6_doorAt_l2 x0 x1 a = some w) (hc : ∀ (q2 : Int32) (qs : Hp), w = .inl (q2, qs) → R G MX6_doorAt 2 [(0, .ref x0), (1, .int x1), (2, .int q2)] [] qs o) (he0 : ∀ (qs : Hp), w = .inr (.inl qs) → R G MX6_doorAt 37 [] [] qs o) (he1 : ∀ (q2 : Int32) (qs : Hp), w = .inr (.inr (q2, qs)) → R G MX6_doorAt 29 [(2, .int q2)] [] qs o) : R G MX6_doorAt 2 [(0, .ref x0), (1, .int x1), (2, .int a.1)] [] a.2 o := by
  unfold fX6_doorAt_l2 at h
  refine R_iload DX6_doorAt_2 2 rfl ?_
  refine R_aload DX6_doorAt_3 0 rfl ?_
  obtain ⟨v1, ev1, h⟩ := bind_some h
  refine R_gI DX6_doorAt_4 fl_RX6_41 ev1 ?_
  by_cases c2 : v1 ≤ a.1
  · replace h := if_t h c2
    refine R_icmp_ge_t DX6_doorAt_7 c2 ?_
    refine R.sub (L' := []) [] rfl ?_
    cases h
    exact he0 _ rfl
  · replace h := if_f h c2
    refine R_icmp_ge_f DX6_doorAt_7 c2 ?_
    refine R_aload DX6_doorAt_10 0 rfl ?_
    refine R_iload DX6_doorAt_11 2 rfl ?_
    refine R_constI DX6_doorAt_12 ci_0 ?_
    obtain ⟨r3, er3, h⟩ := bind_some h
    refine R_cV1 [.int a.1, .int (iI 0)] DX6_doorAt_13 kzvX6_doorFact ml_RX6_56 ⟨Nat.le_of_ble_eq_true rfl, Nat.le_of_ble_eq_true rfl⟩ rfl (Nat.le_of_ble_eq_true rfl) (kX6_doorFact er3) ?_
    refine R_aload DX6_doorAt_16 0 rfl ?_
    refine R_iload DX6_doorAt_17 2 rfl ?_
    refine R_constI DX6_doorAt_18 ci_1 ?_
    obtain ⟨r4, er4, h⟩ := bind_some h
    refine R_cV1 [.int a.1, .int (iI 1)] DX6_doorAt_19 kzvX6_doorFact ml_RX6_56 ⟨Nat.le_of_ble_eq_true rfl, Nat.le_of_ble_eq_true rfl⟩ rfl (Nat.le_of_ble_eq_true rfl) (kX6_doorFact er4) ?_
    obtain ⟨r5, er5, h⟩ := bind_some h
    refine R_cSN1 [.int r3.1, .int r4.1] DX6_doorAt_22 kzsX8_columnOf ml_RX6_60 ⟨Nat.le_of_ble_eq_true rfl, Nat.le_of_ble_eq_true rfl⟩ rfl (Nat.le_of_ble_eq_true rfl) (kX8_columnOf er5) ?_
    refine R_iload DX6_doorAt_25 1 rfl ?_
    by_cases c6 : r5.1 = x1
    · replace h := if_t h c6
      refine R_icmp_ne_f DX6_doorAt_26 c6 ?_
      refine R.sub (L' := [(2, .int a.1)]) [2] rfl ?_
      cases h
      exact he1 _ _ rfl
    · replace h := if_f h c6
      refine R_icmp_ne_t DX6_doorAt_26 c6 ?_
      refine R_iinc [(2, .int (a.1 + iI 1)), (0, .ref x0), (1, .int x1)] DX6_doorAt_31 2 rfl (v := a.1 + iI 1) (by rfl) (by decide) rfl ?_
      refine R_goto DX6_doorAt_34 ?_
      refine R.sub (L' := [(0, .ref x0), (1, .int x1), (2, .int (a.1 + iI 1))]) [1, 2, 0] rfl ?_
      cases h
      exact hc _ _ rfl
set_option maxRecDepth 8000 in
theorem kX6_doorAt {G : Gm} {x0 : Nat} {x1 : Int32} {s : Hp} {w : Int32 × Hp} (h : fX6_doorAt x0 x1 s = some w) : (s.2.2 x0).1 = 6 ∧ Call G MX6_doorAt [.ref x0, .int x1] s (some (.int w.1), w.2) := by
  unfold fX6_doorAt at h
  obtain ⟨_, e0, h⟩ := bind_some h
  refine ⟨ck_some e0, Call.of_R pnRX6 (Nat.le_of_ble_eq_true rfl) ?_⟩
  clear e0
  show R G MX6_doorAt 0 [(0, .ref x0), (1, .int x1)] [] s (some (.int w.1), w.2)
  refine R_constI DX6_doorAt_0 ci_0 ?_
  refine R_istore [(2, .int (iI 0)), (0, .ref x0), (1, .int x1)] DX6_doorAt_1 (by decide) rfl ?_
  refine R.sub (L' := [(0, .ref x0), (1, .int x1), (2, .int (iI 0))]) [1, 2, 0] rfl ?_
  obtain ⟨r7, hi, h⟩ := bind_some h
  have hE : (Sum.elim (fun u2 : Hp => R G MX6_doorAt 37 [] [] u2 (some (.int w.1), w.2)) (fun u2 : Int32 × Hp => R G MX6_doorAt 29 [(2, .int u2.1)] [] u2.2 (some (.int w.1), w.2))) r7 → ∀ (q2 : Int32) (qs : Hp), iter (fX6_doorAt_l2 x0 x1) FU (q2, qs) = some r7 → R G MX6_doorAt 2 [(0, .ref x0), (1, .int x1), (2, .int q2)] [] qs (some (.int w.1), w.2) := fun hX q2 qs hj => loop_R (fX6_doorAt_l2 x0 x1) (fun p2 : Int32 × Hp => R G MX6_doorAt 2 [(0, .ref x0), (1, .int x1), (2, .int p2.1)] [] p2.2 (some (.int w.1), w.2)) (Sum.elim (fun u2 : Hp => R G MX6_doorAt 37 [] [] u2 (some (.int w.1), w.2)) (fun u2 : Int32 × Hp => R G MX6_doorAt 29 [(2, .int u2.1)] [] u2.2 (some (.int w.1), w.2))) (fun a w hw hc he => tX6_doorAt_l2 hw (fun q2 qs e => hc (q2, qs) e) (fun qs e => he (.inl qs) e) (fun q2 qs e => he (.inr (q2, qs)) e)) FU (q2, qs) r7 hj hX
  refine hE ?_ _ _ hi
  clear hE hi
  rcases r7 with r7a | r7b
  · replace h := el_l h
    refine R_constI DX6_doorAt_37 ci_m1 ?_
    cases h
    exact R_ireturn rfl DX6_doorAt_38
  replace h := el_r h
  refine R_iload DX6_doorAt_29 0 rfl ?_
  cases h
  exact R_ireturn rfl DX6_doorAt_30
set_option maxRecDepth 8000 in
theorem tX3_readDoor_b87 {G : Gm} {x0 : Nat} {x1 : Int32} {x3 : Int32} {s : Hp} {w : Hp} (h : fX3_readDoor_b87 (gK G) x0 x1 x3 s = some w) : R G MX3_readDoor 87 [(0, .ref x0), (1, .int x1), (3, .int x3)] [] s (none, w) := by
  unfold fX3_readDoor_b87 at h
  refine R_aload DX3_readDoor_87 0 rfl ?_
  refine R_ldcS 22 (by decide) rfl rfl DX3_readDoor_88 ?_
  obtain ⟨s17, es17, h⟩ := bind_some h
  refine R_cV0 [.ref (gK G 22)] DX3_readDoor_90 kzvX3_takeWord ml_RX3_110 ⟨Nat.le_of_ble_eq_true rfl, Nat.le_of_ble_eq_true rfl⟩ rfl (Nat.le_of_ble_eq_true rfl) (kX3_takeWord es17) ?_
  refine R_aload DX3_readDoor_93 0 rfl ?_
  refine R_constI DX3_readDoor_94 ci_0 ?_
  refine R_constI DX3_readDoor_95 ci_9 ?_
  obtain ⟨r18, er18, h⟩ := bind_some h
  refine R_cV1 [.int (iI 0), .int (iI 9)] DX3_readDoor_97 kzvX3_takeNumber ml_RX3_116 ⟨Nat.le_of_ble_eq_true rfl, Nat.le_of_ble_eq_true rfl⟩ rfl (Nat.le_of_ble_eq_true rfl) (kX3_takeNumber er18) ?_
  refine R_istore [(4, .int r18.1), (0, .ref x0), (1, .int x1), (3, .int x3)] DX3_readDoor_100 (by decide) rfl ?_
  refine R_aload DX3_readDoor_102 1 rfl ?_
  obtain ⟨v19, ev19, h⟩ := bind_some h
  refine R_gI DX3_readDoor_103 fl_RX3_37 ev19 ?_
  by_cases c20 : v19 = 0
  · replace h := if_t h c20
    refine R_if_ne_f DX3_readDoor_106 c20 ?_
    refine R_aload DX3_readDoor_109 1 rfl ?_
    obtain ⟨v21, ev21, h⟩ := bind_some h
    refine R_gR DX3_readDoor_110 fl_RX3_28 ev21 ?_
    obtain ⟨v22, ev22, h⟩ := bind_some h
    refine R_gI DX3_readDoor_113 fl_RX3_184 ev22 ?_
    refine R_constI DX3_readDoor_116 ci_3 ?_
    refine R_imul DX3_readDoor_117 ?_
    obtain ⟨z23, ez23, h⟩ := lt_some h
    refine R_istoreE ez23 [(5, .int z23), (4, .int r18.1), (0, .ref x0), (1, .int x1), (3, .int x3)] DX3_readDoor_118 (by decide) rfl ?_
    refine R_aload DX3_readDoor_120 2 rfl ?_
    obtain ⟨v24, ev24, h⟩ := bind_some h
    refine R_gR DX3_readDoor_121 fl_RX3_28 ev24 ?_
    obtain ⟨v25, ev25, h⟩ := bind_some h
    refine R_gR DX3_readDoor_124 fl_RX3_196 ev25 ?_
    refine R_iload DX3_readDoor_127 0 rfl ?_
    refine R_constI DX3_readDoor_129 ci_0 ?_
    refine R_iadd DX3_readDoor_130 ?_
    refine R_iload DX3_readDoor_131 3 rfl ?_
    obtain ⟨s26, es26, h⟩ := bind_some h
    refine R_sI DX3_readDoor_132 es26 ?_
    refine R_aload DX3_readDoor_133 2 rfl ?_
    obtain ⟨v27, ev27, h⟩ := bind_some h
    refine R_gR DX3_readDoor_134 fl_RX3_28 ev27 ?_
    obtain ⟨v28, ev28, h⟩ := bind_some h
    refine R_gR DX3_readDoor_137 fl_RX3_196 ev28 ?_
    refine R_iload DX3_readDoor_140 0 rfl ?_
    refine R_constI DX3_readDoor_142 ci_1 ?_
    refine R_iadd DX3_readDoor_143 ?_
    refine R_iload DX3_readDoor_144 4 rfl ?_
    obtain ⟨s29, es29, h⟩ := bind_some h
    refine R_sI DX3_readDoor_145 es29 ?_
    refine R_aload DX3_readDoor_146 2 rfl ?_
    obtain ⟨v30, ev30, h⟩ := bind_some h
    refine R_gR DX3_readDoor_147 fl_RX3_28 ev30 ?_
    obtain ⟨v31, ev31, h⟩ := bind_some h
    refine R_gR DX3_readDoor_150 fl_RX3_196 ev31 ?_
    refine R_iload DX3_readDoor_153 0 rfl ?_
    refine R_constI DX3_readDoor_155 ci_2 ?_
    refine R_iadd DX3_readDoor_156 ?_
    refine R_iload DX3_readDoor_157 1 rfl ?_
    obtain ⟨s32, es32, h⟩ := bind_some h
    refine R_sI DX3_readDoor_159 es32 ?_
    refine R_aload DX3_readDoor_160 2 rfl ?_
    obtain ⟨v33, ev33, h⟩ := bind_some h
    refine R_gR DX3_readDoor_161 fl_RX3_28 ev33 ?_
    refine R_dup DX3_readDoor_164 rfl ?_
    obtain ⟨v34, ev34, h⟩ := bind_some h
    refine R_gI DX3_readDoor_165 fl_RX3_184 ev34 ?_
    refine R_constI DX3_readDoor_168 ci_1 ?_
    refine R_iadd DX3_readDoor_169 ?_
    obtain ⟨s35, es35, h⟩ := bind_some h
    refine R_pI DX3_readDoor_170 fl_RX3_184 es35 ?_
    cases h
    exact R_return rfl DX3_readDoor_173
  · replace h := if_f h c20
    refine R_if_ne_t DX3_readDoor_106 c20 ?_
    cases h
    exact R_return rfl DX3_readDoor_173
set_option maxRecDepth 8000 in
theorem tX3_readDoor_b20 {G : Gm} {x0 : Nat} {s : Hp} {w : Hp} (h : fX3_readDoor_b20 (gK G) x0 s = some w) : R G MX3_readDoor 20 [(0, .ref x0)] [] s (none, w) := by
  unfold fX3_readDoor_b20 at h
  refine R_aload DX3_readDoor_20 0 rfl ?_
  obtain ⟨s4, es4, h⟩ := bind_some h
  refine R_cV0 [] DX3_readDoor_21 kzvX3_advance ml_RX3_46 ⟨Nat.le_of_ble_eq_true rfl, Nat.le_of_ble_eq_true rfl⟩ rfl (Nat.le_of_ble_eq_true rfl) (kX3_advance es4) ?_
  refine R_aload DX3_readDoor_24 0 rfl ?_
  refine R_ldcS 17 (by decide) rfl rfl DX3_readDoor_25 ?_
  obtain ⟨s5, es5, h⟩ := bind_some h
  refine R_cV0 [.ref (gK G 17)] DX3_readDoor_27 kzvX3_takeWord ml_RX3_110 ⟨Nat.le_of_ble_eq_true rfl, Nat.le_of_ble_eq_true rfl⟩ rfl (Nat.le_of_ble_eq_true rfl) (kX3_takeWord es5) ?_
  refine R_aload DX3_readDoor_30 0 rfl ?_
  refine R_constI DX3_readDoor_31 ci_0 ?_
  refine R_aload DX3_readDoor_32 0 rfl ?_
  obtain ⟨v6, ev6, h⟩ := bind_some h
  refine R_gR DX3_readDoor_33 fl_RX3_28 ev6 ?_
  obtain ⟨v7, ev7, h⟩ := bind_some h
  refine R_gI DX3_readDoor_36 fl_RX3_119 ev7 ?_
  refine R_constI DX3_readDoor_39 ci_1 ?_
  refine R_isub DX3_readDoor_40 ?_
  obtain ⟨r8, er8, h⟩ := bind_some h
  refine R_cV1 [.int (iI 0), .int (v7 - (iI 1))] DX3_readDoor_41 kzvX3_takeNumber ml_RX3_116 ⟨Nat.le_of_ble_eq_true rfl, Nat.le_of_ble_eq_true rfl⟩ rfl (Nat.le_of_ble_eq_true rfl) (kX3_takeNumber er8) ?_
  refine R_istore [(1, .int r8.1), (0, .ref x0)] DX3_readDoor_44 (by decide) rfl ?_
  refine R_aload DX3_readDoor_45 1 rfl ?_
  obtain ⟨v9, ev9, h⟩ := bind_some h
  refine R_gI DX3_readDoor_46 fl_RX3_101 ev9 ?_
  refine R_istore [(2, .int v9), (1, .int r8.1), (0, .ref x0)] DX3_readDoor_49 (by decide) rfl ?_
  refine R_aload DX3_readDoor_50 2 rfl ?_
  refine R_constI DX3_readDoor_51 ci_0 ?_
  refine R_aload DX3_readDoor_52 2 rfl ?_
  obtain ⟨v10, ev10, h⟩ := bind_some h
  refine R_gR DX3_readDoor_53 fl_RX3_28 ev10 ?_
  obtain ⟨v11, ev11, h⟩ := bind_some h
  refine R_gI DX3_readDoor_56 fl_RX3_123 ev11 ?_
  refine R_constI DX3_readDoor_59 ci_1 ?_
  refine R_isub DX3_readDoor_60 ?_
  obtain ⟨r12, er12, h⟩ := bind_some h
  refine R_cV1 [.int (iI 0), .int (v11 - (iI 1))] DX3_readDoor_61 kzvX3_takeNumber ml_RX3_116 ⟨Nat.le_of_ble_eq_true rfl, Nat.le_of_ble_eq_true rfl⟩ rfl (Nat.le_of_ble_eq_true rfl) (kX3_takeNumber er12) ?_
  refine R_istore [(3, .int r12.1), (2, .int v9), (1, .int r8.1), (0, .ref x0)] DX3_readDoor_64 (by decide) rfl ?_
  refine R_aload DX3_readDoor_65 3 rfl ?_
  obtain ⟨v13, ev13, h⟩ := bind_some h
  refine R_gR DX3_readDoor_66 fl_RX3_28 ev13 ?_
  refine R_iload DX3_readDoor_69 2 rfl ?_
  refine R_iload DX3_readDoor_70 0 rfl ?_
  obtain ⟨r14, er14, h⟩ := bind_some h
  refine R_cSN1 [.int r8.1, .int r12.1] DX3_readDoor_71 kzsX8_columnOf ml_RX3_187 ⟨Nat.le_of_ble_eq_true rfl, Nat.le_of_ble_eq_true rfl⟩ rfl (Nat.le_of_ble_eq_true rfl) (kX8_columnOf er14) ?_
  obtain ⟨r15, er15, h⟩ := bind_some h
  refine R_cV1 [.int r14.1] DX3_readDoor_74 kzvX6_doorAt ml_RX3_190 ⟨Nat.le_of_ble_eq_true rfl, Nat.le_of_ble_eq_true rfl⟩ rfl (Nat.le_of_ble_eq_true rfl) (kX6_doorAt er15) ?_
  refine R_constI DX3_readDoor_77 ci_m1 ?_
  by_cases c16 : r15.1 = (iI (-1))
  · replace h := if_t h c16
    refine R_icmp_eq_t DX3_readDoor_78 c16 ?_
    refine R.sub (L' := [(0, .ref x0), (1, .int r8.1), (3, .int r12.1)]) [3, 2, 0] rfl ?_
    exact tX3_readDoor_b87 h
  · replace h := if_f h c16
    refine R_icmp_eq_f DX3_readDoor_78 c16 ?_
    refine R_aload DX3_readDoor_81 3 rfl ?_
    refine R_constI DX3_readDoor_82 ci_2 ?_
    refine R_iload DX3_readDoor_83 1 rfl ?_
    obtain ⟨s36, es36, h⟩ := bind_some h
    refine R_cV0 [.int (iI 2), .int v9] DX3_readDoor_84 kzvX3_fail ml_RX3_104 ⟨Nat.le_of_ble_eq_true rfl, Nat.le_of_ble_eq_true rfl⟩ rfl (Nat.le_of_ble_eq_true rfl) (kX3_fail es36) ?_
    refine R.sub (L' := [(0, .ref x0), (1, .int r8.1), (3, .int r12.1)]) [3, 2, 0] rfl ?_
    exact tX3_readDoor_b87 h
set_option maxRecDepth 8000 in
theorem kX3_readDoor {G : Gm} {x0 : Nat} {s : Hp} {w : Hp} (h : fX3_readDoor (gK G) x0 s = some w) : (s.2.2 x0).1 = 3 ∧ Call G MX3_readDoor [.ref x0] s (none, w) := by
  unfold fX3_readDoor at h
  obtain ⟨_, e0, h⟩ := bind_some h
  refine ⟨ck_some e0, Call.of_R pnRX3 (Nat.le_of_ble_eq_true rfl) ?_⟩
  clear e0
  show R G MX3_readDoor 0 [(0, .ref x0)] [] s (none, w)
  refine R_aload DX3_readDoor_0 0 rfl ?_
  obtain ⟨v1, ev1, h⟩ := bind_some h
  refine R_gR DX3_readDoor_1 fl_RX3_28 ev1 ?_
  obtain ⟨v2, ev2, h⟩ := bind_some h
  refine R_gI DX3_readDoor_4 fl_RX3_184 ev2 ?_
  refine R_constI DX3_readDoor_7 ci_5 ?_
  by_cases c3 : v2 < (iI 5)
  · replace h := if_t h c3
    refine R_icmp_lt_t DX3_readDoor_8 c3 ?_
    exact tX3_readDoor_b20 h
  · replace h := if_f h c3
    refine R_icmp_lt_f DX3_readDoor_8 c3 ?_
    refine R_aload DX3_readDoor_11 0 rfl ?_
    refine R_constI DX3_readDoor_12 ci_3 ?_
    refine R_aload DX3_readDoor_13 0 rfl ?_
    obtain ⟨v37, ev37, h⟩ := bind_some h
    refine R_gI DX3_readDoor_14 fl_RX3_101 ev37 ?_
    obtain ⟨s38, es38, h⟩ := bind_some h
    refine R_cV0 [.int (iI 3), .int v37] DX3_readDoor_17 kzvX3_fail ml_RX3_104 ⟨Nat.le_of_ble_eq_true rfl, Nat.le_of_ble_eq_true rfl⟩ rfl (Nat.le_of_ble_eq_true rfl) (kX3_fail es38) ?_
    exact tX3_readDoor_b20 h
set_option maxRecDepth 8000 in
theorem kX3_readFair {G : Gm} {x0 : Nat} {s : Hp} {w : Hp} (h : fX3_readFair (gK G) x0 s = some w) : (s.2.2 x0).1 = 3 ∧ Call G MX3_readFair [.ref x0] s (none, w) := by
  unfold fX3_readFair at h
  obtain ⟨_, e0, h⟩ := bind_some h
  refine ⟨ck_some e0, Call.of_R pnRX3 (Nat.le_of_ble_eq_true rfl) ?_⟩
  clear e0
  show R G MX3_readFair 0 [(0, .ref x0)] [] s (none, w)
  refine R_aload DX3_readFair_0 0 rfl ?_
  obtain ⟨s1, es1, h⟩ := bind_some h
  refine R_cV0 [] DX3_readFair_1 kzvX3_advance ml_RX3_46 ⟨Nat.le_of_ble_eq_true rfl, Nat.le_of_ble_eq_true rfl⟩ rfl (Nat.le_of_ble_eq_true rfl) (kX3_advance es1) ?_
  refine R_aload DX3_readFair_4 0 rfl ?_
  refine R_ldcS 17 (by decide) rfl rfl DX3_readFair_5 ?_
  obtain ⟨s2, es2, h⟩ := bind_some h
  refine R_cV0 [.ref (gK G 17)] DX3_readFair_7 kzvX3_takeWord ml_RX3_110 ⟨Nat.le_of_ble_eq_true rfl, Nat.le_of_ble_eq_true rfl⟩ rfl (Nat.le_of_ble_eq_true rfl) (kX3_takeWord es2) ?_
  refine R_aload DX3_readFair_10 0 rfl ?_
  refine R_constI DX3_readFair_11 ci_0 ?_
  refine R_aload DX3_readFair_12 0 rfl ?_
  obtain ⟨v3, ev3, h⟩ := bind_some h
  refine R_gR DX3_readFair_13 fl_RX3_28 ev3 ?_
  obtain ⟨v4, ev4, h⟩ := bind_some h
  refine R_gI DX3_readFair_16 fl_RX3_119 ev4 ?_
  refine R_constI DX3_readFair_19 ci_1 ?_
  refine R_isub DX3_readFair_20 ?_
  obtain ⟨r5, er5, h⟩ := bind_some h
  refine R_cV1 [.int (iI 0), .int (v4 - (iI 1))] DX3_readFair_21 kzvX3_takeNumber ml_RX3_116 ⟨Nat.le_of_ble_eq_true rfl, Nat.le_of_ble_eq_true rfl⟩ rfl (Nat.le_of_ble_eq_true rfl) (kX3_takeNumber er5) ?_
  refine R_istore [(1, .int r5.1), (0, .ref x0)] DX3_readFair_24 (by decide) rfl ?_
  refine R_aload DX3_readFair_25 1 rfl ?_
  refine R_constI DX3_readFair_26 ci_0 ?_
  refine R_aload DX3_readFair_27 1 rfl ?_
  obtain ⟨v6, ev6, h⟩ := bind_some h
  refine R_gR DX3_readFair_28 fl_RX3_28 ev6 ?_
  obtain ⟨v7, ev7, h⟩ := bind_some h
  refine R_gI DX3_readFair_31 fl_RX3_123 ev7 ?_
  refine R_constI DX3_readFair_34 ci_1 ?_
  refine R_isub DX3_readFair_35 ?_
  obtain ⟨r8, er8, h⟩ := bind_some h
  refine R_cV1 [.int (iI 0), .int (v7 - (iI 1))] DX3_readFair_36 kzvX3_takeNumber ml_RX3_116 ⟨Nat.le_of_ble_eq_true rfl, Nat.le_of_ble_eq_true rfl⟩ rfl (Nat.le_of_ble_eq_true rfl) (kX3_takeNumber er8) ?_
  refine R_istore [(2, .int r8.1), (1, .int r5.1), (0, .ref x0)] DX3_readFair_39 (by decide) rfl ?_
  refine R_aload DX3_readFair_40 2 rfl ?_
  refine R_ldcS 10 (by decide) rfl rfl DX3_readFair_41 ?_
  obtain ⟨s9, es9, h⟩ := bind_some h
  refine R_cV0 [.ref (gK G 10)] DX3_readFair_43 kzvX3_takeWord ml_RX3_110 ⟨Nat.le_of_ble_eq_true rfl, Nat.le_of_ble_eq_true rfl⟩ rfl (Nat.le_of_ble_eq_true rfl) (kX3_takeWord es9) ?_
  refine R_aload DX3_readFair_46 2 rfl ?_
  refine R_constI DX3_readFair_47 ci_0 ?_
  refine R_aload DX3_readFair_48 2 rfl ?_
  obtain ⟨v10, ev10, h⟩ := bind_some h
  refine R_gR DX3_readFair_49 fl_RX3_28 ev10 ?_
  obtain ⟨v11, ev11, h⟩ := bind_some h
  refine R_gI DX3_readFair_52 fl_RX3_131 ev11 ?_
  refine R_constI DX3_readFair_55 ci_1 ?_
  refine R_isub DX3_readFair_56 ?_
  obtain ⟨r12, er12, h⟩ := bind_some h
  refine R_cV1 [.int (iI 0), .int (v11 - (iI 1))] DX3_readFair_57 kzvX3_takeNumber ml_RX3_116 ⟨Nat.le_of_ble_eq_true rfl, Nat.le_of_ble_eq_true rfl⟩ rfl (Nat.le_of_ble_eq_true rfl) (kX3_takeNumber er12) ?_
  refine R_istore [(3, .int r12.1), (2, .int r8.1), (1, .int r5.1), (0, .ref x0)] DX3_readFair_60 (by decide) rfl ?_
  refine R_aload DX3_readFair_61 3 rfl ?_
  refine R_ldcS 24 (by decide) rfl rfl DX3_readFair_62 ?_
  obtain ⟨s13, es13, h⟩ := bind_some h
  refine R_cV0 [.ref (gK G 24)] DX3_readFair_64 kzvX3_takeWord ml_RX3_110 ⟨Nat.le_of_ble_eq_true rfl, Nat.le_of_ble_eq_true rfl⟩ rfl (Nat.le_of_ble_eq_true rfl) (kX3_takeWord es13) ?_
  refine R_aload DX3_readFair_67 3 rfl ?_
  refine R_iload DX3_readFair_68 0 rfl ?_
  refine R_aload DX3_readFair_69 3 rfl ?_
  obtain ⟨v14, ev14, h⟩ := bind_some h
  refine R_gR DX3_readFair_70 fl_RX3_28 ev14 ?_
  obtain ⟨v15, ev15, h⟩ := bind_some h
  refine R_gI DX3_readFair_73 fl_RX3_131 ev15 ?_
  refine R_constI DX3_readFair_76 ci_1 ?_
  refine R_isub DX3_readFair_77 ?_
  obtain ⟨r16, er16, h⟩ := bind_some h
  refine R_cV1 [.int r12.1, .int (v15 - (iI 1))] DX3_readFair_78 kzvX3_takeNumber ml_RX3_116 ⟨Nat.le_of_ble_eq_true rfl, Nat.le_of_ble_eq_true rfl⟩ rfl (Nat.le_of_ble_eq_true rfl) (kX3_takeNumber er16) ?_
  refine R_istore [(4, .int r16.1), (3, .int r12.1), (2, .int r8.1), (1, .int r5.1), (0, .ref x0)] DX3_readFair_81 (by decide) rfl ?_
  refine R_aload DX3_readFair_83 4 rfl ?_
  obtain ⟨v17, ev17, h⟩ := bind_some h
  refine R_gR DX3_readFair_84 fl_RX3_28 ev17 ?_
  refine R_iload DX3_readFair_87 3 rfl ?_
  refine R_iload DX3_readFair_88 2 rfl ?_
  obtain ⟨r18, er18, h⟩ := bind_some h
  refine R_cSN1 [.int r5.1, .int r8.1] DX3_readFair_89 kzsX8_columnOf ml_RX3_187 ⟨Nat.le_of_ble_eq_true rfl, Nat.le_of_ble_eq_true rfl⟩ rfl (Nat.le_of_ble_eq_true rfl) (kX8_columnOf er18) ?_
  obtain ⟨s19, es19, h⟩ := bind_some h
  refine R_pI DX3_readFair_92 fl_RX3_201 es19 ?_
  refine R_aload DX3_readFair_95 4 rfl ?_
  obtain ⟨v20, ev20, h⟩ := bind_some h
  refine R_gR DX3_readFair_96 fl_RX3_28 ev20 ?_
  refine R_iload DX3_readFair_99 1 rfl ?_
  obtain ⟨s21, es21, h⟩ := bind_some h
  refine R_pI DX3_readFair_100 fl_RX3_204 es21 ?_
  refine R_aload DX3_readFair_103 4 rfl ?_
  obtain ⟨v22, ev22, h⟩ := bind_some h
  refine R_gR DX3_readFair_104 fl_RX3_28 ev22 ?_
  refine R_iload DX3_readFair_107 0 rfl ?_
  obtain ⟨s23, es23, h⟩ := bind_some h
  refine R_pI DX3_readFair_109 fl_RX3_207 es23 ?_
  cases h
  exact R_return rfl DX3_readFair_112
set_option maxRecDepth 8000 in
theorem kX6_setAct {G : Gm} {x0 : Nat} {x1 : Int32} {x2 : Int32} {x3 : Int32} {s : Hp} {w : Hp} (h : fX6_setAct x0 x1 x2 x3 s = some w) : (s.2.2 x0).1 = 6 ∧ Call G MX6_setAct [.ref x0, .int x1, .int x2, .int x3] s (none, w) := by
  unfold fX6_setAct at h
  obtain ⟨_, e0, h⟩ := bind_some h
  refine ⟨ck_some e0, Call.of_R pnRX6 (Nat.le_of_ble_eq_true rfl) ?_⟩
  clear e0
  show R G MX6_setAct 0 [(0, .ref x0), (1, .int x1), (2, .int x2), (3, .int x3)] [] s (none, w)
  refine R_aload DX6_setAct_0 0 rfl ?_
  obtain ⟨v1, ev1, h⟩ := bind_some h
  refine R_gR DX6_setAct_1 fl_RX6_25 ev1 ?_
  refine R_iload DX6_setAct_4 1 rfl ?_
  refine R_constI DX6_setAct_5 ci_24 ?_
  refine R_imul DX6_setAct_7 ?_
  refine R_iload DX6_setAct_8 2 rfl ?_
  refine R_iadd DX6_setAct_9 ?_
  refine R_iload DX6_setAct_10 3 rfl ?_
  obtain ⟨s2, es2, h⟩ := bind_some h
  refine R_sI DX6_setAct_11 es2 ?_
  cases h
  exact R_return rfl DX6_setAct_12
set_option maxRecDepth 8000 in
theorem tX3_readPlan_b62 {G : Gm} {x0 : Nat} {x1 : Int32} {x2 : Int32} {x3 : Int32} {y0 : Nat} {y1 : Nat} {s : Hp} {w : Hp} (h : fX3_readPlan_b62 (gK G) x0 x1 x2 x3 y0 y1 s = some w) : R G MX3_readPlan 62 [(0, .ref x0), (1, .int x1), (2, .int x2), (3, .int x3)] [.ref y1, .ref y0] s (none, w) := by
  unfold fX3_readPlan_b62 at h
  obtain ⟨s11, es11, h⟩ := bind_some h
  refine R_cV0 [.ref y1] DX3_readPlan_62 kzvX3_takeWord ml_RX3_110 ⟨Nat.le_of_ble_eq_true rfl, Nat.le_of_ble_eq_true rfl⟩ rfl (Nat.le_of_ble_eq_true rfl) (kX3_takeWord es11) ?_
  refine R_aload DX3_readPlan_65 0 rfl ?_
  obtain ⟨v12, ev12, h⟩ := bind_some h
  refine R_gI DX3_readPlan_66 fl_RX3_37 ev12 ?_
  by_cases c13 : v12 = 0
  · replace h := if_t h c13
    refine R_if_ne_f DX3_readPlan_69 c13 ?_
    refine R_aload DX3_readPlan_72 0 rfl ?_
    obtain ⟨v14, ev14, h⟩ := bind_some h
    refine R_gR DX3_readPlan_73 fl_RX3_28 ev14 ?_
    refine R_iload DX3_readPlan_76 1 rfl ?_
    refine R_iload DX3_readPlan_77 2 rfl ?_
    refine R_iload DX3_readPlan_78 3 rfl ?_
    obtain ⟨s15, es15, h⟩ := bind_some h
    refine R_cV0 [.int x1, .int x2, .int x3] DX3_readPlan_79 kzvX6_setAct ml_RX3_214 ⟨Nat.le_of_ble_eq_true rfl, Nat.le_of_ble_eq_true rfl⟩ rfl (Nat.le_of_ble_eq_true rfl) (kX6_setAct es15) ?_
    cases h
    exact R_return rfl DX3_readPlan_82
  · replace h := if_f h c13
    refine R_if_ne_t DX3_readPlan_69 c13 ?_
    cases h
    exact R_return rfl DX3_readPlan_82
set_option maxRecDepth 8000 in
theorem tX3_readPlan_b48 {G : Gm} {x0 : Nat} {x1 : Int32} {x2 : Int32} {y0 : Int32} {s : Hp} {w : Hp} (h : fX3_readPlan_b48 (gK G) x0 x1 x2 y0 s = some w) : R G MX3_readPlan 48 [(0, .ref x0), (1, .int x1), (2, .int x2)] [.int y0] s (none, w) := by
  unfold fX3_readPlan_b48 at h
  refine R_istore [(3, .int y0), (0, .ref x0), (1, .int x1), (2, .int x2)] DX3_readPlan_48 (by decide) rfl ?_
  refine R_aload DX3_readPlan_49 1 rfl ?_
  refine R_iload DX3_readPlan_50 0 rfl ?_
  refine R_constI DX3_readPlan_51 ci_1 ?_
  by_cases c10 : y0 = (iI 1)
  · replace h := if_t h c10
    refine R_icmp_ne_f DX3_readPlan_52 c10 ?_
    refine R_ldcS 26 (by decide) rfl rfl DX3_readPlan_55 ?_
    refine R_goto DX3_readPlan_57 ?_
    refine R.sub (L' := [(0, .ref x0), (1, .int x1), (2, .int x2), (3, .int y0)]) [1, 2, 3, 0] rfl ?_
    exact tX3_readPlan_b62 h
  · replace h := if_f h c10
    refine R_icmp_ne_t DX3_readPlan_52 c10 ?_
    refine R_ldcS 27 (by decide) rfl rfl DX3_readPlan_60 ?_
    refine R.sub (L' := [(0, .ref x0), (1, .int x1), (2, .int x2), (3, .int y0)]) [1, 2, 3, 0] rfl ?_
    exact tX3_readPlan_b62 h
set_option maxRecDepth 8000 in
theorem kX3_readPlan {G : Gm} {x0 : Nat} {s : Hp} {w : Hp} (h : fX3_readPlan (gK G) x0 s = some w) : (s.2.2 x0).1 = 3 ∧ Call G MX3_readPlan [.ref x0] s (none, w) := by
  unfold fX3_readPlan at h
  obtain ⟨_, e0, h⟩ := bind_some h
  refine ⟨ck_some e0, Call.of_R pnRX3 (Nat.le_of_ble_eq_true rfl) ?_⟩
  clear e0
  show R G MX3_readPlan 0 [(0, .ref x0)] [] s (none, w)
  refine R_aload DX3_readPlan_0 0 rfl ?_
  obtain ⟨s1, es1, h⟩ := bind_some h
  refine R_cV0 [] DX3_readPlan_1 kzvX3_advance ml_RX3_46 ⟨Nat.le_of_ble_eq_true rfl, Nat.le_of_ble_eq_true rfl⟩ rfl (Nat.le_of_ble_eq_true rfl) (kX3_advance es1) ?_
  refine R_aload DX3_readPlan_4 0 rfl ?_
  refine R_constI DX3_readPlan_5 ci_0 ?_
  refine R_aload DX3_readPlan_6 0 rfl ?_
  obtain ⟨v2, ev2, h⟩ := bind_some h
  refine R_gR DX3_readPlan_7 fl_RX3_28 ev2 ?_
  obtain ⟨v3, ev3, h⟩ := bind_some h
  refine R_gI DX3_readPlan_10 fl_RX3_170 ev3 ?_
  refine R_constI DX3_readPlan_13 ci_1 ?_
  refine R_isub DX3_readPlan_14 ?_
  obtain ⟨r4, er4, h⟩ := bind_some h
  refine R_cV1 [.int (iI 0), .int (v3 - (iI 1))] DX3_readPlan_15 kzvX3_takeNumber ml_RX3_116 ⟨Nat.le_of_ble_eq_true rfl, Nat.le_of_ble_eq_true rfl⟩ rfl (Nat.le_of_ble_eq_true rfl) (kX3_takeNumber er4) ?_
  refine R_istore [(1, .int r4.1), (0, .ref x0)] DX3_readPlan_18 (by decide) rfl ?_
  refine R_aload DX3_readPlan_19 1 rfl ?_
  refine R_constI DX3_readPlan_20 ci_0 ?_
  refine R_aload DX3_readPlan_21 1 rfl ?_
  obtain ⟨v5, ev5, h⟩ := bind_some h
  refine R_gR DX3_readPlan_22 fl_RX3_28 ev5 ?_
  obtain ⟨v6, ev6, h⟩ := bind_some h
  refine R_gI DX3_readPlan_25 fl_RX3_131 ev6 ?_
  refine R_constI DX3_readPlan_28 ci_1 ?_
  refine R_isub DX3_readPlan_29 ?_
  obtain ⟨r7, er7, h⟩ := bind_some h
  refine R_cV1 [.int (iI 0), .int (v6 - (iI 1))] DX3_readPlan_30 kzvX3_takeNumber ml_RX3_116 ⟨Nat.le_of_ble_eq_true rfl, Nat.le_of_ble_eq_true rfl⟩ rfl (Nat.le_of_ble_eq_true rfl) (kX3_takeNumber er7) ?_
  refine R_istore [(2, .int r7.1), (1, .int r4.1), (0, .ref x0)] DX3_readPlan_33 (by decide) rfl ?_
  refine R_aload DX3_readPlan_34 2 rfl ?_
  refine R_ldcS 26 (by decide) rfl rfl DX3_readPlan_35 ?_
  obtain ⟨r8, er8, h⟩ := bind_some h
  refine R_cV1 [.ref (gK G 26)] DX3_readPlan_37 kzvX3_isWord ml_RX3_69 ⟨Nat.le_of_ble_eq_true rfl, Nat.le_of_ble_eq_true rfl⟩ rfl (Nat.le_of_ble_eq_true rfl) (kX3_isWord er8) ?_
  by_cases c9 : r8.1 = 0
  · replace h := if_t h c9
    refine R_if_eq_t DX3_readPlan_40 c9 ?_
    refine R_constI DX3_readPlan_47 ci_2 ?_
    refine R.sub (L' := [(0, .ref x0), (1, .int r4.1), (2, .int r7.1)]) [2, 1, 0] rfl ?_
    exact tX3_readPlan_b48 h
  · replace h := if_f h c9
    refine R_if_eq_f DX3_readPlan_40 c9 ?_
    refine R_constI DX3_readPlan_43 ci_1 ?_
    refine R_goto DX3_readPlan_44 ?_
    refine R.sub (L' := [(0, .ref x0), (1, .int r4.1), (2, .int r7.1)]) [2, 1, 0] rfl ?_
    exact tX3_readPlan_b48 h
set_option maxRecDepth 8000 in
theorem kX3_readLine {G : Gm} {x0 : Nat} {s : Hp} {w : Hp} (h : fX3_readLine (gK G) x0 s = some w) : (s.2.2 x0).1 = 3 ∧ Call G MX3_readLine [.ref x0] s (none, w) := by
  unfold fX3_readLine at h
  obtain ⟨_, e0, h⟩ := bind_some h
  refine ⟨ck_some e0, Call.of_R pnRX3 (Nat.le_of_ble_eq_true rfl) ?_⟩
  clear e0
  show R G MX3_readLine 0 [(0, .ref x0)] [] s (none, w)
  refine R_aload DX3_readLine_0 0 rfl ?_
  obtain ⟨v1, ev1, h⟩ := bind_some h
  refine R_gR DX3_readLine_1 fl_RX3_28 ev1 ?_
  obtain ⟨v2, ev2, h⟩ := bind_some h
  refine R_gI DX3_readLine_4 fl_RX3_58 ev2 ?_
  by_cases c3 : v2 = 0
  · replace h := if_t h c3
    refine R_if_ne_f DX3_readLine_7 c3 ?_
    refine R_aload DX3_readLine_10 0 rfl ?_
    obtain ⟨s24, es24, h⟩ := bind_some h
    refine R_cV0 [] DX3_readLine_11 kzvX3_readSizes ml_RX3_64 ⟨Nat.le_of_ble_eq_true rfl, Nat.le_of_ble_eq_true rfl⟩ rfl (Nat.le_of_ble_eq_true rfl) (kX3_readSizes es24) ?_
    refine R_goto DX3_readLine_14 ?_
    cases h
    exact R_return rfl DX3_readLine_122
  · replace h := if_f h c3
    refine R_if_ne_t DX3_readLine_7 c3 ?_
    refine R_aload DX3_readLine_17 0 rfl ?_
    refine R_ldcS 6 (by decide) rfl rfl DX3_readLine_18 ?_
    obtain ⟨r4, er4, h⟩ := bind_some h
    refine R_cV1 [.ref (gK G 6)] DX3_readLine_20 kzvX3_isWord ml_RX3_69 ⟨Nat.le_of_ble_eq_true rfl, Nat.le_of_ble_eq_true rfl⟩ rfl (Nat.le_of_ble_eq_true rfl) (kX3_isWord er4) ?_
    by_cases c5 : r4.1 = 0
    · replace h := if_t h c5
      refine R_if_eq_t DX3_readLine_23 c5 ?_
      refine R_aload DX3_readLine_33 0 rfl ?_
      refine R_ldcS 9 (by decide) rfl rfl DX3_readLine_34 ?_
      obtain ⟨r6, er6, h⟩ := bind_some h
      refine R_cV1 [.ref (gK G 9)] DX3_readLine_36 kzvX3_isWord ml_RX3_69 ⟨Nat.le_of_ble_eq_true rfl, Nat.le_of_ble_eq_true rfl⟩ rfl (Nat.le_of_ble_eq_true rfl) (kX3_isWord er6) ?_
      by_cases c7 : r6.1 = 0
      · replace h := if_t h c7
        refine R_if_eq_t DX3_readLine_39 c7 ?_
        refine R_aload DX3_readLine_49 0 rfl ?_
        refine R_ldcS 16 (by decide) rfl rfl DX3_readLine_50 ?_
        obtain ⟨r8, er8, h⟩ := bind_some h
        refine R_cV1 [.ref (gK G 16)] DX3_readLine_52 kzvX3_isWord ml_RX3_69 ⟨Nat.le_of_ble_eq_true rfl, Nat.le_of_ble_eq_true rfl⟩ rfl (Nat.le_of_ble_eq_true rfl) (kX3_isWord er8) ?_
        by_cases c9 : r8.1 = 0
        · replace h := if_t h c9
          refine R_if_eq_t DX3_readLine_55 c9 ?_
          refine R_aload DX3_readLine_65 0 rfl ?_
          refine R_ldcS 21 (by decide) rfl rfl DX3_readLine_66 ?_
          obtain ⟨r10, er10, h⟩ := bind_some h
          refine R_cV1 [.ref (gK G 21)] DX3_readLine_68 kzvX3_isWord ml_RX3_69 ⟨Nat.le_of_ble_eq_true rfl, Nat.le_of_ble_eq_true rfl⟩ rfl (Nat.le_of_ble_eq_true rfl) (kX3_isWord er10) ?_
          by_cases c11 : r10.1 = 0
          · replace h := if_t h c11
            refine R_if_eq_t DX3_readLine_71 c11 ?_
            refine R_aload DX3_readLine_81 0 rfl ?_
            refine R_ldcS 23 (by decide) rfl rfl DX3_readLine_82 ?_
            obtain ⟨r12, er12, h⟩ := bind_some h
            refine R_cV1 [.ref (gK G 23)] DX3_readLine_84 kzvX3_isWord ml_RX3_69 ⟨Nat.le_of_ble_eq_true rfl, Nat.le_of_ble_eq_true rfl⟩ rfl (Nat.le_of_ble_eq_true rfl) (kX3_isWord er12) ?_
            by_cases c13 : r12.1 = 0
            · replace h := if_t h c13
              refine R_if_eq_t DX3_readLine_87 c13 ?_
              refine R_aload DX3_readLine_97 0 rfl ?_
              refine R_ldcS 25 (by decide) rfl rfl DX3_readLine_98 ?_
              obtain ⟨r14, er14, h⟩ := bind_some h
              refine R_cV1 [.ref (gK G 25)] DX3_readLine_100 kzvX3_isWord ml_RX3_69 ⟨Nat.le_of_ble_eq_true rfl, Nat.le_of_ble_eq_true rfl⟩ rfl (Nat.le_of_ble_eq_true rfl) (kX3_isWord er14) ?_
              by_cases c15 : r14.1 = 0
              · replace h := if_t h c15
                refine R_if_eq_t DX3_readLine_103 c15 ?_
                refine R_aload DX3_readLine_113 0 rfl ?_
                refine R_constI DX3_readLine_114 ci_1 ?_
                refine R_aload DX3_readLine_115 0 rfl ?_
                obtain ⟨v16, ev16, h⟩ := bind_some h
                refine R_gI DX3_readLine_116 fl_RX3_101 ev16 ?_
                obtain ⟨s17, es17, h⟩ := bind_some h
                refine R_cV0 [.int (iI 1), .int v16] DX3_readLine_119 kzvX3_fail ml_RX3_104 ⟨Nat.le_of_ble_eq_true rfl, Nat.le_of_ble_eq_true rfl⟩ rfl (Nat.le_of_ble_eq_true rfl) (kX3_fail es17) ?_
                cases h
                exact R_return rfl DX3_readLine_122
              · replace h := if_f h c15
                refine R_if_eq_f DX3_readLine_103 c15 ?_
                refine R_aload DX3_readLine_106 0 rfl ?_
                obtain ⟨s18, es18, h⟩ := bind_some h
                refine R_cV0 [] DX3_readLine_107 kzvX3_readPlan ml_RX3_98 ⟨Nat.le_of_ble_eq_true rfl, Nat.le_of_ble_eq_true rfl⟩ rfl (Nat.le_of_ble_eq_true rfl) (kX3_readPlan es18) ?_
                refine R_goto DX3_readLine_110 ?_
                cases h
                exact R_return rfl DX3_readLine_122
            · replace h := if_f h c13
              refine R_if_eq_f DX3_readLine_87 c13 ?_
              refine R_aload DX3_readLine_90 0 rfl ?_
              obtain ⟨s19, es19, h⟩ := bind_some h
              refine R_cV0 [] DX3_readLine_91 kzvX3_readFair ml_RX3_93 ⟨Nat.le_of_ble_eq_true rfl, Nat.le_of_ble_eq_true rfl⟩ rfl (Nat.le_of_ble_eq_true rfl) (kX3_readFair es19) ?_
              refine R_goto DX3_readLine_94 ?_
              cases h
              exact R_return rfl DX3_readLine_122
          · replace h := if_f h c11
            refine R_if_eq_f DX3_readLine_71 c11 ?_
            refine R_aload DX3_readLine_74 0 rfl ?_
            obtain ⟨s20, es20, h⟩ := bind_some h
            refine R_cV0 [] DX3_readLine_75 kzvX3_readDoor ml_RX3_88 ⟨Nat.le_of_ble_eq_true rfl, Nat.le_of_ble_eq_true rfl⟩ rfl (Nat.le_of_ble_eq_true rfl) (kX3_readDoor es20) ?_
            refine R_goto DX3_readLine_78 ?_
            cases h
            exact R_return rfl DX3_readLine_122
        · replace h := if_f h c9
          refine R_if_eq_f DX3_readLine_55 c9 ?_
          refine R_aload DX3_readLine_58 0 rfl ?_
          obtain ⟨s21, es21, h⟩ := bind_some h
          refine R_cV0 [] DX3_readLine_59 kzvX3_readShop ml_RX3_83 ⟨Nat.le_of_ble_eq_true rfl, Nat.le_of_ble_eq_true rfl⟩ rfl (Nat.le_of_ble_eq_true rfl) (kX3_readShop es21) ?_
          refine R_goto DX3_readLine_62 ?_
          cases h
          exact R_return rfl DX3_readLine_122
      · replace h := if_f h c7
        refine R_if_eq_f DX3_readLine_39 c7 ?_
        refine R_aload DX3_readLine_42 0 rfl ?_
        obtain ⟨s22, es22, h⟩ := bind_some h
        refine R_cV0 [] DX3_readLine_43 kzvX3_readWind ml_RX3_78 ⟨Nat.le_of_ble_eq_true rfl, Nat.le_of_ble_eq_true rfl⟩ rfl (Nat.le_of_ble_eq_true rfl) (kX3_readWind es22) ?_
        refine R_goto DX3_readLine_46 ?_
        cases h
        exact R_return rfl DX3_readLine_122
    · replace h := if_f h c5
      refine R_if_eq_f DX3_readLine_23 c5 ?_
      refine R_aload DX3_readLine_26 0 rfl ?_
      obtain ⟨s23, es23, h⟩ := bind_some h
      refine R_cV0 [] DX3_readLine_27 kzvX3_readSells ml_RX3_73 ⟨Nat.le_of_ble_eq_true rfl, Nat.le_of_ble_eq_true rfl⟩ rfl (Nat.le_of_ble_eq_true rfl) (kX3_readSells es23) ?_
      refine R_goto DX3_readLine_30 ?_
      cases h
      exact R_return rfl DX3_readLine_122
set_option maxRecDepth 8000 in
theorem kX3_takeSign {G : Gm} {x0 : Nat} {s : Hp} {w : Hp} (h : fX3_takeSign x0 s = some w) : (s.2.2 x0).1 = 3 ∧ Call G MX3_takeSign [.ref x0] s (none, w) := by
  unfold fX3_takeSign at h
  obtain ⟨_, e0, h⟩ := bind_some h
  refine ⟨ck_some e0, Call.of_R pnRX3 (Nat.le_of_ble_eq_true rfl) ?_⟩
  clear e0
  show R G MX3_takeSign 0 [(0, .ref x0)] [] s (none, w)
  refine R_aload DX3_takeSign_0 0 rfl ?_
  obtain ⟨v1, ev1, h⟩ := bind_some h
  refine R_gI DX3_takeSign_1 fl_RX3_49 ev1 ?_
  refine R_constI DX3_takeSign_4 ci_3 ?_
  by_cases c2 : v1 = (iI 3)
  · replace h := if_t h c2
    refine R_icmp_ne_f DX3_takeSign_5 c2 ?_
    refine R_aload DX3_takeSign_8 0 rfl ?_
    obtain ⟨s5, es5, h⟩ := bind_some h
    refine R_cV0 [] DX3_takeSign_9 kzvX3_advance ml_RX3_46 ⟨Nat.le_of_ble_eq_true rfl, Nat.le_of_ble_eq_true rfl⟩ rfl (Nat.le_of_ble_eq_true rfl) (kX3_advance es5) ?_
    refine R_goto DX3_takeSign_12 ?_
    cases h
    exact R_return rfl DX3_takeSign_24
  · replace h := if_f h c2
    refine R_icmp_ne_t DX3_takeSign_5 c2 ?_
    refine R_aload DX3_takeSign_15 0 rfl ?_
    refine R_constI DX3_takeSign_16 ci_1 ?_
    refine R_aload DX3_takeSign_17 0 rfl ?_
    obtain ⟨v3, ev3, h⟩ := bind_some h
    refine R_gI DX3_takeSign_18 fl_RX3_101 ev3 ?_
    obtain ⟨s4, es4, h⟩ := bind_some h
    refine R_cV0 [.int (iI 1), .int v3] DX3_takeSign_21 kzvX3_fail ml_RX3_104 ⟨Nat.le_of_ble_eq_true rfl, Nat.le_of_ble_eq_true rfl⟩ rfl (Nat.le_of_ble_eq_true rfl) (kX3_fail es4) ?_
    cases h
    exact R_return rfl DX3_takeSign_24
set_option maxRecDepth 8000 in
theorem tX6_spreadWinds_b44 {G : Gm} {x0 : Nat} {x1 : Int32} {x3 : Int32} {x4 : Int32} {s : Hp} {o : Option Value × Hp} {w : (Int32 × Int32 × Hp) ⊕ ((Hp))} (h : fX6_spreadWinds_b44 x0 x1 x3 x4 s = some w) (hc : ∀ (q2 : Int32) (q3 : Int32) (qs : Hp), w = .inl (q2, q3, qs) → R G MX6_spreadWinds 11 [(0, .ref x0), (1, .int x1), (2, .int q2), (3, .int q3)] [] qs o) (he0 : ∀ (qs : Hp), w = .inr qs → R G MX6_spreadWinds 58 [(0, .ref x0), (1, .int x1)] [] qs o) : R G MX6_spreadWinds 44 [(0, .ref x0), (1, .int x1), (3, .int x3), (4, .int x4)] [] s o := by
  unfold fX6_spreadWinds_b44 at h
  refine R_aload DX6_spreadWinds_44 0 rfl ?_
  obtain ⟨v7, ev7, h⟩ := bind_some h
  refine R_gR DX6_spreadWinds_45 fl_RX6_15 ev7 ?_
  refine R_iload DX6_spreadWinds_48 3 rfl ?_
  obtain ⟨v8, ev8, h⟩ := bind_some h
  refine R_aI DX6_spreadWinds_50 ev8 ?_
  refine R_istore [(2, .int v8), (0, .ref x0), (1, .int x1), (3, .int x3), (4, .int x4)] DX6_spreadWinds_51 (by decide) rfl ?_
  refine R_iinc [(3, .int (x3 + iI 1)), (2, .int v8), (0, .ref x0), (1, .int x1), (4, .int x4)] DX6_spreadWinds_52 3 rfl (v := x3 + iI 1) (by rfl) (by decide) rfl ?_
  refine R_goto DX6_spreadWinds_55 ?_
  refine R.sub (L' := [(0, .ref x0), (1, .int x1), (2, .int v8), (3, .int (x3 + iI 1))]) [2, 3, 1, 0] rfl ?_
  cases h
  exact hc _ _ _ rfl
set_option maxRecDepth 8000 in
theorem tX6_spreadWinds_l11 {G : Gm} {x0 : Nat} {x1 : Int32} {o : Option Value × Hp} {a : Int32 × Int32 × Hp} {w : (Int32 × Int32 × Hp) ⊕ ((Hp))} (h : fX6_spreadWinds_l11 x0 x1 a = some w) (hc : ∀ (q2 : Int32) (q3 : Int32) (qs : Hp), w = .inl (q2, q3, qs) → R G MX6_spreadWinds 11 [(0, .ref x0), (1, .int x1), (2, .int q2), (3, .int q3)] [] qs o) (he0 : ∀ (qs : Hp), w = .inr qs → R G MX6_spreadWinds 58 [(0, .ref x0), (1, .int x1)] [] qs o) : R G MX6_spreadWinds 11 [(0, .ref x0), (1, .int x1), (2, .int a.1), (3, .int a.2.1)] [] a.2.2 o := by
  unfold fX6_spreadWinds_l11 at h
  refine R_iload DX6_spreadWinds_11 3 rfl ?_
  refine R_constI DX6_spreadWinds_12 ci_24 ?_
  by_cases c2 : (iI 24) ≤ a.2.1
  · replace h := if_t h c2
    refine R_icmp_ge_t DX6_spreadWinds_14 c2 ?_
    refine R.sub (L' := [(0, .ref x0), (1, .int x1)]) [0, 1] rfl ?_
    cases h
    exact he0 _ rfl
  · replace h := if_f h c2
    refine R_icmp_ge_f DX6_spreadWinds_14 c2 ?_
    refine R_iload DX6_spreadWinds_17 1 rfl ?_
    refine R_constI DX6_spreadWinds_18 ci_24 ?_
    refine R_imul DX6_spreadWinds_20 ?_
    refine R_iload DX6_spreadWinds_21 3 rfl ?_
    refine R_iadd DX6_spreadWinds_22 ?_
    obtain ⟨z3, ez3, h⟩ := lt_some h
    refine R_istoreE ez3 [(4, .int z3), (0, .ref x0), (1, .int x1), (2, .int a.1), (3, .int a.2.1)] DX6_spreadWinds_23 (by decide) rfl ?_
    refine R_aload DX6_spreadWinds_25 1 rfl ?_
    obtain ⟨v4, ev4, h⟩ := bind_some h
    refine R_gR DX6_spreadWinds_26 fl_RX6_15 ev4 ?_
    refine R_iload DX6_spreadWinds_29 0 rfl ?_
    obtain ⟨v5, ev5, h⟩ := bind_some h
    refine R_aI DX6_spreadWinds_31 ev5 ?_
    refine R_constI DX6_spreadWinds_32 ci_m1 ?_
    by_cases c6 : v5 = (iI (-1))
    · replace h := if_t h c6
      refine R_icmp_ne_f DX6_spreadWinds_33 c6 ?_
      refine R_aload DX6_spreadWinds_36 1 rfl ?_
      obtain ⟨v9, ev9, h⟩ := bind_some h
      refine R_gR DX6_spreadWinds_37 fl_RX6_15 ev9 ?_
      refine R_iload DX6_spreadWinds_40 0 rfl ?_
      refine R_iload DX6_spreadWinds_42 3 rfl ?_
      obtain ⟨s10, es10, h⟩ := bind_some h
      refine R_sI DX6_spreadWinds_43 es10 ?_
      refine R.sub (L' := [(0, .ref x0), (1, .int x1), (3, .int a.2.1), (4, .int z3)]) [1, 2, 4, 0] rfl ?_
      exact tX6_spreadWinds_b44 h hc he0
    · replace h := if_f h c6
      refine R_icmp_ne_t DX6_spreadWinds_33 c6 ?_
      refine R.sub (L' := [(0, .ref x0), (1, .int x1), (3, .int a.2.1), (4, .int z3)]) [1, 2, 4, 0] rfl ?_
      exact tX6_spreadWinds_b44 h hc he0
set_option maxRecDepth 8000 in
theorem tX6_spreadWinds_l2 {G : Gm} {x0 : Nat} {o : Option Value × Hp} {a : Int32 × Hp} {w : (Int32 × Hp) ⊕ ((Hp))} (h : fX6_spreadWinds_l2 x0 a = some w) (hc : ∀ (q1 : Int32) (qs : Hp), w = .inl (q1, qs) → R G MX6_spreadWinds 2 [(0, .ref x0), (1, .int q1)] [] qs o) (he0 : ∀ (qs : Hp), w = .inr qs → R G MX6_spreadWinds 64 [] [] qs o) : R G MX6_spreadWinds 2 [(0, .ref x0), (1, .int a.1)] [] a.2 o := by
  unfold fX6_spreadWinds_l2 at h
  refine R_iload DX6_spreadWinds_2 1 rfl ?_
  refine R_constI DX6_spreadWinds_3 ci_5 ?_
  by_cases c1 : (iI 5) ≤ a.1
  · replace h := if_t h c1
    refine R_icmp_ge_t DX6_spreadWinds_4 c1 ?_
    refine R.sub (L' := []) [] rfl ?_
    cases h
    exact he0 _ rfl
  · replace h := if_f h c1
    refine R_icmp_ge_f DX6_spreadWinds_4 c1 ?_
    refine R_constI DX6_spreadWinds_7 ci_0 ?_
    refine R_istore [(2, .int (iI 0)), (0, .ref x0), (1, .int a.1)] DX6_spreadWinds_8 (by decide) rfl ?_
    refine R_constI DX6_spreadWinds_9 ci_0 ?_
    refine R_istore [(3, .int (iI 0)), (2, .int (iI 0)), (0, .ref x0), (1, .int a.1)] DX6_spreadWinds_10 (by decide) rfl ?_
    refine R.sub (L' := [(0, .ref x0), (1, .int a.1), (2, .int (iI 0)), (3, .int (iI 0))]) [2, 3, 1, 0] rfl ?_
    obtain ⟨r11, hi, h⟩ := bind_some h
    have hE : (fun u11 : Hp => R G MX6_spreadWinds 58 [(0, .ref x0), (1, .int a.1)] [] u11 o) r11 → ∀ (q2 : Int32) (q3 : Int32) (qs : Hp), iter (fX6_spreadWinds_l11 x0 a.1) FU (q2, q3, qs) = some r11 → R G MX6_spreadWinds 11 [(0, .ref x0), (1, .int a.1), (2, .int q2), (3, .int q3)] [] qs o := fun hX q2 q3 qs hj => loop_R (fX6_spreadWinds_l11 x0 a.1) (fun p11 : Int32 × Int32 × Hp => R G MX6_spreadWinds 11 [(0, .ref x0), (1, .int a.1), (2, .int p11.1), (3, .int p11.2.1)] [] p11.2.2 o) (fun u11 : Hp => R G MX6_spreadWinds 58 [(0, .ref x0), (1, .int a.1)] [] u11 o) (fun a w hw hc he => tX6_spreadWinds_l11 hw (fun q2 q3 qs e => hc (q2, q3, qs) e) (fun qs e => he qs e)) FU (q2, q3, qs) r11 hj hX
    refine hE ?_ _ _ _ hi
    clear hE hi
    refine R_iinc [(1, .int (a.1 + iI 1)), (0, .ref x0)] DX6_spreadWinds_58 1 rfl (v := a.1 + iI 1) (by rfl) (by decide) rfl ?_
    refine R_goto DX6_spreadWinds_61 ?_
    refine R.sub (L' := [(0, .ref x0), (1, .int (a.1 + iI 1))]) [1, 0] rfl ?_
    cases h
    exact hc _ _ rfl
set_option maxRecDepth 8000 in
theorem kX6_spreadWinds {G : Gm} {x0 : Nat} {s : Hp} {w : Hp} (h : fX6_spreadWinds x0 s = some w) : (s.2.2 x0).1 = 6 ∧ Call G MX6_spreadWinds [.ref x0] s (none, w) := by
  unfold fX6_spreadWinds at h
  obtain ⟨_, e0, h⟩ := bind_some h
  refine ⟨ck_some e0, Call.of_R pnRX6 (Nat.le_of_ble_eq_true rfl) ?_⟩
  clear e0
  show R G MX6_spreadWinds 0 [(0, .ref x0)] [] s (none, w)
  refine R_constI DX6_spreadWinds_0 ci_0 ?_
  refine R_istore [(1, .int (iI 0)), (0, .ref x0)] DX6_spreadWinds_1 (by decide) rfl ?_
  refine R.sub (L' := [(0, .ref x0), (1, .int (iI 0))]) [1, 0] rfl ?_
  obtain ⟨r12, hi, h⟩ := bind_some h
  have hE : (fun u2 : Hp => R G MX6_spreadWinds 64 [] [] u2 (none, w)) r12 → ∀ (q1 : Int32) (qs : Hp), iter (fX6_spreadWinds_l2 x0) FU (q1, qs) = some r12 → R G MX6_spreadWinds 2 [(0, .ref x0), (1, .int q1)] [] qs (none, w) := fun hX q1 qs hj => loop_R (fX6_spreadWinds_l2 x0) (fun p2 : Int32 × Hp => R G MX6_spreadWinds 2 [(0, .ref x0), (1, .int p2.1)] [] p2.2 (none, w)) (fun u2 : Hp => R G MX6_spreadWinds 64 [] [] u2 (none, w)) (fun a w hw hc he => tX6_spreadWinds_l2 hw (fun q1 qs e => hc (q1, qs) e) (fun qs e => he qs e)) FU (q1, qs) r12 hj hX
  refine hE ?_ _ _ hi
  clear hE hi
  cases h
  exact R_return rfl DX6_spreadWinds_64
set_option maxRecDepth 8000 in
theorem tX3_reads_l54 {G : Gm} {x0 : Nat} {o : Option Value × Hp} {a : Int32 × Hp} {w : (Int32 × Hp) ⊕ ((Hp))} (h : fX3_reads_l54 (gK G) x0 a = some w) (hc : ∀ (q4 : Int32) (qs : Hp), w = .inl (q4, qs) → R G MX3_reads 54 [(0, .ref x0), (4, .int q4)] [] qs o) (he0 : ∀ (qs : Hp), w = .inr qs → R G MX3_reads 104 [(0, .ref x0)] [] qs o) : R G MX3_reads 54 [(0, .ref x0), (4, .int a.1)] [] a.2 o := by
  unfold fX3_reads_l54 at h
  refine R_iload DX3_reads_54 1 rfl ?_
  refine R_aload DX3_reads_56 0 rfl ?_
  obtain ⟨v12, ev12, h⟩ := bind_some h
  refine R_gI DX3_reads_57 fl_RX3_25 ev12 ?_
  by_cases c13 : v12 ≤ a.1
  · replace h := if_t h c13
    refine R_icmp_ge_t DX3_reads_60 c13 ?_
    refine R.sub (L' := [(0, .ref x0)]) [0] rfl ?_
    cases h
    exact he0 _ rfl
  · replace h := if_f h c13
    refine R_icmp_ge_f DX3_reads_60 c13 ?_
    refine R_aload DX3_reads_63 0 rfl ?_
    obtain ⟨v14, ev14, h⟩ := bind_some h
    refine R_gI DX3_reads_64 fl_RX3_49 ev14 ?_
    by_cases c15 : v14 = 0
    · replace h := if_t h c15
      refine R_if_eq_t DX3_reads_67 c15 ?_
      refine R.sub (L' := [(0, .ref x0)]) [0] rfl ?_
      cases h
      exact he0 _ rfl
    · replace h := if_f h c15
      refine R_if_eq_f DX3_reads_67 c15 ?_
      refine R_aload DX3_reads_70 0 rfl ?_
      obtain ⟨v16, ev16, h⟩ := bind_some h
      refine R_gI DX3_reads_71 fl_RX3_37 ev16 ?_
      by_cases c17 : v16 = 0
      · replace h := if_t h c17
        refine R_if_ne_f DX3_reads_74 c17 ?_
        refine R_aload DX3_reads_77 0 rfl ?_
        obtain ⟨s18, es18, h⟩ := bind_some h
        refine R_cV0 [] DX3_reads_78 kzvX3_readLine ml_RX3_52 ⟨Nat.le_of_ble_eq_true rfl, Nat.le_of_ble_eq_true rfl⟩ rfl (Nat.le_of_ble_eq_true rfl) (kX3_readLine es18) ?_
        refine R_aload DX3_reads_81 0 rfl ?_
        obtain ⟨s19, es19, h⟩ := bind_some h
        refine R_cV0 [] DX3_reads_82 kzvX3_takeSign ml_RX3_55 ⟨Nat.le_of_ble_eq_true rfl, Nat.le_of_ble_eq_true rfl⟩ rfl (Nat.le_of_ble_eq_true rfl) (kX3_takeSign es19) ?_
        refine R_aload DX3_reads_85 0 rfl ?_
        obtain ⟨v20, ev20, h⟩ := bind_some h
        refine R_gR DX3_reads_86 fl_RX3_28 ev20 ?_
        refine R_dup DX3_reads_89 rfl ?_
        obtain ⟨v21, ev21, h⟩ := bind_some h
        refine R_gI DX3_reads_90 fl_RX3_58 ev21 ?_
        refine R_constI DX3_reads_93 ci_1 ?_
        refine R_iadd DX3_reads_94 ?_
        obtain ⟨s22, es22, h⟩ := bind_some h
        refine R_pI DX3_reads_95 fl_RX3_58 es22 ?_
        refine R_iinc [(4, .int (a.1 + iI 1)), (0, .ref x0)] DX3_reads_98 1 rfl (v := a.1 + iI 1) (by rfl) (by decide) rfl ?_
        refine R_goto DX3_reads_101 ?_
        refine R.sub (L' := [(0, .ref x0), (4, .int (a.1 + iI 1))]) [1, 0] rfl ?_
        cases h
        exact hc _ _ rfl
      · replace h := if_f h c17
        refine R_if_ne_t DX3_reads_74 c17 ?_
        refine R.sub (L' := [(0, .ref x0)]) [0] rfl ?_
        cases h
        exact he0 _ rfl
set_option maxRecDepth 8000 in
theorem tX3_reads_b104 {G : Gm} {x0 : Nat} {s : Hp} {w : Int32 × Hp} (h : fX3_reads_b104 (gK G) x0 s = some w) : R G MX3_reads 104 [(0, .ref x0)] [] s (some (.int w.1), w.2) := by
  unfold fX3_reads_b104 at h
  refine R_aload DX3_reads_104 0 rfl ?_
  obtain ⟨v24, ev24, h⟩ := bind_some h
  refine R_gR DX3_reads_105 fl_RX3_28 ev24 ?_
  obtain ⟨s25, es25, h⟩ := bind_some h
  refine R_cV0 [] DX3_reads_108 kzvX6_spreadWinds ml_RX3_61 ⟨Nat.le_of_ble_eq_true rfl, Nat.le_of_ble_eq_true rfl⟩ rfl (Nat.le_of_ble_eq_true rfl) (kX6_spreadWinds es25) ?_
  refine R_aload DX3_reads_111 0 rfl ?_
  obtain ⟨v26, ev26, h⟩ := bind_some h
  refine R_gI DX3_reads_112 fl_RX3_37 ev26 ?_
  by_cases c27 : v26 = 0
  · replace h := if_t h c27
    refine R_if_ne_f DX3_reads_115 c27 ?_
    refine R_constI DX3_reads_118 ci_1 ?_
    refine R_goto DX3_reads_119 ?_
    cases h
    exact R_zreturn rfl DX3_reads_123 (by decide)
  · replace h := if_f h c27
    refine R_if_ne_t DX3_reads_115 c27 ?_
    refine R_constI DX3_reads_122 ci_0 ?_
    cases h
    exact R_zreturn rfl DX3_reads_123 (by decide)
set_option maxRecDepth 8000 in
theorem kX3_reads {G : Gm} {x0 : Nat} {x1 : Nat} {x2 : Int32} {x3 : Nat} {s : Hp} {w : Int32 × Hp} (h : fX3_reads (gK G) x0 x1 x2 x3 s = some w) : (s.2.2 x0).1 = 3 ∧ Call G MX3_reads [.ref x0, .ref x1, .int x2, .ref x3] s (some (.int w.1), w.2) := by
  unfold fX3_reads at h
  obtain ⟨_, e0, h⟩ := bind_some h
  refine ⟨ck_some e0, Call.of_R pnRX3 (Nat.le_of_ble_eq_true rfl) ?_⟩
  clear e0
  show R G MX3_reads 0 [(0, .ref x0), (1, .ref x1), (2, .int x2), (3, .ref x3)] [] s (some (.int w.1), w.2)
  refine R_aload DX3_reads_0 0 rfl ?_
  refine R_aload DX3_reads_1 1 rfl ?_
  obtain ⟨s1, es1, h⟩ := bind_some h
  refine R_pA DX3_reads_2 fl_RX3_15 es1 ?_
  refine R_aload DX3_reads_5 0 rfl ?_
  refine R_iload DX3_reads_6 2 rfl ?_
  refine R_aload DX3_reads_7 1 rfl ?_
  obtain ⟨v2, ev2, h⟩ := bind_some h
  refine R_aN DX3_reads_8 ev2 ?_
  refine R_mmin DX3_reads_9 mw_RX3_19 ⟨Nat.le_of_ble_eq_true rfl, Nat.le_of_ble_eq_true rfl⟩ ?_
  obtain ⟨s3, es3, h⟩ := bind_some h
  refine R_pI DX3_reads_12 fl_RX3_25 es3 ?_
  refine R_aload DX3_reads_15 0 rfl ?_
  refine R_aload DX3_reads_16 3 rfl ?_
  obtain ⟨s4, es4, h⟩ := bind_some h
  refine R_pR DX3_reads_17 fl_RX3_28 es4 ?_
  refine R_aload DX3_reads_20 0 rfl ?_
  obtain ⟨v5, ev5, h⟩ := bind_some h
  refine R_gR DX3_reads_21 fl_RX3_28 ev5 ?_
  obtain ⟨s6, es6, h⟩ := bind_some h
  refine R_cV0 [] DX3_reads_24 kzvX6_clear ml_RX3_32 ⟨Nat.le_of_ble_eq_true rfl, Nat.le_of_ble_eq_true rfl⟩ rfl (Nat.le_of_ble_eq_true rfl) (kX6_clear es6) ?_
  refine R_aload DX3_reads_27 0 rfl ?_
  refine R_constI DX3_reads_28 ci_0 ?_
  obtain ⟨s7, es7, h⟩ := bind_some h
  refine R_pI DX3_reads_29 fl_RX3_37 es7 ?_
  refine R_aload DX3_reads_32 0 rfl ?_
  refine R_constI DX3_reads_33 ci_m1 ?_
  obtain ⟨s8, es8, h⟩ := bind_some h
  refine R_pI DX3_reads_34 fl_RX3_9 es8 ?_
  refine R_aload DX3_reads_37 0 rfl ?_
  refine R_constI DX3_reads_38 ci_0 ?_
  obtain ⟨s9, es9, h⟩ := bind_some h
  refine R_pI DX3_reads_39 fl_RX3_40 es9 ?_
  refine R_aload DX3_reads_42 0 rfl ?_
  refine R_constI DX3_reads_43 ci_0 ?_
  obtain ⟨s10, es10, h⟩ := bind_some h
  refine R_pI DX3_reads_44 fl_RX3_43 es10 ?_
  refine R_aload DX3_reads_47 0 rfl ?_
  obtain ⟨s11, es11, h⟩ := bind_some h
  refine R_cV0 [] DX3_reads_48 kzvX3_advance ml_RX3_46 ⟨Nat.le_of_ble_eq_true rfl, Nat.le_of_ble_eq_true rfl⟩ rfl (Nat.le_of_ble_eq_true rfl) (kX3_advance es11) ?_
  refine R_constI DX3_reads_51 ci_0 ?_
  refine R_istore [(4, .int (iI 0)), (0, .ref x0), (1, .ref x1), (2, .int x2), (3, .ref x3)] DX3_reads_52 (by decide) rfl ?_
  refine R.sub (L' := [(0, .ref x0), (4, .int (iI 0))]) [1, 0] rfl ?_
  obtain ⟨r23, hi, h⟩ := bind_some h
  have hE : (fun u54 : Hp => R G MX3_reads 104 [(0, .ref x0)] [] u54 (some (.int w.1), w.2)) r23 → ∀ (q4 : Int32) (qs : Hp), iter (fX3_reads_l54 (gK G) x0) FU (q4, qs) = some r23 → R G MX3_reads 54 [(0, .ref x0), (4, .int q4)] [] qs (some (.int w.1), w.2) := fun hX q4 qs hj => loop_R (fX3_reads_l54 (gK G) x0) (fun p54 : Int32 × Hp => R G MX3_reads 54 [(0, .ref x0), (4, .int p54.1)] [] p54.2 (some (.int w.1), w.2)) (fun u54 : Hp => R G MX3_reads 104 [(0, .ref x0)] [] u54 (some (.int w.1), w.2)) (fun a w hw hc he => tX3_reads_l54 hw (fun q4 qs e => hc (q4, qs) e) (fun qs e => he qs e)) FU (q4, qs) r23 hj hX
  refine hE ?_ _ _ hi
  clear hE hi
  exact tX3_reads_b104 h
set_option maxRecDepth 8000 in
theorem tX4_init_l45 {G : Gm} {x0 : Nat} {o : Option Value × Hp} {a : Int32 × Hp} {w : (Int32 × Hp) ⊕ ((Hp))} (h : fX4_init_l45 x0 a = some w) (hc : ∀ (q1 : Int32) (qs : Hp), w = .inl (q1, qs) → R G MX4_init 45 [(0, .ref x0), (1, .int q1)] [] qs o) (he0 : ∀ (qs : Hp), w = .inr qs → R G MX4_init 69 [] [] qs o) : R G MX4_init 45 [(0, .ref x0), (1, .int a.1)] [] a.2 o := by
  unfold fX4_init_l45 at h
  refine R_iload DX4_init_45 1 rfl ?_
  refine R_constI DX4_init_46 ci_4 ?_
  by_cases c11 : (iI 4) ≤ a.1
  · replace h := if_t h c11
    refine R_icmp_ge_t DX4_init_47 c11 ?_
    refine R.sub (L' := []) [] rfl ?_
    cases h
    exact he0 _ rfl
  · replace h := if_f h c11
    refine R_icmp_ge_f DX4_init_47 c11 ?_
    refine R_aload DX4_init_50 0 rfl ?_
    obtain ⟨v12, ev12, h⟩ := bind_some h
    refine R_gR DX4_init_51 fl_RX4_31 ev12 ?_
    refine R_iload DX4_init_54 1 rfl ?_
    refine R_new DX4_init_55 nc_RX4_29 ?_
    obtain ⟨s13, es13, h⟩ := lt_some h
    rw [← es13]
    refine R_dup DX4_init_58 rfl ?_
    obtain ⟨s14, es14, h⟩ := bind_some h
    refine R_cIN [] DX4_init_59 kziX2_init ml_RX4_35 ⟨Nat.le_of_ble_eq_true rfl, Nat.le_of_ble_eq_true rfl⟩ rfl (Nat.le_of_ble_eq_true rfl) (kX2_init es14) ?_
    obtain ⟨s15, es15, h⟩ := bind_some h
    refine R_sR rt26 DX4_init_62 es15 ?_
    refine R_iinc [(1, .int (a.1 + iI 1)), (0, .ref x0)] DX4_init_63 1 rfl (v := a.1 + iI 1) (by rfl) (by decide) rfl ?_
    refine R_goto DX4_init_66 ?_
    refine R.sub (L' := [(0, .ref x0), (1, .int (a.1 + iI 1))]) [1, 0] rfl ?_
    cases h
    exact hc _ _ rfl
set_option maxRecDepth 8000 in
theorem kX4_init {G : Gm} {x0 : Nat} {s : Hp} {w : Hp} (h : fX4_init x0 s = some w) : (s.2.2 x0).1 = 4 ∧ Call G MX4_init [.ref x0] s (none, w) := by
  unfold fX4_init at h
  obtain ⟨_, e0, h⟩ := bind_some h
  refine ⟨ck_some e0, Call.of_R pnRX4 (Nat.le_of_ble_eq_true rfl) ?_⟩
  clear e0
  show R G MX4_init 0 [(0, .ref x0)] [] s (none, w)
  refine R_aload DX4_init_0 0 rfl ?_
  refine R_objInit DX4_init_1 oi_RX4_3 ⟨Nat.le_of_ble_eq_true rfl, Nat.le_of_ble_eq_true rfl⟩ ?_
  refine R_aload DX4_init_4 0 rfl ?_
  refine R_constI DX4_init_5 ci_16000 ?_
  obtain ⟨s1, es1, h⟩ := bind_some h
  refine R_newa at21 aw21 DX4_init_8 es1 ?_
  obtain ⟨s2, es2, h⟩ := bind_some h
  refine R_pAF DX4_init_10 fl_RX4_11 ⟨rfl, _, rfl⟩ es2 ?_
  refine R_aload DX4_init_13 0 rfl ?_
  refine R_new DX4_init_14 nc_RX4_15 ?_
  obtain ⟨s3, es3, h⟩ := lt_some h
  rw [← es3]
  refine R_dup DX4_init_17 rfl ?_
  obtain ⟨s4, es4, h⟩ := bind_some h
  refine R_cIN [] DX4_init_18 kziX0_init ml_RX4_17 ⟨Nat.le_of_ble_eq_true rfl, Nat.le_of_ble_eq_true rfl⟩ rfl (Nat.le_of_ble_eq_true rfl) (kX0_init es4) ?_
  obtain ⟨s5, es5, h⟩ := bind_some h
  refine R_pRF DX4_init_21 fl_RX4_18 ⟨rfl, _, rfl⟩ es5 ?_
  refine R_aload DX4_init_24 0 rfl ?_
  refine R_new DX4_init_25 nc_RX4_22 ?_
  obtain ⟨s6, es6, h⟩ := lt_some h
  rw [← es6]
  refine R_dup DX4_init_28 rfl ?_
  obtain ⟨s7, es7, h⟩ := bind_some h
  refine R_cIN [] DX4_init_29 kziX1_init ml_RX4_24 ⟨Nat.le_of_ble_eq_true rfl, Nat.le_of_ble_eq_true rfl⟩ rfl (Nat.le_of_ble_eq_true rfl) (kX1_init es7) ?_
  obtain ⟨s8, es8, h⟩ := bind_some h
  refine R_pRF DX4_init_32 fl_RX4_25 ⟨rfl, _, rfl⟩ es8 ?_
  refine R_aload DX4_init_35 0 rfl ?_
  refine R_constI DX4_init_36 ci_4 ?_
  obtain ⟨s9, es9, h⟩ := bind_some h
  refine R_newq rt26 ⟨_, rfl⟩ cl_RX4_29 DX4_init_37 es9 ?_
  obtain ⟨s10, es10, h⟩ := bind_some h
  refine R_pAF DX4_init_40 fl_RX4_31 ⟨rfl, _, rfl⟩ es10 ?_
  refine R_constI DX4_init_43 ci_0 ?_
  refine R_istore [(1, .int (iI 0)), (0, .ref x0)] DX4_init_44 (by decide) rfl ?_
  refine R.sub (L' := [(0, .ref x0), (1, .int (iI 0))]) [1, 0] rfl ?_
  obtain ⟨r16, hi, h⟩ := bind_some h
  have hE : (fun u45 : Hp => R G MX4_init 69 [] [] u45 (none, w)) r16 → ∀ (q1 : Int32) (qs : Hp), iter (fX4_init_l45 x0) FU (q1, qs) = some r16 → R G MX4_init 45 [(0, .ref x0), (1, .int q1)] [] qs (none, w) := fun hX q1 qs hj => loop_R (fX4_init_l45 x0) (fun p45 : Int32 × Hp => R G MX4_init 45 [(0, .ref x0), (1, .int p45.1)] [] p45.2 (none, w)) (fun u45 : Hp => R G MX4_init 69 [] [] u45 (none, w)) (fun a w hw hc he => tX4_init_l45 hw (fun q1 qs e => hc (q1, qs) e) (fun qs e => he qs e)) FU (q1, qs) r16 hj hX
  refine hE ?_ _ _ hi
  clear hE hi
  cases h
  exact R_return rfl DX4_init_69
set_option maxRecDepth 8000 in
theorem kX4_blockCount {G : Gm} {x0 : Nat} {s : Hp} {w : Int32 × Hp} (h : fX4_blockCount x0 s = some w) : (s.2.2 x0).1 = 4 ∧ Call G MX4_blockCount [.ref x0] s (some (.int w.1), w.2) := by
  unfold fX4_blockCount at h
  obtain ⟨_, e0, h⟩ := bind_some h
  refine ⟨ck_some e0, Call.of_R pnRX4 (Nat.le_of_ble_eq_true rfl) ?_⟩
  clear e0
  show R G MX4_blockCount 0 [(0, .ref x0)] [] s (some (.int w.1), w.2)
  refine R_aload DX4_blockCount_0 0 rfl ?_
  obtain ⟨v1, ev1, h⟩ := bind_some h
  refine R_gI DX4_blockCount_1 fl_RX4_142 ev1 ?_
  refine R_constI DX4_blockCount_4 ci_1 ?_
  refine R_iadd DX4_blockCount_5 ?_
  refine R_aload DX4_blockCount_6 0 rfl ?_
  obtain ⟨v2, ev2, h⟩ := bind_some h
  refine R_gI DX4_blockCount_7 fl_RX4_145 ev2 ?_
  refine R_constI DX4_blockCount_10 ci_1 ?_
  refine R_iadd DX4_blockCount_11 ?_
  refine R_imul DX4_blockCount_12 ?_
  refine R_aload DX4_blockCount_13 0 rfl ?_
  obtain ⟨v3, ev3, h⟩ := bind_some h
  refine R_gR DX4_blockCount_14 fl_RX4_120 ev3 ?_
  obtain ⟨v4, ev4, h⟩ := bind_some h
  refine R_gI DX4_blockCount_17 fl_RX4_159 ev4 ?_
  refine R_imul DX4_blockCount_20 ?_
  cases h
  exact R_ireturn rfl DX4_blockCount_21
set_option maxRecDepth 8000 in
theorem kX4_placeOf {G : Gm} {x0 : Nat} {x1 : Int32} {x2 : Int32} {x3 : Int32} {s : Hp} {w : Int32 × Hp} (h : fX4_placeOf x0 x1 x2 x3 s = some w) : (s.2.2 x0).1 = 4 ∧ Call G MX4_placeOf [.ref x0, .int x1, .int x2, .int x3] s (some (.int w.1), w.2) := by
  unfold fX4_placeOf at h
  obtain ⟨_, e0, h⟩ := bind_some h
  refine ⟨ck_some e0, Call.of_R pnRX4 (Nat.le_of_ble_eq_true rfl) ?_⟩
  clear e0
  show R G MX4_placeOf 0 [(0, .ref x0), (1, .int x1), (2, .int x2), (3, .int x3)] [] s (some (.int w.1), w.2)
  refine R_iload DX4_placeOf_0 1 rfl ?_
  refine R_aload DX4_placeOf_1 0 rfl ?_
  obtain ⟨v1, ev1, h⟩ := bind_some h
  refine R_gI DX4_placeOf_2 fl_RX4_145 ev1 ?_
  refine R_constI DX4_placeOf_5 ci_1 ?_
  refine R_iadd DX4_placeOf_6 ?_
  refine R_imul DX4_placeOf_7 ?_
  refine R_iload DX4_placeOf_8 2 rfl ?_
  refine R_iadd DX4_placeOf_9 ?_
  refine R_aload DX4_placeOf_10 0 rfl ?_
  obtain ⟨v2, ev2, h⟩ := bind_some h
  refine R_gR DX4_placeOf_11 fl_RX4_120 ev2 ?_
  obtain ⟨v3, ev3, h⟩ := bind_some h
  refine R_gI DX4_placeOf_14 fl_RX4_159 ev3 ?_
  refine R_imul DX4_placeOf_17 ?_
  refine R_iload DX4_placeOf_18 3 rfl ?_
  refine R_iadd DX4_placeOf_19 ?_
  refine R_aload DX4_placeOf_20 0 rfl ?_
  obtain ⟨v4, ev4, h⟩ := bind_some h
  refine R_gI DX4_placeOf_21 fl_RX4_136 ev4 ?_
  refine R_imul DX4_placeOf_24 ?_
  cases h
  exact R_ireturn rfl DX4_placeOf_25
set_option maxRecDepth 8000 in
theorem tX4_prepare_l66 {G : Gm} {x0 : Nat} {x1 : Nat} {x2 : Int32} {x3 : Int32} {o : Option Value × Hp} {a : Int32 × Hp} {w : (Int32 × Hp) ⊕ ((Hp))} (h : fX4_prepare_l66 x0 x1 x2 x3 a = some w) (hc : ∀ (q5 : Int32) (qs : Hp), w = .inl (q5, qs) → R G MX4_prepare 66 [(0, .ref x0), (1, .ref x1), (2, .int x2), (3, .int x3), (5, .int q5)] [] qs o) (he0 : ∀ (qs : Hp), w = .inr qs → R G MX4_prepare 94 [(0, .ref x0), (1, .ref x1), (2, .int x2), (3, .int x3)] [] qs o) : R G MX4_prepare 66 [(0, .ref x0), (1, .ref x1), (2, .int x2), (3, .int x3), (5, .int a.1)] [] a.2 o := by
  unfold fX4_prepare_l66 at h
  refine R_iload DX4_prepare_66 4 rfl ?_
  refine R_aload DX4_prepare_68 0 rfl ?_
  obtain ⟨r12, er12, h⟩ := bind_some h
  refine R_cV1 [] DX4_prepare_69 kzvX4_blockCount ml_RX4_93 ⟨Nat.le_of_ble_eq_true rfl, Nat.le_of_ble_eq_true rfl⟩ rfl (Nat.le_of_ble_eq_true rfl) (kX4_blockCount er12) ?_
  refine R_aload DX4_prepare_72 0 rfl ?_
  obtain ⟨v13, ev13, h⟩ := bind_some h
  refine R_gI DX4_prepare_73 fl_RX4_136 ev13 ?_
  refine R_imul DX4_prepare_76 ?_
  by_cases c14 : (r12.1 * v13) ≤ a.1
  · replace h := if_t h c14
    refine R_icmp_ge_t DX4_prepare_77 c14 ?_
    refine R.sub (L' := [(0, .ref x0), (1, .ref x1), (2, .int x2), (3, .int x3)]) [0, 1, 2, 3] rfl ?_
    cases h
    exact he0 _ rfl
  · replace h := if_f h c14
    refine R_icmp_ge_f DX4_prepare_77 c14 ?_
    refine R_aload DX4_prepare_80 0 rfl ?_
    obtain ⟨v15, ev15, h⟩ := bind_some h
    refine R_gR DX4_prepare_81 fl_RX4_11 ev15 ?_
    refine R_iload DX4_prepare_84 4 rfl ?_
    refine R_lconst DX4_prepare_86 ?_
    obtain ⟨s16, es16, h⟩ := bind_some h
    refine R_sL DX4_prepare_87 es16 ?_
    refine R_iinc [(5, .int (a.1 + iI 1)), (0, .ref x0), (1, .ref x1), (2, .int x2), (3, .int x3)] DX4_prepare_88 4 rfl (v := a.1 + iI 1) (by rfl) (by decide) rfl ?_
    refine R_goto DX4_prepare_91 ?_
    refine R.sub (L' := [(0, .ref x0), (1, .ref x1), (2, .int x2), (3, .int x3), (5, .int (a.1 + iI 1))]) [1, 2, 3, 4, 0] rfl ?_
    cases h
    exact hc _ _ rfl
set_option maxRecDepth 8000 in
theorem tX4_prepare_b125 {G : Gm} {y0 : Nat} {y1 : Int32} {y2 : Int64} {s : Hp} {w : Hp} (h : fX4_prepare_b125 y0 y1 y2 s = some w) : R G MX4_prepare 125 [] [.long y2, .int y1, .ref y0] s (none, w) := by
  unfold fX4_prepare_b125 at h
  obtain ⟨s24, es24, h⟩ := bind_some h
  refine R_sL DX4_prepare_125 es24 ?_
  cases h
  exact R_return rfl DX4_prepare_126
set_option maxRecDepth 8000 in
theorem kX4_prepare {G : Gm} {x0 : Nat} {x1 : Nat} {x2 : Int32} {x3 : Int32} {x4 : Int32} {s : Hp} {w : Hp} (h : fX4_prepare x0 x1 x2 x3 x4 s = some w) : (s.2.2 x0).1 = 4 ∧ Call G MX4_prepare [.ref x0, .ref x1, .int x2, .int x3, .int x4] s (none, w) := by
  unfold fX4_prepare at h
  obtain ⟨_, e0, h⟩ := bind_some h
  refine ⟨ck_some e0, Call.of_R pnRX4 (Nat.le_of_ble_eq_true rfl) ?_⟩
  clear e0
  show R G MX4_prepare 0 [(0, .ref x0), (1, .ref x1), (2, .int x2), (3, .int x3), (4, .int x4)] [] s (none, w)
  refine R_aload DX4_prepare_0 0 rfl ?_
  refine R_aload DX4_prepare_1 1 rfl ?_
  obtain ⟨s1, es1, h⟩ := bind_some h
  refine R_pR DX4_prepare_2 fl_RX4_120 es1 ?_
  refine R_aload DX4_prepare_5 0 rfl ?_
  refine R_iload DX4_prepare_6 3 rfl ?_
  obtain ⟨s2, es2, h⟩ := bind_some h
  refine R_pI DX4_prepare_7 fl_RX4_124 es2 ?_
  refine R_aload DX4_prepare_10 0 rfl ?_
  refine R_constI DX4_prepare_11 ci_1 ?_
  refine R_iload DX4_prepare_12 4 rfl ?_
  refine R_constI DX4_prepare_14 ci_32 ?_
  refine R_mmin DX4_prepare_16 mw_RX4_127 ⟨Nat.le_of_ble_eq_true rfl, Nat.le_of_ble_eq_true rfl⟩ ?_
  refine R_mmax DX4_prepare_19 mw_RX4_133 ⟨Nat.le_of_ble_eq_true rfl, Nat.le_of_ble_eq_true rfl⟩ ?_
  obtain ⟨s3, es3, h⟩ := bind_some h
  refine R_pI DX4_prepare_22 fl_RX4_136 es3 ?_
  refine R_aload DX4_prepare_25 0 rfl ?_
  refine R_aload DX4_prepare_26 1 rfl ?_
  refine R_iload DX4_prepare_27 2 rfl ?_
  refine R_constI DX4_prepare_28 ci_2 ?_
  obtain ⟨r4, er4, h⟩ := bind_some h
  refine R_cV1 [.int x2, .int (iI 2)] DX4_prepare_29 kzvX6_shopFact ml_RX4_139 ⟨Nat.le_of_ble_eq_true rfl, Nat.le_of_ble_eq_true rfl⟩ rfl (Nat.le_of_ble_eq_true rfl) (kX6_shopFact er4) ?_
  obtain ⟨s5, es5, h⟩ := bind_some h
  refine R_pI DX4_prepare_32 fl_RX4_69 es5 ?_
  refine R_aload DX4_prepare_35 0 rfl ?_
  refine R_aload DX4_prepare_36 1 rfl ?_
  refine R_iload DX4_prepare_37 2 rfl ?_
  refine R_constI DX4_prepare_38 ci_3 ?_
  obtain ⟨r6, er6, h⟩ := bind_some h
  refine R_cV1 [.int x2, .int (iI 3)] DX4_prepare_39 kzvX6_shopFact ml_RX4_139 ⟨Nat.le_of_ble_eq_true rfl, Nat.le_of_ble_eq_true rfl⟩ rfl (Nat.le_of_ble_eq_true rfl) (kX6_shopFact er6) ?_
  obtain ⟨s7, es7, h⟩ := bind_some h
  refine R_pI DX4_prepare_42 fl_RX4_142 es7 ?_
  refine R_aload DX4_prepare_45 0 rfl ?_
  refine R_aload DX4_prepare_46 1 rfl ?_
  refine R_iload DX4_prepare_47 2 rfl ?_
  refine R_constI DX4_prepare_48 ci_4 ?_
  obtain ⟨r8, er8, h⟩ := bind_some h
  refine R_cV1 [.int x2, .int (iI 4)] DX4_prepare_49 kzvX6_shopFact ml_RX4_139 ⟨Nat.le_of_ble_eq_true rfl, Nat.le_of_ble_eq_true rfl⟩ rfl (Nat.le_of_ble_eq_true rfl) (kX6_shopFact er8) ?_
  obtain ⟨s9, es9, h⟩ := bind_some h
  refine R_pI DX4_prepare_52 fl_RX4_145 es9 ?_
  refine R_aload DX4_prepare_55 0 rfl ?_
  obtain ⟨v10, ev10, h⟩ := bind_some h
  refine R_gR DX4_prepare_56 fl_RX4_18 ev10 ?_
  refine R_aload DX4_prepare_59 1 rfl ?_
  obtain ⟨s11, es11, h⟩ := bind_some h
  refine R_cV0 [.ref x1] DX4_prepare_60 kzvX0_fit ml_RX4_148 ⟨Nat.le_of_ble_eq_true rfl, Nat.le_of_ble_eq_true rfl⟩ rfl (Nat.le_of_ble_eq_true rfl) (kX0_fit es11) ?_
  refine R_constI DX4_prepare_63 ci_0 ?_
  refine R_istore [(5, .int (iI 0)), (0, .ref x0), (1, .ref x1), (2, .int x2), (3, .int x3), (4, .int x4)] DX4_prepare_64 (by decide) rfl ?_
  refine R.sub (L' := [(0, .ref x0), (1, .ref x1), (2, .int x2), (3, .int x3), (5, .int (iI 0))]) [1, 2, 3, 4, 0] rfl ?_
  obtain ⟨r17, hi, h⟩ := bind_some h
  have hE : (fun u66 : Hp => R G MX4_prepare 94 [(0, .ref x0), (1, .ref x1), (2, .int x2), (3, .int x3)] [] u66 (none, w)) r17 → ∀ (q5 : Int32) (qs : Hp), iter (fX4_prepare_l66 x0 x1 x2 x3) FU (q5, qs) = some r17 → R G MX4_prepare 66 [(0, .ref x0), (1, .ref x1), (2, .int x2), (3, .int x3), (5, .int q5)] [] qs (none, w) := fun hX q5 qs hj => loop_R (fX4_prepare_l66 x0 x1 x2 x3) (fun p66 : Int32 × Hp => R G MX4_prepare 66 [(0, .ref x0), (1, .ref x1), (2, .int x2), (3, .int x3), (5, .int p66.1)] [] p66.2 (none, w)) (fun u66 : Hp => R G MX4_prepare 94 [(0, .ref x0), (1, .ref x1), (2, .int x2), (3, .int x3)] [] u66 (none, w)) (fun a w hw hc he => tX4_prepare_l66 hw (fun q5 qs e => hc (q5, qs) e) (fun qs e => he qs e)) FU (q5, qs) r17 hj hX
  refine hE ?_ _ _ hi
  clear hE hi
  refine R_aload DX4_prepare_94 0 rfl ?_
  obtain ⟨v18, ev18, h⟩ := bind_some h
  refine R_gR DX4_prepare_95 fl_RX4_11 ev18 ?_
  refine R_aload DX4_prepare_98 0 rfl ?_
  refine R_constI DX4_prepare_99 ci_0 ?_
  refine R_constI DX4_prepare_100 ci_0 ?_
  refine R_aload DX4_prepare_101 0 rfl ?_
  obtain ⟨v19, ev19, h⟩ := bind_some h
  refine R_gI DX4_prepare_102 fl_RX4_69 ev19 ?_
  obtain ⟨r20, er20, h⟩ := bind_some h
  refine R_cV1 [.int (iI 0), .int (iI 0), .int v19] DX4_prepare_105 kzvX4_placeOf ml_RX4_72 ⟨Nat.le_of_ble_eq_true rfl, Nat.le_of_ble_eq_true rfl⟩ rfl (Nat.le_of_ble_eq_true rfl) (kX4_placeOf er20) ?_
  refine R_iload DX4_prepare_108 3 rfl ?_
  refine R_constI DX4_prepare_109 ci_4 ?_
  by_cases c21 : x3 = (iI 4)
  · replace h := if_t h c21
    refine R_icmp_ne_f DX4_prepare_110 c21 ?_
    refine R_lconst DX4_prepare_113 ?_
    refine R_goto DX4_prepare_114 ?_
    refine R.sub (L' := []) [] rfl ?_
    exact tX4_prepare_b125 h
  · replace h := if_f h c21
    refine R_icmp_ne_t DX4_prepare_110 c21 ?_
    refine R_aload DX4_prepare_117 1 rfl ?_
    refine R_iload DX4_prepare_118 2 rfl ?_
    obtain ⟨r22, er22, h⟩ := bind_some h
    refine R_cV1 [.int x2] DX4_prepare_119 kzvX6_shopColumn ml_RX4_152 ⟨Nat.le_of_ble_eq_true rfl, Nat.le_of_ble_eq_true rfl⟩ rfl (Nat.le_of_ble_eq_true rfl) (kX6_shopColumn er22) ?_
    obtain ⟨r23, er23, h⟩ := bind_some h
    refine R_cSN1 [.int r22.1] DX4_prepare_122 kzsX8_bitOf ml_RX4_155 ⟨Nat.le_of_ble_eq_true rfl, Nat.le_of_ble_eq_true rfl⟩ rfl (Nat.le_of_ble_eq_true rfl) (kX8_bitOf er23) ?_
    refine R.sub (L' := []) [] rfl ?_
    exact tX4_prepare_b125 h
set_option maxRecDepth 8000 in
theorem kX6_coolings {G : Gm} {x0 : Nat} {x1 : Int32} {s : Hp} {w : Int32 × Hp} (h : fX6_coolings x0 x1 s = some w) : (s.2.2 x0).1 = 6 ∧ Call G MX6_coolings [.ref x0, .int x1] s (some (.int w.1), w.2) := by
  unfold fX6_coolings at h
  obtain ⟨_, e0, h⟩ := bind_some h
  refine ⟨ck_some e0, Call.of_R pnRX6 (Nat.le_of_ble_eq_true rfl) ?_⟩
  clear e0
  show R G MX6_coolings 0 [(0, .ref x0), (1, .int x1)] [] s (some (.int w.1), w.2)
  refine R_aload DX6_coolings_0 0 rfl ?_
  obtain ⟨v1, ev1, h⟩ := bind_some h
  refine R_gI DX6_coolings_1 fl_RX6_66 ev1 ?_
  by_cases c2 : v1 ≤ 0
  · replace h := if_t h c2
    refine R_if_le_t DX6_coolings_4 c2 ?_
    refine R_constI DX6_coolings_16 ci_0 ?_
    cases h
    exact R_ireturn rfl DX6_coolings_17
  · replace h := if_f h c2
    refine R_if_le_f DX6_coolings_4 c2 ?_
    refine R_iload DX6_coolings_7 1 rfl ?_
    refine R_aload DX6_coolings_8 0 rfl ?_
    obtain ⟨v3, ev3, h⟩ := bind_some h
    refine R_gI DX6_coolings_9 fl_RX6_66 ev3 ?_
    obtain ⟨v4, ev4, h⟩ := bind_some h
    refine R_dI DX6_coolings_12 ev4 ?_
    refine R_goto DX6_coolings_13 ?_
    cases h
    exact R_ireturn rfl DX6_coolings_17
set_option maxRecDepth 8000 in
theorem kX4_joined {G : Gm} {x0 : Nat} {x1 : Int64} {x3 : Int64} {s : Hp} {w : Int64 × Hp} (h : fX4_joined x0 x1 x3 s = some w) : (s.2.2 x0).1 = 4 ∧ Call G MX4_joined [.ref x0, .long x1, .long x3] s (some (.long w.1), w.2) := by
  unfold fX4_joined at h
  obtain ⟨_, e0, h⟩ := bind_some h
  refine ⟨ck_some e0, Call.of_R pnRX4 (Nat.le_of_ble_eq_true rfl) ?_⟩
  clear e0
  show R G MX4_joined 0 [(0, .ref x0), (1, .long x1), (3, .long x3)] [] s (some (.long w.1), w.2)
  refine R_aload DX4_joined_0 0 rfl ?_
  obtain ⟨v1, ev1, h⟩ := bind_some h
  refine R_gI DX4_joined_1 fl_RX4_124 ev1 ?_
  refine R_constI DX4_joined_4 ci_4 ?_
  by_cases c2 : v1 = (iI 4)
  · replace h := if_t h c2
    refine R_icmp_ne_f DX4_joined_5 c2 ?_
    refine R_lload DX4_joined_8 1 rfl ?_
    refine R_lload DX4_joined_9 2 rfl ?_
    refine R_ladd DX4_joined_10 ?_
    refine R_goto DX4_joined_11 ?_
    cases h
    exact R_lreturn rfl DX4_joined_17
  · replace h := if_f h c2
    refine R_icmp_ne_t DX4_joined_5 c2 ?_
    refine R_lload DX4_joined_14 1 rfl ?_
    refine R_lload DX4_joined_15 2 rfl ?_
    refine R_lor DX4_joined_16 ?_
    cases h
    exact R_lreturn rfl DX4_joined_17
set_option maxRecDepth 8000 in
theorem tX4_passLayer_b207 {G : Gm} {x0 : Nat} {x5 : Int32} {x6 : Int32} {x7 : Int32} {x8 : Int32} {x9 : Int32} {x10 : Int32} {x11 : Int32} {y0 : Nat} {y1 : Int32} {y2 : Int64} {s : Hp} {o : Option Value × Hp} {w : (Int32 × Hp) ⊕ ((Hp))} (h : fX4_passLayer_b207 x0 x5 x6 x7 x8 x9 x10 x11 y0 y1 y2 s = some w) (hc : ∀ (q11 : Int32) (qs : Hp), w = .inl (q11, qs) → R G MX4_passLayer 107 [(0, .ref x0), (5, .int x5), (6, .int x6), (7, .int x7), (8, .int x8), (9, .int x9), (10, .int x10), (11, .int q11)] [] qs o) (he0 : ∀ (qs : Hp), w = .inr qs → R G MX4_passLayer 214 [] [] qs o) : R G MX4_passLayer 207 [(0, .ref x0), (5, .int x5), (6, .int x6), (7, .int x7), (8, .int x8), (9, .int x9), (10, .int x10), (11, .int x11)] [.long y2, .int y1, .ref y0] s o := by
  unfold fX4_passLayer_b207 at h
  obtain ⟨s19, es19, h⟩ := bind_some h
  refine R_sL DX4_passLayer_207 es19 ?_
  refine R_iinc [(11, .int (x11 + iI 1)), (0, .ref x0), (5, .int x5), (6, .int x6), (7, .int x7), (8, .int x8), (9, .int x9), (10, .int x10)] DX4_passLayer_208 7 rfl (v := x11 + iI 1) (by rfl) (by decide) rfl ?_
  refine R_goto DX4_passLayer_211 ?_
  refine R.sub (L' := [(0, .ref x0), (5, .int x5), (6, .int x6), (7, .int x7), (8, .int x8), (9, .int x9), (10, .int x10), (11, .int (x11 + iI 1))]) [1, 2, 3, 4, 5, 6, 7, 0] rfl ?_
  cases h
  exact hc _ _ rfl
set_option maxRecDepth 8000 in
theorem tX4_passLayer_b174 {G : Gm} {x0 : Nat} {x5 : Int32} {x6 : Int32} {x7 : Int32} {x8 : Int32} {x9 : Int32} {x10 : Int32} {x11 : Int32} {x12 : Int64} {s : Hp} {o : Option Value × Hp} {w : (Int32 × Hp) ⊕ ((Hp))} (h : fX4_passLayer_b174 x0 x5 x6 x7 x8 x9 x10 x11 x12 s = some w) (hc : ∀ (q11 : Int32) (qs : Hp), w = .inl (q11, qs) → R G MX4_passLayer 107 [(0, .ref x0), (5, .int x5), (6, .int x6), (7, .int x7), (8, .int x8), (9, .int x9), (10, .int x10), (11, .int q11)] [] qs o) (he0 : ∀ (qs : Hp), w = .inr qs → R G MX4_passLayer 214 [] [] qs o) : R G MX4_passLayer 174 [(0, .ref x0), (5, .int x5), (6, .int x6), (7, .int x7), (8, .int x8), (9, .int x9), (10, .int x10), (11, .int x11), (12, .long x12)] [] s o := by
  unfold fX4_passLayer_b174 at h
  refine R_aload DX4_passLayer_174 0 rfl ?_
  obtain ⟨v14, ev14, h⟩ := bind_some h
  refine R_gR DX4_passLayer_175 fl_RX4_11 ev14 ?_
  refine R_iload DX4_passLayer_178 1 rfl ?_
  refine R_iload DX4_passLayer_180 7 rfl ?_
  refine R_iadd DX4_passLayer_182 ?_
  refine R_aload DX4_passLayer_183 0 rfl ?_
  obtain ⟨v15, ev15, h⟩ := bind_some h
  refine R_gI DX4_passLayer_184 fl_RX4_124 ev15 ?_
  refine R_constI DX4_passLayer_187 ci_4 ?_
  by_cases c16 : v15 = (iI 4)
  · replace h := if_t h c16
    refine R_icmp_ne_f DX4_passLayer_188 c16 ?_
    refine R_lload DX4_passLayer_191 8 rfl ?_
    refine R_goto DX4_passLayer_193 ?_
    refine R.sub (L' := [(0, .ref x0), (5, .int x5), (6, .int x6), (7, .int x7), (8, .int x8), (9, .int x9), (10, .int x10), (11, .int x11)]) [0, 1, 2, 3, 4, 5, 6, 7] rfl ?_
    exact tX4_passLayer_b207 h hc he0
  · replace h := if_f h c16
    refine R_icmp_ne_t DX4_passLayer_188 c16 ?_
    refine R_aload DX4_passLayer_196 0 rfl ?_
    obtain ⟨v17, ev17, h⟩ := bind_some h
    refine R_gR DX4_passLayer_197 fl_RX4_18 ev17 ?_
    refine R_lload DX4_passLayer_200 8 rfl ?_
    refine R_iload DX4_passLayer_202 6 rfl ?_
    obtain ⟨r18, er18, h⟩ := bind_some h
    refine R_cV1 [.long x12, .int x10] DX4_passLayer_204 kzvX0_carriedSet ml_RX4_186 ⟨Nat.le_of_ble_eq_true rfl, Nat.le_of_ble_eq_true rfl⟩ rfl (Nat.le_of_ble_eq_true rfl) (kX0_carriedSet er18) ?_
    refine R.sub (L' := [(0, .ref x0), (5, .int x5), (6, .int x6), (7, .int x7), (8, .int x8), (9, .int x9), (10, .int x10), (11, .int x11)]) [0, 1, 2, 3, 4, 5, 6, 7] rfl ?_
    exact tX4_passLayer_b207 h hc he0
set_option maxRecDepth 8000 in
theorem tX4_passLayer_b151 {G : Gm} {x0 : Nat} {x5 : Int32} {x6 : Int32} {x7 : Int32} {x8 : Int32} {x9 : Int32} {x10 : Int32} {x11 : Int32} {x12 : Int64} {s : Hp} {o : Option Value × Hp} {w : (Int32 × Hp) ⊕ ((Hp))} (h : fX4_passLayer_b151 x0 x5 x6 x7 x8 x9 x10 x11 x12 s = some w) (hc : ∀ (q11 : Int32) (qs : Hp), w = .inl (q11, qs) → R G MX4_passLayer 107 [(0, .ref x0), (5, .int x5), (6, .int x6), (7, .int x7), (8, .int x8), (9, .int x9), (10, .int x10), (11, .int q11)] [] qs o) (he0 : ∀ (qs : Hp), w = .inr qs → R G MX4_passLayer 214 [] [] qs o) : R G MX4_passLayer 151 [(0, .ref x0), (5, .int x5), (6, .int x6), (7, .int x7), (8, .int x8), (9, .int x9), (10, .int x10), (11, .int x11), (12, .long x12)] [] s o := by
  unfold fX4_passLayer_b151 at h
  refine R_iload DX4_passLayer_151 3 rfl ?_
  by_cases c13 : x7 = 0
  · replace h := if_t h c13
    refine R_if_eq_t DX4_passLayer_153 c13 ?_
    exact tX4_passLayer_b174 h hc he0
  · replace h := if_f h c13
    refine R_if_eq_f DX4_passLayer_153 c13 ?_
    refine R_aload DX4_passLayer_156 0 rfl ?_
    refine R_lload DX4_passLayer_157 8 rfl ?_
    refine R_aload DX4_passLayer_159 0 rfl ?_
    obtain ⟨v20, ev20, h⟩ := bind_some h
    refine R_gR DX4_passLayer_160 fl_RX4_11 ev20 ?_
    refine R_iload DX4_passLayer_163 5 rfl ?_
    refine R_iload DX4_passLayer_165 7 rfl ?_
    refine R_iadd DX4_passLayer_167 ?_
    obtain ⟨v21, ev21, h⟩ := bind_some h
    refine R_aL DX4_passLayer_168 ev21 ?_
    obtain ⟨r22, er22, h⟩ := bind_some h
    refine R_cV1 [.long x12, .long v21] DX4_passLayer_169 kzvX4_joined ml_RX4_182 ⟨Nat.le_of_ble_eq_true rfl, Nat.le_of_ble_eq_true rfl⟩ rfl (Nat.le_of_ble_eq_true rfl) (kX4_joined er22) ?_
    refine R_lstore [(12, .long r22.1), (0, .ref x0), (5, .int x5), (6, .int x6), (7, .int x7), (8, .int x8), (9, .int x9), (10, .int x10), (11, .int x11)] DX4_passLayer_172 (by decide) rfl ?_
    refine R.sub (L' := [(0, .ref x0), (5, .int x5), (6, .int x6), (7, .int x7), (8, .int x8), (9, .int x9), (10, .int x10), (11, .int x11), (12, .long r22.1)]) [1, 2, 3, 4, 5, 6, 7, 8, 0] rfl ?_
    exact tX4_passLayer_b174 h hc he0
set_option maxRecDepth 8000 in
theorem tX4_passLayer_l107 {G : Gm} {x0 : Nat} {x5 : Int32} {x6 : Int32} {x7 : Int32} {x8 : Int32} {x9 : Int32} {x10 : Int32} {o : Option Value × Hp} {a : Int32 × Hp} {w : (Int32 × Hp) ⊕ ((Hp))} (h : fX4_passLayer_l107 x0 x5 x6 x7 x8 x9 x10 a = some w) (hc : ∀ (q11 : Int32) (qs : Hp), w = .inl (q11, qs) → R G MX4_passLayer 107 [(0, .ref x0), (5, .int x5), (6, .int x6), (7, .int x7), (8, .int x8), (9, .int x9), (10, .int x10), (11, .int q11)] [] qs o) (he0 : ∀ (qs : Hp), w = .inr qs → R G MX4_passLayer 214 [] [] qs o) : R G MX4_passLayer 107 [(0, .ref x0), (5, .int x5), (6, .int x6), (7, .int x7), (8, .int x8), (9, .int x9), (10, .int x10), (11, .int a.1)] [] a.2 o := by
  unfold fX4_passLayer_l107 at h
  refine R_iload DX4_passLayer_107 7 rfl ?_
  refine R_aload DX4_passLayer_109 0 rfl ?_
  obtain ⟨v8, ev8, h⟩ := bind_some h
  refine R_gI DX4_passLayer_110 fl_RX4_136 ev8 ?_
  by_cases c9 : v8 ≤ a.1
  · replace h := if_t h c9
    refine R_icmp_ge_t DX4_passLayer_113 c9 ?_
    refine R.sub (L' := []) [] rfl ?_
    cases h
    exact he0 _ rfl
  · replace h := if_f h c9
    refine R_icmp_ge_f DX4_passLayer_113 c9 ?_
    refine R_aload DX4_passLayer_116 0 rfl ?_
    obtain ⟨v10, ev10, h⟩ := bind_some h
    refine R_gR DX4_passLayer_117 fl_RX4_11 ev10 ?_
    refine R_iload DX4_passLayer_120 1 rfl ?_
    refine R_iload DX4_passLayer_122 7 rfl ?_
    refine R_iadd DX4_passLayer_124 ?_
    obtain ⟨v11, ev11, h⟩ := bind_some h
    refine R_aL DX4_passLayer_125 ev11 ?_
    refine R_lstore [(12, .long v11), (0, .ref x0), (5, .int x5), (6, .int x6), (7, .int x7), (8, .int x8), (9, .int x9), (10, .int x10), (11, .int a.1)] DX4_passLayer_126 (by decide) rfl ?_
    refine R_iload DX4_passLayer_128 3 rfl ?_
    by_cases c12 : x6 = 0
    · replace h := if_t h c12
      refine R_if_eq_t DX4_passLayer_130 c12 ?_
      refine R.sub (L' := [(0, .ref x0), (5, .int x5), (6, .int x6), (7, .int x7), (8, .int x8), (9, .int x9), (10, .int x10), (11, .int a.1), (12, .long v11)]) [1, 2, 3, 4, 5, 6, 7, 8, 0] rfl ?_
      exact tX4_passLayer_b151 h hc he0
    · replace h := if_f h c12
      refine R_if_eq_f DX4_passLayer_130 c12 ?_
      refine R_aload DX4_passLayer_133 1 rfl ?_
      refine R_lload DX4_passLayer_134 0 rfl ?_
      refine R_aload DX4_passLayer_136 1 rfl ?_
      obtain ⟨v23, ev23, h⟩ := bind_some h
      refine R_gR DX4_passLayer_137 fl_RX4_11 ev23 ?_
      refine R_iload DX4_passLayer_140 5 rfl ?_
      refine R_iload DX4_passLayer_142 8 rfl ?_
      refine R_iadd DX4_passLayer_144 ?_
      obtain ⟨v24, ev24, h⟩ := bind_some h
      refine R_aL DX4_passLayer_145 ev24 ?_
      obtain ⟨r25, er25, h⟩ := bind_some h
      refine R_cV1 [.long v11, .long v24] DX4_passLayer_146 kzvX4_joined ml_RX4_182 ⟨Nat.le_of_ble_eq_true rfl, Nat.le_of_ble_eq_true rfl⟩ rfl (Nat.le_of_ble_eq_true rfl) (kX4_joined er25) ?_
      refine R_lstore [(12, .long r25.1), (0, .ref x0), (5, .int x5), (6, .int x6), (7, .int x7), (8, .int x8), (9, .int x9), (10, .int x10), (11, .int a.1)] DX4_passLayer_149 (by decide) rfl ?_
      refine R.sub (L' := [(0, .ref x0), (5, .int x5), (6, .int x6), (7, .int x7), (8, .int x8), (9, .int x9), (10, .int x10), (11, .int a.1), (12, .long r25.1)]) [1, 2, 3, 4, 5, 6, 7, 8, 0] rfl ?_
      exact tX4_passLayer_b151 h hc he0
set_option maxRecDepth 8000 in
theorem tX4_passLayer_b90 {G : Gm} {x0 : Nat} {x3 : Int32} {x4 : Int32} {x5 : Int32} {x6 : Int32} {x7 : Int32} {x8 : Int32} {y0 : Int32} {s : Hp} {w : Hp} (h : fX4_passLayer_b90 x0 x3 x4 x5 x6 x7 x8 y0 s = some w) : R G MX4_passLayer 90 [(0, .ref x0), (3, .int x3), (4, .int x4), (5, .int x5), (6, .int x6), (7, .int x7), (8, .int x8)] [.int y0] s (none, w) := by
  unfold fX4_passLayer_b90 at h
  refine R_istore [(9, .int y0), (0, .ref x0), (3, .int x3), (4, .int x4), (5, .int x5), (6, .int x6), (7, .int x7), (8, .int x8)] DX4_passLayer_90 (by decide) rfl ?_
  refine R_aload DX4_passLayer_92 1 rfl ?_
  obtain ⟨v6, ev6, h⟩ := bind_some h
  refine R_gR DX4_passLayer_93 fl_RX4_120 ev6 ?_
  refine R_iload DX4_passLayer_96 2 rfl ?_
  refine R_iload DX4_passLayer_97 3 rfl ?_
  obtain ⟨r7, er7, h⟩ := bind_some h
  refine R_cV1 [.int x3, .int x4] DX4_passLayer_99 kzvX6_windAt ml_RX4_179 ⟨Nat.le_of_ble_eq_true rfl, Nat.le_of_ble_eq_true rfl⟩ rfl (Nat.le_of_ble_eq_true rfl) (kX6_windAt er7) ?_
  refine R_istore [(10, .int r7.1), (9, .int y0), (0, .ref x0), (3, .int x3), (4, .int x4), (5, .int x5), (6, .int x6), (7, .int x7), (8, .int x8)] DX4_passLayer_102 (by decide) rfl ?_
  refine R_constI DX4_passLayer_104 ci_0 ?_
  refine R_istore [(11, .int (iI 0)), (10, .int r7.1), (9, .int y0), (0, .ref x0), (3, .int x3), (4, .int x4), (5, .int x5), (6, .int x6), (7, .int x7), (8, .int x8)] DX4_passLayer_105 (by decide) rfl ?_
  refine R.sub (L' := [(0, .ref x0), (5, .int x5), (6, .int x6), (7, .int x7), (8, .int x8), (9, .int y0), (10, .int r7.1), (11, .int (iI 0))]) [3, 6, 7, 8, 9, 2, 1, 0] rfl ?_
  obtain ⟨r26, hi, h⟩ := bind_some h
  have hE : (fun u107 : Hp => R G MX4_passLayer 214 [] [] u107 (none, w)) r26 → ∀ (q11 : Int32) (qs : Hp), iter (fX4_passLayer_l107 x0 x5 x6 x7 x8 y0 r7.1) FU (q11, qs) = some r26 → R G MX4_passLayer 107 [(0, .ref x0), (5, .int x5), (6, .int x6), (7, .int x7), (8, .int x8), (9, .int y0), (10, .int r7.1), (11, .int q11)] [] qs (none, w) := fun hX q11 qs hj => loop_R (fX4_passLayer_l107 x0 x5 x6 x7 x8 y0 r7.1) (fun p107 : Int32 × Hp => R G MX4_passLayer 107 [(0, .ref x0), (5, .int x5), (6, .int x6), (7, .int x7), (8, .int x8), (9, .int y0), (10, .int r7.1), (11, .int p107.1)] [] p107.2 (none, w)) (fun u107 : Hp => R G MX4_passLayer 214 [] [] u107 (none, w)) (fun a w hw hc he => tX4_passLayer_l107 hw (fun q11 qs e => hc (q11, qs) e) (fun qs e => he qs e)) FU (q11, qs) r26 hj hX
  refine hE ?_ _ _ hi
  clear hE hi
  cases h
  exact R_return rfl DX4_passLayer_214
set_option maxRecDepth 8000 in
theorem tX4_passLayer_b68 {G : Gm} {x0 : Nat} {x1 : Int32} {x2 : Int32} {x3 : Int32} {x4 : Int32} {x5 : Int32} {x6 : Int32} {x7 : Int32} {y0 : Int32} {s : Hp} {w : Hp} (h : fX4_passLayer_b68 x0 x1 x2 x3 x4 x5 x6 x7 y0 s = some w) : R G MX4_passLayer 68 [(0, .ref x0), (1, .int x1), (2, .int x2), (3, .int x3), (4, .int x4), (5, .int x5), (6, .int x6), (7, .int x7)] [.int y0] s (none, w) := by
  unfold fX4_passLayer_b68 at h
  refine R_istore [(8, .int y0), (0, .ref x0), (1, .int x1), (2, .int x2), (3, .int x3), (4, .int x4), (5, .int x5), (6, .int x6), (7, .int x7)] DX4_passLayer_68 (by decide) rfl ?_
  refine R_iload DX4_passLayer_70 8 rfl ?_
  by_cases c5 : x7 = 0
  · replace h := if_t h c5
    refine R_if_eq_t DX4_passLayer_72 c5 ?_
    refine R_constI DX4_passLayer_89 ci_0 ?_
    refine R.sub (L' := [(0, .ref x0), (3, .int x3), (4, .int x4), (5, .int x5), (6, .int x6), (7, .int x7), (8, .int y0)]) [1, 4, 5, 6, 7, 8, 0] rfl ?_
    exact tX4_passLayer_b90 h
  · replace h := if_f h c5
    refine R_if_eq_f DX4_passLayer_72 c5 ?_
    refine R_aload DX4_passLayer_75 1 rfl ?_
    refine R_iload DX4_passLayer_76 2 rfl ?_
    refine R_iload DX4_passLayer_77 3 rfl ?_
    refine R_constI DX4_passLayer_78 ci_1 ?_
    refine R_isub DX4_passLayer_79 ?_
    refine R_iload DX4_passLayer_80 4 rfl ?_
    refine R_constI DX4_passLayer_81 ci_1 ?_
    refine R_iadd DX4_passLayer_82 ?_
    obtain ⟨r27, er27, h⟩ := bind_some h
    refine R_cV1 [.int x1, .int (x2 - (iI 1)), .int (x3 + (iI 1))] DX4_passLayer_83 kzvX4_placeOf ml_RX4_72 ⟨Nat.le_of_ble_eq_true rfl, Nat.le_of_ble_eq_true rfl⟩ rfl (Nat.le_of_ble_eq_true rfl) (kX4_placeOf er27) ?_
    refine R_goto DX4_passLayer_86 ?_
    refine R.sub (L' := [(0, .ref x0), (3, .int x3), (4, .int x4), (5, .int x5), (6, .int x6), (7, .int x7), (8, .int y0)]) [1, 4, 5, 6, 7, 8, 0] rfl ?_
    exact tX4_passLayer_b90 h
set_option maxRecDepth 8000 in
theorem tX4_passLayer_b46 {G : Gm} {x0 : Nat} {x1 : Int32} {x2 : Int32} {x3 : Int32} {x4 : Int32} {x5 : Int32} {x6 : Int32} {y0 : Int32} {s : Hp} {w : Hp} (h : fX4_passLayer_b46 x0 x1 x2 x3 x4 x5 x6 y0 s = some w) : R G MX4_passLayer 46 [(0, .ref x0), (1, .int x1), (2, .int x2), (3, .int x3), (4, .int x4), (5, .int x5), (6, .int x6)] [.int y0] s (none, w) := by
  unfold fX4_passLayer_b46 at h
  refine R_istore [(7, .int y0), (0, .ref x0), (1, .int x1), (2, .int x2), (3, .int x3), (4, .int x4), (5, .int x5), (6, .int x6)] DX4_passLayer_46 (by decide) rfl ?_
  refine R_iload DX4_passLayer_48 7 rfl ?_
  by_cases c4 : x6 = 0
  · replace h := if_t h c4
    refine R_if_eq_t DX4_passLayer_50 c4 ?_
    refine R_constI DX4_passLayer_67 ci_0 ?_
    refine R.sub (L' := [(0, .ref x0), (1, .int x1), (2, .int x2), (3, .int x3), (4, .int x4), (5, .int x5), (6, .int x6), (7, .int y0)]) [1, 2, 3, 4, 5, 6, 7, 0] rfl ?_
    exact tX4_passLayer_b68 h
  · replace h := if_f h c4
    refine R_if_eq_f DX4_passLayer_50 c4 ?_
    refine R_aload DX4_passLayer_53 1 rfl ?_
    refine R_iload DX4_passLayer_54 2 rfl ?_
    refine R_constI DX4_passLayer_55 ci_1 ?_
    refine R_isub DX4_passLayer_56 ?_
    refine R_iload DX4_passLayer_57 3 rfl ?_
    refine R_iload DX4_passLayer_58 4 rfl ?_
    refine R_constI DX4_passLayer_59 ci_1 ?_
    refine R_isub DX4_passLayer_60 ?_
    obtain ⟨r28, er28, h⟩ := bind_some h
    refine R_cV1 [.int (x1 - (iI 1)), .int x2, .int (x3 - (iI 1))] DX4_passLayer_61 kzvX4_placeOf ml_RX4_72 ⟨Nat.le_of_ble_eq_true rfl, Nat.le_of_ble_eq_true rfl⟩ rfl (Nat.le_of_ble_eq_true rfl) (kX4_placeOf er28) ?_
    refine R_goto DX4_passLayer_64 ?_
    refine R.sub (L' := [(0, .ref x0), (1, .int x1), (2, .int x2), (3, .int x3), (4, .int x4), (5, .int x5), (6, .int x6), (7, .int y0)]) [1, 2, 3, 4, 5, 6, 7, 0] rfl ?_
    exact tX4_passLayer_b68 h
set_option maxRecDepth 8000 in
theorem tX4_passLayer_b45 {G : Gm} {x0 : Nat} {x1 : Int32} {x2 : Int32} {x3 : Int32} {x4 : Int32} {x5 : Int32} {x6 : Int32} {s : Hp} {w : Hp} (h : fX4_passLayer_b45 x0 x1 x2 x3 x4 x5 x6 s = some w) : R G MX4_passLayer 45 [(0, .ref x0), (1, .int x1), (2, .int x2), (3, .int x3), (4, .int x4), (5, .int x5), (6, .int x6)] [] s (none, w) := by
  unfold fX4_passLayer_b45 at h
  refine R_constI DX4_passLayer_45 ci_0 ?_
  exact tX4_passLayer_b46 h
set_option maxRecDepth 8000 in
theorem tX4_passLayer_b22 {G : Gm} {x0 : Nat} {x1 : Int32} {x2 : Int32} {x3 : Int32} {x4 : Int32} {x5 : Int32} {y0 : Int32} {s : Hp} {w : Hp} (h : fX4_passLayer_b22 x0 x1 x2 x3 x4 x5 y0 s = some w) : R G MX4_passLayer 22 [(0, .ref x0), (1, .int x1), (2, .int x2), (3, .int x3), (4, .int x4), (5, .int x5)] [.int y0] s (none, w) := by
  unfold fX4_passLayer_b22 at h
  refine R_istore [(6, .int y0), (0, .ref x0), (1, .int x1), (2, .int x2), (3, .int x3), (4, .int x4), (5, .int x5)] DX4_passLayer_22 (by decide) rfl ?_
  refine R_iload DX4_passLayer_24 3 rfl ?_
  by_cases c3 : x2 ≤ 0
  · replace h := if_t h c3
    refine R_if_le_t DX4_passLayer_25 c3 ?_
    refine R.sub (L' := [(0, .ref x0), (1, .int x1), (2, .int x2), (3, .int x3), (4, .int x4), (5, .int x5), (6, .int y0)]) [1, 2, 3, 4, 5, 6, 0] rfl ?_
    exact tX4_passLayer_b45 h
  · replace h := if_f h c3
    refine R_if_le_f DX4_passLayer_25 c3 ?_
    refine R_iload DX4_passLayer_28 4 rfl ?_
    refine R_aload DX4_passLayer_29 1 rfl ?_
    obtain ⟨v29, ev29, h⟩ := bind_some h
    refine R_gR DX4_passLayer_30 fl_RX4_120 ev29 ?_
    obtain ⟨v30, ev30, h⟩ := bind_some h
    refine R_gI DX4_passLayer_33 fl_RX4_159 ev30 ?_
    refine R_constI DX4_passLayer_36 ci_1 ?_
    refine R_isub DX4_passLayer_37 ?_
    by_cases c31 : (v30 - (iI 1)) ≤ x3
    · replace h := if_t h c31
      refine R_icmp_ge_t DX4_passLayer_38 c31 ?_
      refine R.sub (L' := [(0, .ref x0), (1, .int x1), (2, .int x2), (3, .int x3), (4, .int x4), (5, .int x5), (6, .int y0)]) [1, 2, 3, 4, 5, 6, 0] rfl ?_
      exact tX4_passLayer_b45 h
    · replace h := if_f h c31
      refine R_icmp_ge_f DX4_passLayer_38 c31 ?_
      refine R_constI DX4_passLayer_41 ci_1 ?_
      refine R_goto DX4_passLayer_42 ?_
      refine R.sub (L' := [(0, .ref x0), (1, .int x1), (2, .int x2), (3, .int x3), (4, .int x4), (5, .int x5), (6, .int y0)]) [1, 2, 3, 4, 5, 6, 0] rfl ?_
      exact tX4_passLayer_b46 h
set_option maxRecDepth 8000 in
theorem tX4_passLayer_b21 {G : Gm} {x0 : Nat} {x1 : Int32} {x2 : Int32} {x3 : Int32} {x4 : Int32} {x5 : Int32} {s : Hp} {w : Hp} (h : fX4_passLayer_b21 x0 x1 x2 x3 x4 x5 s = some w) : R G MX4_passLayer 21 [(0, .ref x0), (1, .int x1), (2, .int x2), (3, .int x3), (4, .int x4), (5, .int x5)] [] s (none, w) := by
  unfold fX4_passLayer_b21 at h
  refine R_constI DX4_passLayer_21 ci_0 ?_
  exact tX4_passLayer_b22 h
set_option maxRecDepth 8000 in
theorem kX4_passLayer {G : Gm} {x0 : Nat} {x1 : Int32} {x2 : Int32} {x3 : Int32} {x4 : Int32} {s : Hp} {w : Hp} (h : fX4_passLayer x0 x1 x2 x3 x4 s = some w) : (s.2.2 x0).1 = 4 ∧ Call G MX4_passLayer [.ref x0, .int x1, .int x2, .int x3, .int x4] s (none, w) := by
  unfold fX4_passLayer at h
  obtain ⟨_, e0, h⟩ := bind_some h
  refine ⟨ck_some e0, Call.of_R pnRX4 (Nat.le_of_ble_eq_true rfl) ?_⟩
  clear e0
  show R G MX4_passLayer 0 [(0, .ref x0), (1, .int x1), (2, .int x2), (3, .int x3), (4, .int x4)] [] s (none, w)
  refine R_aload DX4_passLayer_0 0 rfl ?_
  refine R_iload DX4_passLayer_1 1 rfl ?_
  refine R_iload DX4_passLayer_2 2 rfl ?_
  refine R_iload DX4_passLayer_3 3 rfl ?_
  obtain ⟨r1, er1, h⟩ := bind_some h
  refine R_cV1 [.int x1, .int x2, .int x3] DX4_passLayer_4 kzvX4_placeOf ml_RX4_72 ⟨Nat.le_of_ble_eq_true rfl, Nat.le_of_ble_eq_true rfl⟩ rfl (Nat.le_of_ble_eq_true rfl) (kX4_placeOf er1) ?_
  refine R_istore [(5, .int r1.1), (0, .ref x0), (1, .int x1), (2, .int x2), (3, .int x3), (4, .int x4)] DX4_passLayer_7 (by decide) rfl ?_
  refine R_iload DX4_passLayer_9 2 rfl ?_
  by_cases c2 : x1 ≤ 0
  · replace h := if_t h c2
    refine R_if_le_t DX4_passLayer_10 c2 ?_
    refine R.sub (L' := [(0, .ref x0), (1, .int x1), (2, .int x2), (3, .int x3), (4, .int x4), (5, .int r1.1)]) [1, 2, 3, 4, 5, 0] rfl ?_
    exact tX4_passLayer_b21 h
  · replace h := if_f h c2
    refine R_if_le_f DX4_passLayer_10 c2 ?_
    refine R_iload DX4_passLayer_13 4 rfl ?_
    by_cases c32 : x3 ≤ 0
    · replace h := if_t h c32
      refine R_if_le_t DX4_passLayer_14 c32 ?_
      refine R.sub (L' := [(0, .ref x0), (1, .int x1), (2, .int x2), (3, .int x3), (4, .int x4), (5, .int r1.1)]) [1, 2, 3, 4, 5, 0] rfl ?_
      exact tX4_passLayer_b21 h
    · replace h := if_f h c32
      refine R_if_le_f DX4_passLayer_14 c32 ?_
      refine R_constI DX4_passLayer_17 ci_1 ?_
      refine R_goto DX4_passLayer_18 ?_
      refine R.sub (L' := [(0, .ref x0), (1, .int x1), (2, .int x2), (3, .int x3), (4, .int x4), (5, .int r1.1)]) [1, 2, 3, 4, 5, 0] rfl ?_
      exact tX4_passLayer_b22 h
