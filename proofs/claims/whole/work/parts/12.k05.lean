set_option maxRecDepth 8000 in
theorem kX8_drift {G : Gm} {x0 : Nat} {x1 : Int32} {x2 : Int32} {x3 : Int32} {x4 : Int32} {x5 : Int32} {s : Hp} {w : Int32 × Hp} (h : fX8_drift x0 x1 x2 x3 x4 x5 s = some w) : (s.2.2 x0).1 = 8 ∧ Call G MX8_drift [.ref x0, .int x1, .int x2, .int x3, .int x4, .int x5] s (some (.int w.1), w.2) := by
  unfold fX8_drift at h
  obtain ⟨_, e0, h⟩ := bind_some h
  refine ⟨ck_some e0, Call.of_R pnRX8 (Nat.le_of_ble_eq_true rfl) ?_⟩
  clear e0
  show R G MX8_drift 0 [(0, .ref x0), (1, .int x1), (2, .int x2), (3, .int x3), (4, .int x4), (5, .int x5)] [] s (some (.int w.1), w.2)
  refine R_aload DX8_drift_0 0 rfl ?_
  refine R_iload DX8_drift_1 1 rfl ?_
  refine R_iload DX8_drift_2 2 rfl ?_
  refine R_iload DX8_drift_3 3 rfl ?_
  refine R_iload DX8_drift_4 4 rfl ?_
  refine R_iload DX8_drift_6 5 rfl ?_
  obtain ⟨r1, er1, h⟩ := bind_some h
  refine R_cV1 [.int x1, .int x2, .int x3, .int x4, .int x5] DX8_drift_8 kzvX8_hasDrift ml_RX8_287 ⟨Nat.le_of_ble_eq_true rfl, Nat.le_of_ble_eq_true rfl⟩ rfl (Nat.le_of_ble_eq_true rfl) (kX8_hasDrift er1) ?_
  by_cases c2 : r1.1 = 0
  · replace h := if_t h c2
    refine R_if_ne_f DX8_drift_11 c2 ?_
    refine R_constI DX8_drift_14 ci_m2 ?_
    cases h
    exact R_ireturn rfl DX8_drift_16
  · replace h := if_f h c2
    refine R_if_ne_t DX8_drift_11 c2 ?_
    refine R_aload DX8_drift_17 0 rfl ?_
    refine R_iload DX8_drift_18 1 rfl ?_
    refine R_iload DX8_drift_19 2 rfl ?_
    obtain ⟨r3, er3, h⟩ := bind_some h
    refine R_cS1 [.int x1, .int x2] DX8_drift_20 kzsX8_columnOf ml_RX8_181 ⟨Nat.le_of_ble_eq_true rfl, Nat.le_of_ble_eq_true rfl⟩ rfl (Nat.le_of_ble_eq_true rfl) (kX8_columnOf er3) ?_
    refine R_iload DX8_drift_23 3 rfl ?_
    refine R_iload DX8_drift_24 4 rfl ?_
    refine R_iload DX8_drift_26 5 rfl ?_
    obtain ⟨r4, er4, h⟩ := bind_some h
    refine R_cV1 [.int r3.1, .int x3, .int x4, .int x5] DX8_drift_28 kzvX8_drifted ml_RX8_291 ⟨Nat.le_of_ble_eq_true rfl, Nat.le_of_ble_eq_true rfl⟩ rfl (Nat.le_of_ble_eq_true rfl) (kX8_drifted er4) ?_
    obtain ⟨r5, er5, h⟩ := bind_some h
    refine R_cS1 [.int r4.1] DX8_drift_31 kzsX8_hundredfold ml_RX8_280 ⟨Nat.le_of_ble_eq_true rfl, Nat.le_of_ble_eq_true rfl⟩ rfl (Nat.le_of_ble_eq_true rfl) (kX8_hundredfold er5) ?_
    cases h
    exact R_ireturn rfl DX8_drift_34
set_option maxRecDepth 8000 in
theorem tX8_whence_l35 {G : Gm} {x0 : Nat} {x1 : Int32} {x2 : Int32} {x3 : Int32} {x4 : Int32} {x5 : Int32} {x6 : Int32} {o : Option Value × Hp} {a : Int32 × Hp} {w : (Int32 × Hp) ⊕ ((Hp) ⊕ (Int32 × Hp))} (h : fX8_whence_l35 x0 x1 x2 x3 x4 x5 x6 a = some w) (hc : ∀ (q7 : Int32) (qs : Hp), w = .inl (q7, qs) → R G MX8_whence 35 [(0, .ref x0), (1, .int x1), (2, .int x2), (3, .int x3), (4, .int x4), (5, .int x5), (6, .int x6), (7, .int q7)] [] qs o) (he0 : ∀ (qs : Hp), w = .inr (.inl qs) → R G MX8_whence 87 [(0, .ref x0), (1, .int x1), (2, .int x2), (3, .int x3), (4, .int x4), (5, .int x5), (6, .int x6)] [] qs o) (he1 : ∀ (q8 : Int32) (qs : Hp), w = .inr (.inr (q8, qs)) → R G MX8_whence 75 [(8, .int q8)] [] qs o) : R G MX8_whence 35 [(0, .ref x0), (1, .int x1), (2, .int x2), (3, .int x3), (4, .int x4), (5, .int x5), (6, .int x6), (7, .int a.1)] [] a.2 o := by
  unfold fX8_whence_l35 at h
  refine R_iload DX8_whence_35 7 rfl ?_
  refine R_aload DX8_whence_37 0 rfl ?_
  obtain ⟨v6, ev6, h⟩ := bind_some h
  refine R_gR DX8_whence_38 fl_RX8_47 ev6 ?_
  obtain ⟨v7, ev7, h⟩ := bind_some h
  refine R_gI DX8_whence_41 fl_RX8_298 ev7 ?_
  by_cases c8 : v7 ≤ a.1
  · replace h := if_t h c8
    refine R_icmp_ge_t DX8_whence_44 c8 ?_
    refine R.sub (L' := [(0, .ref x0), (1, .int x1), (2, .int x2), (3, .int x3), (4, .int x4), (5, .int x5), (6, .int x6)]) [0, 1, 2, 3, 4, 5, 6] rfl ?_
    cases h
    exact he0 _ rfl
  · replace h := if_f h c8
    refine R_icmp_ge_f DX8_whence_44 c8 ?_
    refine R_iload DX8_whence_47 6 rfl ?_
    refine R_iload DX8_whence_49 7 rfl ?_
    obtain ⟨r9, er9, h⟩ := bind_some h
    refine R_cS1 [.int x6, .int a.1] DX8_whence_51 kzsX8_columnOf ml_RX8_181 ⟨Nat.le_of_ble_eq_true rfl, Nat.le_of_ble_eq_true rfl⟩ rfl (Nat.le_of_ble_eq_true rfl) (kX8_columnOf er9) ?_
    refine R_istore [(8, .int r9.1), (0, .ref x0), (1, .int x1), (2, .int x2), (3, .int x3), (4, .int x4), (5, .int x5), (6, .int x6), (7, .int a.1)] DX8_whence_54 (by decide) rfl ?_
    refine R_aload DX8_whence_56 1 rfl ?_
    refine R_iload DX8_whence_57 0 rfl ?_
    refine R_iload DX8_whence_59 4 rfl ?_
    refine R_iload DX8_whence_60 5 rfl ?_
    refine R_iload DX8_whence_62 6 rfl ?_
    obtain ⟨r10, er10, h⟩ := bind_some h
    refine R_cV1 [.int r9.1, .int x3, .int x4, .int x5] DX8_whence_64 kzvX8_drifted ml_RX8_291 ⟨Nat.le_of_ble_eq_true rfl, Nat.le_of_ble_eq_true rfl⟩ rfl (Nat.le_of_ble_eq_true rfl) (kX8_drifted er10) ?_
    refine R_iload DX8_whence_67 2 rfl ?_
    refine R_iload DX8_whence_68 3 rfl ?_
    obtain ⟨r11, er11, h⟩ := bind_some h
    refine R_cS1 [.int x1, .int x2] DX8_whence_69 kzsX8_columnOf ml_RX8_181 ⟨Nat.le_of_ble_eq_true rfl, Nat.le_of_ble_eq_true rfl⟩ rfl (Nat.le_of_ble_eq_true rfl) (kX8_columnOf er11) ?_
    by_cases c12 : r10.1 = r11.1
    · replace h := if_t h c12
      refine R_icmp_ne_f DX8_whence_72 c12 ?_
      refine R.sub (L' := [(8, .int r9.1)]) [0] rfl ?_
      cases h
      exact he1 _ _ rfl
    · replace h := if_f h c12
      refine R_icmp_ne_t DX8_whence_72 c12 ?_
      refine R_iinc [(7, .int (a.1 + iI 1)), (8, .int r9.1), (0, .ref x0), (1, .int x1), (2, .int x2), (3, .int x3), (4, .int x4), (5, .int x5), (6, .int x6)] DX8_whence_81 8 rfl (v := a.1 + iI 1) (by rfl) (by decide) rfl ?_
      refine R_goto DX8_whence_84 ?_
      refine R.sub (L' := [(0, .ref x0), (1, .int x1), (2, .int x2), (3, .int x3), (4, .int x4), (5, .int x5), (6, .int x6), (7, .int (a.1 + iI 1))]) [2, 3, 4, 5, 6, 7, 8, 0] rfl ?_
      cases h
      exact hc _ _ rfl
set_option maxRecDepth 8000 in
theorem tX8_whence_l20 {G : Gm} {x0 : Nat} {x1 : Int32} {x2 : Int32} {x3 : Int32} {x4 : Int32} {x5 : Int32} {o : Option Value × Hp} {a : Int32 × Hp} {w : (Int32 × Hp) ⊕ ((Hp) ⊕ (Int32 × Hp))} (h : fX8_whence_l20 x0 x1 x2 x3 x4 x5 a = some w) (hc : ∀ (q6 : Int32) (qs : Hp), w = .inl (q6, qs) → R G MX8_whence 20 [(0, .ref x0), (1, .int x1), (2, .int x2), (3, .int x3), (4, .int x4), (5, .int x5), (6, .int q6)] [] qs o) (he0 : ∀ (qs : Hp), w = .inr (.inl qs) → R G MX8_whence 93 [] [] qs o) (he1 : ∀ (q8 : Int32) (qs : Hp), w = .inr (.inr (q8, qs)) → R G MX8_whence 75 [(8, .int q8)] [] qs o) : R G MX8_whence 20 [(0, .ref x0), (1, .int x1), (2, .int x2), (3, .int x3), (4, .int x4), (5, .int x5), (6, .int a.1)] [] a.2 o := by
  unfold fX8_whence_l20 at h
  refine R_iload DX8_whence_20 6 rfl ?_
  refine R_aload DX8_whence_22 0 rfl ?_
  obtain ⟨v3, ev3, h⟩ := bind_some h
  refine R_gR DX8_whence_23 fl_RX8_47 ev3 ?_
  obtain ⟨v4, ev4, h⟩ := bind_some h
  refine R_gI DX8_whence_26 fl_RX8_295 ev4 ?_
  by_cases c5 : v4 ≤ a.1
  · replace h := if_t h c5
    refine R_icmp_ge_t DX8_whence_29 c5 ?_
    refine R.sub (L' := []) [] rfl ?_
    cases h
    exact he0 _ rfl
  · replace h := if_f h c5
    refine R_icmp_ge_f DX8_whence_29 c5 ?_
    refine R_constI DX8_whence_32 ci_0 ?_
    refine R_istore [(7, .int (iI 0)), (0, .ref x0), (1, .int x1), (2, .int x2), (3, .int x3), (4, .int x4), (5, .int x5), (6, .int a.1)] DX8_whence_33 (by decide) rfl ?_
    refine R.sub (L' := [(0, .ref x0), (1, .int x1), (2, .int x2), (3, .int x3), (4, .int x4), (5, .int x5), (6, .int a.1), (7, .int (iI 0))]) [1, 2, 3, 4, 5, 6, 7, 0] rfl ?_
    obtain ⟨r13, hi, h⟩ := bind_some h
    have hE : (Sum.elim (fun u35 : Hp => R G MX8_whence 87 [(0, .ref x0), (1, .int x1), (2, .int x2), (3, .int x3), (4, .int x4), (5, .int x5), (6, .int a.1)] [] u35 o) (fun u35 : Int32 × Hp => R G MX8_whence 75 [(8, .int u35.1)] [] u35.2 o)) r13 → ∀ (q7 : Int32) (qs : Hp), iter (fX8_whence_l35 x0 x1 x2 x3 x4 x5 a.1) FU (q7, qs) = some r13 → R G MX8_whence 35 [(0, .ref x0), (1, .int x1), (2, .int x2), (3, .int x3), (4, .int x4), (5, .int x5), (6, .int a.1), (7, .int q7)] [] qs o := fun hX q7 qs hj => loop_R (fX8_whence_l35 x0 x1 x2 x3 x4 x5 a.1) (fun p35 : Int32 × Hp => R G MX8_whence 35 [(0, .ref x0), (1, .int x1), (2, .int x2), (3, .int x3), (4, .int x4), (5, .int x5), (6, .int a.1), (7, .int p35.1)] [] p35.2 o) (Sum.elim (fun u35 : Hp => R G MX8_whence 87 [(0, .ref x0), (1, .int x1), (2, .int x2), (3, .int x3), (4, .int x4), (5, .int x5), (6, .int a.1)] [] u35 o) (fun u35 : Int32 × Hp => R G MX8_whence 75 [(8, .int u35.1)] [] u35.2 o)) (fun a w hw hc he => tX8_whence_l35 hw (fun q7 qs e => hc (q7, qs) e) (fun qs e => he (.inl qs) e) (fun q8 qs e => he (.inr (q8, qs)) e)) FU (q7, qs) r13 hj hX
    refine hE ?_ _ _ hi
    clear hE hi
    rcases r13 with r13a | r13b
    · replace h := el_l h
      refine R_iinc [(6, .int (a.1 + iI 1)), (0, .ref x0), (1, .int x1), (2, .int x2), (3, .int x3), (4, .int x4), (5, .int x5)] DX8_whence_87 6 rfl (v := a.1 + iI 1) (by rfl) (by decide) rfl ?_
      refine R_goto DX8_whence_90 ?_
      refine R.sub (L' := [(0, .ref x0), (1, .int x1), (2, .int x2), (3, .int x3), (4, .int x4), (5, .int x5), (6, .int (a.1 + iI 1))]) [1, 2, 3, 4, 5, 6, 0] rfl ?_
      cases h
      exact hc _ _ rfl
    replace h := el_r h
    cases h
    exact he1 _ _ rfl
set_option maxRecDepth 8000 in
theorem kX8_whence {G : Gm} {x0 : Nat} {x1 : Int32} {x2 : Int32} {x3 : Int32} {x4 : Int32} {x5 : Int32} {s : Hp} {w : Int32 × Hp} (h : fX8_whence x0 x1 x2 x3 x4 x5 s = some w) : (s.2.2 x0).1 = 8 ∧ Call G MX8_whence [.ref x0, .int x1, .int x2, .int x3, .int x4, .int x5] s (some (.int w.1), w.2) := by
  unfold fX8_whence at h
  obtain ⟨_, e0, h⟩ := bind_some h
  refine ⟨ck_some e0, Call.of_R pnRX8 (Nat.le_of_ble_eq_true rfl) ?_⟩
  clear e0
  show R G MX8_whence 0 [(0, .ref x0), (1, .int x1), (2, .int x2), (3, .int x3), (4, .int x4), (5, .int x5)] [] s (some (.int w.1), w.2)
  refine R_aload DX8_whence_0 0 rfl ?_
  refine R_iload DX8_whence_1 1 rfl ?_
  refine R_iload DX8_whence_2 2 rfl ?_
  refine R_iload DX8_whence_3 3 rfl ?_
  refine R_iload DX8_whence_4 4 rfl ?_
  refine R_iload DX8_whence_6 5 rfl ?_
  obtain ⟨r1, er1, h⟩ := bind_some h
  refine R_cV1 [.int x1, .int x2, .int x3, .int x4, .int x5] DX8_whence_8 kzvX8_hasDrift ml_RX8_287 ⟨Nat.le_of_ble_eq_true rfl, Nat.le_of_ble_eq_true rfl⟩ rfl (Nat.le_of_ble_eq_true rfl) (kX8_hasDrift er1) ?_
  by_cases c2 : r1.1 = 0
  · replace h := if_t h c2
    refine R_if_ne_f DX8_whence_11 c2 ?_
    refine R_constI DX8_whence_14 ci_m2 ?_
    cases h
    exact R_ireturn rfl DX8_whence_16
  · replace h := if_f h c2
    refine R_if_ne_t DX8_whence_11 c2 ?_
    refine R_constI DX8_whence_17 ci_0 ?_
    refine R_istore [(6, .int (iI 0)), (0, .ref x0), (1, .int x1), (2, .int x2), (3, .int x3), (4, .int x4), (5, .int x5)] DX8_whence_18 (by decide) rfl ?_
    refine R.sub (L' := [(0, .ref x0), (1, .int x1), (2, .int x2), (3, .int x3), (4, .int x4), (5, .int x5), (6, .int (iI 0))]) [1, 2, 3, 4, 5, 6, 0] rfl ?_
    obtain ⟨r14, hi, h⟩ := bind_some h
    have hE : (Sum.elim (fun u20 : Hp => R G MX8_whence 93 [] [] u20 (some (.int w.1), w.2)) (fun u20 : Int32 × Hp => R G MX8_whence 75 [(8, .int u20.1)] [] u20.2 (some (.int w.1), w.2))) r14 → ∀ (q6 : Int32) (qs : Hp), iter (fX8_whence_l20 x0 x1 x2 x3 x4 x5) FU (q6, qs) = some r14 → R G MX8_whence 20 [(0, .ref x0), (1, .int x1), (2, .int x2), (3, .int x3), (4, .int x4), (5, .int x5), (6, .int q6)] [] qs (some (.int w.1), w.2) := fun hX q6 qs hj => loop_R (fX8_whence_l20 x0 x1 x2 x3 x4 x5) (fun p20 : Int32 × Hp => R G MX8_whence 20 [(0, .ref x0), (1, .int x1), (2, .int x2), (3, .int x3), (4, .int x4), (5, .int x5), (6, .int p20.1)] [] p20.2 (some (.int w.1), w.2)) (Sum.elim (fun u20 : Hp => R G MX8_whence 93 [] [] u20 (some (.int w.1), w.2)) (fun u20 : Int32 × Hp => R G MX8_whence 75 [(8, .int u20.1)] [] u20.2 (some (.int w.1), w.2))) (fun a w hw hc he => tX8_whence_l20 hw (fun q6 qs e => hc (q6, qs) e) (fun qs e => he (.inl qs) e) (fun q8 qs e => he (.inr (q8, qs)) e)) FU (q6, qs) r14 hj hX
    refine hE ?_ _ _ hi
    clear hE hi
    rcases r14 with r14a | r14b
    · replace h := el_l h
      refine R_constI DX8_whence_93 ci_m1 ?_
      cases h
      exact R_ireturn rfl DX8_whence_94
    replace h := el_r h
    refine R_iload DX8_whence_75 0 rfl ?_
    obtain ⟨r15, er15, h⟩ := bind_some h
    refine R_cS1 [.int r14b.1] DX8_whence_77 kzsX8_hundredfold ml_RX8_280 ⟨Nat.le_of_ble_eq_true rfl, Nat.le_of_ble_eq_true rfl⟩ rfl (Nat.le_of_ble_eq_true rfl) (kX8_hundredfold er15) ?_
    cases h
    exact R_ireturn rfl DX8_whence_80
set_option maxRecDepth 8000 in
theorem tX8_isSlot_b13 {G : Gm} {s : Hp} {w : Int32 × Hp} (h : fX8_isSlot_b13 s = some w) : R G MX8_isSlot 13 [] [] s (some (.int w.1), w.2) := by
  unfold fX8_isSlot_b13 at h
  refine R_constI DX8_isSlot_13 ci_0 ?_
  cases h
  exact R_zreturn rfl DX8_isSlot_14 (by decide)
set_option maxRecDepth 8000 in
theorem kX8_isSlot {G : Gm} {x0 : Int32} {s : Hp} {w : Int32 × Hp} (h : fX8_isSlot x0 s = some w) : Call G MX8_isSlot [.int x0] s (some (.int w.1), w.2) := by
  unfold fX8_isSlot at h
  refine Call.of_R pnRX8 (Nat.le_of_ble_eq_true rfl) ?_
  show R G MX8_isSlot 0 [(0, .int x0)] [] s (some (.int w.1), w.2)
  refine R_iload DX8_isSlot_0 0 rfl ?_
  by_cases c1 : x0 < 0
  · replace h := if_t h c1
    refine R_if_lt_t DX8_isSlot_1 c1 ?_
    refine R.sub (L' := []) [] rfl ?_
    exact tX8_isSlot_b13 h
  · replace h := if_f h c1
    refine R_if_lt_f DX8_isSlot_1 c1 ?_
    refine R_iload DX8_isSlot_4 0 rfl ?_
    refine R_constI DX8_isSlot_5 ci_4 ?_
    by_cases c2 : (iI 4) ≤ x0
    · replace h := if_t h c2
      refine R_icmp_ge_t DX8_isSlot_6 c2 ?_
      refine R.sub (L' := []) [] rfl ?_
      exact tX8_isSlot_b13 h
    · replace h := if_f h c2
      refine R_icmp_ge_f DX8_isSlot_6 c2 ?_
      refine R_constI DX8_isSlot_9 ci_1 ?_
      refine R_goto DX8_isSlot_10 ?_
      cases h
      exact R_zreturn rfl DX8_isSlot_14 (by decide)
set_option maxRecDepth 8000 in
theorem tX8_rowRefusal_b17 {G : Gm} {s : Hp} {w : Int32 × Hp} (h : fX8_rowRefusal_b17 s = some w) : R G MX8_rowRefusal 17 [] [] s (some (.int w.1), w.2) := by
  unfold fX8_rowRefusal_b17 at h
  refine R_constI DX8_rowRefusal_17 ci_m2 ?_
  cases h
  exact R_ireturn rfl DX8_rowRefusal_19
set_option maxRecDepth 8000 in
theorem kX8_rowRefusal {G : Gm} {x0 : Nat} {x1 : Int32} {x2 : Nat} {s : Hp} {w : Int32 × Hp} (h : fX8_rowRefusal x0 x1 x2 s = some w) : (s.2.2 x0).1 = 8 ∧ Call G MX8_rowRefusal [.ref x0, .int x1, .ref x2] s (some (.int w.1), w.2) := by
  unfold fX8_rowRefusal at h
  obtain ⟨_, e0, h⟩ := bind_some h
  refine ⟨ck_some e0, Call.of_R pnRX8 (Nat.le_of_ble_eq_true rfl) ?_⟩
  clear e0
  show R G MX8_rowRefusal 0 [(0, .ref x0), (1, .int x1), (2, .ref x2)] [] s (some (.int w.1), w.2)
  refine R_iload DX8_rowRefusal_0 1 rfl ?_
  obtain ⟨r1, er1, h⟩ := bind_some h
  refine R_cS1 [.int x1] DX8_rowRefusal_1 kzsX8_isSlot ml_RX8_376 ⟨Nat.le_of_ble_eq_true rfl, Nat.le_of_ble_eq_true rfl⟩ rfl (Nat.le_of_ble_eq_true rfl) (kX8_isSlot er1) ?_
  by_cases c2 : r1.1 = 0
  · replace h := if_t h c2
    refine R_if_eq_t DX8_rowRefusal_4 c2 ?_
    refine R.sub (L' := []) [] rfl ?_
    exact tX8_rowRefusal_b17 h
  · replace h := if_f h c2
    refine R_if_eq_f DX8_rowRefusal_4 c2 ?_
    refine R_aload DX8_rowRefusal_7 0 rfl ?_
    obtain ⟨v3, ev3, h⟩ := bind_some h
    refine R_gR DX8_rowRefusal_8 fl_RX8_47 ev3 ?_
    obtain ⟨r4, er4, h⟩ := bind_some h
    refine R_cV1 [] DX8_rowRefusal_11 kzvX6_stands ml_RX8_140 ⟨Nat.le_of_ble_eq_true rfl, Nat.le_of_ble_eq_true rfl⟩ rfl (Nat.le_of_ble_eq_true rfl) (kX6_stands er4) ?_
    by_cases c5 : r4.1 = 0
    · replace h := if_t h c5
      refine R_if_ne_f DX8_rowRefusal_14 c5 ?_
      refine R.sub (L' := []) [] rfl ?_
      exact tX8_rowRefusal_b17 h
    · replace h := if_f h c5
      refine R_if_ne_t DX8_rowRefusal_14 c5 ?_
      refine R_aload DX8_rowRefusal_20 0 rfl ?_
      obtain ⟨v6, ev6, h⟩ := bind_some h
      refine R_gR DX8_rowRefusal_21 fl_RX8_42 ev6 ?_
      refine R_iload DX8_rowRefusal_24 1 rfl ?_
      obtain ⟨v7, ev7, h⟩ := bind_some h
      refine R_aR rt25 DX8_rowRefusal_25 ev7 ?_
      obtain ⟨r8, er8, h⟩ := bind_some h
      refine R_cV1 [] DX8_rowRefusal_26 kzvX5_isThere ml_RX8_383 ⟨Nat.le_of_ble_eq_true rfl, Nat.le_of_ble_eq_true rfl⟩ rfl (Nat.le_of_ble_eq_true rfl) (kX5_isThere er8) ?_
      by_cases c9 : r8.1 = 0
      · replace h := if_t h c9
        refine R_if_ne_f DX8_rowRefusal_29 c9 ?_
        refine R_constI DX8_rowRefusal_32 ci_m6 ?_
        cases h
        exact R_ireturn rfl DX8_rowRefusal_34
      · replace h := if_f h c9
        refine R_if_ne_t DX8_rowRefusal_29 c9 ?_
        refine R_aload DX8_rowRefusal_35 0 rfl ?_
        obtain ⟨v10, ev10, h⟩ := bind_some h
        refine R_gR DX8_rowRefusal_36 fl_RX8_42 ev10 ?_
        refine R_iload DX8_rowRefusal_39 1 rfl ?_
        obtain ⟨v11, ev11, h⟩ := bind_some h
        refine R_aR rt25 DX8_rowRefusal_40 ev11 ?_
        refine R_aload DX8_rowRefusal_41 2 rfl ?_
        obtain ⟨r12, er12, h⟩ := bind_some h
        refine R_cV1 [.ref x2] DX8_rowRefusal_42 kzvX5_keepsWithin ml_RX8_424 ⟨Nat.le_of_ble_eq_true rfl, Nat.le_of_ble_eq_true rfl⟩ rfl (Nat.le_of_ble_eq_true rfl) (kX5_keepsWithin er12) ?_
        by_cases c13 : r12.1 = 0
        · replace h := if_t h c13
          refine R_if_eq_t DX8_rowRefusal_45 c13 ?_
          refine R_constI DX8_rowRefusal_52 ci_m2 ?_
          cases h
          exact R_ireturn rfl DX8_rowRefusal_54
        · replace h := if_f h c13
          refine R_if_eq_f DX8_rowRefusal_45 c13 ?_
          refine R_constI DX8_rowRefusal_48 ci_0 ?_
          refine R_goto DX8_rowRefusal_49 ?_
          cases h
          exact R_ireturn rfl DX8_rowRefusal_54
set_option maxRecDepth 8000 in
theorem tX8_smoke_b205 {G : Gm} {x0 : Nat} {x4 : Nat} {x5 : Int32} {x6 : Int32} {x7 : Int32} {x8 : Int32} {x9 : Int32} {s : Hp} {o : Option Value × Hp} {w : (Int32 × Int32 × Hp) ⊕ ((Int32 × Hp))} (h : fX8_smoke_b205 x0 x4 x5 x6 x7 x8 x9 s = some w) (hc : ∀ (q5 : Int32) (q9 : Int32) (qs : Hp), w = .inl (q5, q9, qs) → R G MX8_smoke 152 [(0, .ref x0), (4, .ref x4), (5, .int q5), (6, .int x6), (7, .int x7), (8, .int x8), (9, .int q9)] [] qs o) (he0 : ∀ (q5 : Int32) (qs : Hp), w = .inr (q5, qs) → R G MX8_smoke 211 [(0, .ref x0), (4, .ref x4), (5, .int q5), (6, .int x6)] [] qs o) : R G MX8_smoke 205 [(0, .ref x0), (4, .ref x4), (5, .int x5), (6, .int x6), (7, .int x7), (8, .int x8), (9, .int x9)] [] s o := by
  unfold fX8_smoke_b205 at h
  refine R_iinc [(9, .int (x9 + iI 1)), (0, .ref x0), (4, .ref x4), (5, .int x5), (6, .int x6), (7, .int x7), (8, .int x8)] DX8_smoke_205 6 rfl (v := x9 + iI 1) (by rfl) (by decide) rfl ?_
  refine R_goto DX8_smoke_208 ?_
  refine R.sub (L' := [(0, .ref x0), (4, .ref x4), (5, .int x5), (6, .int x6), (7, .int x7), (8, .int x8), (9, .int (x9 + iI 1))]) [1, 2, 3, 4, 5, 6, 0] rfl ?_
  cases h
  exact hc _ _ _ rfl
set_option maxRecDepth 8000 in
theorem tX8_smoke_l152 {G : Gm} {x0 : Nat} {x4 : Nat} {x6 : Int32} {x7 : Int32} {x8 : Int32} {o : Option Value × Hp} {a : Int32 × Int32 × Hp} {w : (Int32 × Int32 × Hp) ⊕ ((Int32 × Hp))} (h : fX8_smoke_l152 x0 x4 x6 x7 x8 a = some w) (hc : ∀ (q5 : Int32) (q9 : Int32) (qs : Hp), w = .inl (q5, q9, qs) → R G MX8_smoke 152 [(0, .ref x0), (4, .ref x4), (5, .int q5), (6, .int x6), (7, .int x7), (8, .int x8), (9, .int q9)] [] qs o) (he0 : ∀ (q5 : Int32) (qs : Hp), w = .inr (q5, qs) → R G MX8_smoke 211 [(0, .ref x0), (4, .ref x4), (5, .int q5), (6, .int x6)] [] qs o) : R G MX8_smoke 152 [(0, .ref x0), (4, .ref x4), (5, .int a.1), (6, .int x6), (7, .int x7), (8, .int x8), (9, .int a.2.1)] [] a.2.2 o := by
  unfold fX8_smoke_l152 at h
  refine R_iload DX8_smoke_152 6 rfl ?_
  refine R_aload DX8_smoke_154 0 rfl ?_
  obtain ⟨v32, ev32, h⟩ := bind_some h
  refine R_gR DX8_smoke_155 fl_RX8_47 ev32 ?_
  obtain ⟨v33, ev33, h⟩ := bind_some h
  refine R_gI DX8_smoke_158 fl_RX8_218 ev33 ?_
  by_cases c34 : v33 ≤ a.2.1
  · replace h := if_t h c34
    refine R_icmp_ge_t DX8_smoke_161 c34 ?_
    refine R.sub (L' := [(0, .ref x0), (4, .ref x4), (5, .int a.1), (6, .int x6)]) [0, 1, 2, 3] rfl ?_
    cases h
    exact he0 _ _ rfl
  · replace h := if_f h c34
    refine R_icmp_ge_f DX8_smoke_161 c34 ?_
    refine R_aload DX8_smoke_164 0 rfl ?_
    obtain ⟨v35, ev35, h⟩ := bind_some h
    refine R_gR DX8_smoke_165 fl_RX8_47 ev35 ?_
    refine R_iload DX8_smoke_168 4 rfl ?_
    refine R_aload DX8_smoke_170 0 rfl ?_
    obtain ⟨v36, ev36, h⟩ := bind_some h
    refine R_gR DX8_smoke_171 fl_RX8_47 ev36 ?_
    refine R_iload DX8_smoke_174 6 rfl ?_
    refine R_aload DX8_smoke_176 1 rfl ?_
    refine R_iload DX8_smoke_178 3 rfl ?_
    obtain ⟨r37, er37, h⟩ := bind_some h
    refine R_cV1 [.int x6] DX8_smoke_180 kzvX5_at ml_RX8_308 ⟨Nat.le_of_ble_eq_true rfl, Nat.le_of_ble_eq_true rfl⟩ rfl (Nat.le_of_ble_eq_true rfl) (kX5_at er37) ?_
    obtain ⟨r38, er38, h⟩ := bind_some h
    refine R_cV1 [.int a.2.1, .int r37.1] DX8_smoke_183 kzvX6_windAt ml_RX8_89 ⟨Nat.le_of_ble_eq_true rfl, Nat.le_of_ble_eq_true rfl⟩ rfl (Nat.le_of_ble_eq_true rfl) (kX6_windAt er38) ?_
    obtain ⟨r39, er39, h⟩ := bind_some h
    refine R_cV1 [.int x7, .int r38.1] DX8_smoke_186 kzvX6_carried ml_RX8_311 ⟨Nat.le_of_ble_eq_true rfl, Nat.le_of_ble_eq_true rfl⟩ rfl (Nat.le_of_ble_eq_true rfl) (kX6_carried er39) ?_
    refine R_iload DX8_smoke_189 5 rfl ?_
    by_cases c40 : r39.1 = x8
    · replace h := if_t h c40
      refine R_icmp_eq_t DX8_smoke_191 c40 ?_
      exact tX8_smoke_b205 h hc he0
    · replace h := if_f h c40
      refine R_icmp_eq_f DX8_smoke_191 c40 ?_
      refine R_iload DX8_smoke_194 2 rfl ?_
      refine R_constI DX8_smoke_196 ci_1 ?_
      refine R_iload DX8_smoke_197 6 rfl ?_
      refine R_ishl DX8_smoke_199 ?_
      refine R_constI DX8_smoke_200 ci_m1 ?_
      refine R_ixor DX8_smoke_201 ?_
      refine R_iand DX8_smoke_202 ?_
      obtain ⟨z41, ez41, h⟩ := lt_some h
      refine R_istoreE ez41 [(5, .int z41), (0, .ref x0), (4, .ref x4), (6, .int x6), (7, .int x7), (8, .int x8), (9, .int a.2.1)] DX8_smoke_203 (by decide) rfl ?_
      refine R.sub (L' := [(0, .ref x0), (4, .ref x4), (5, .int z41), (6, .int x6), (7, .int x7), (8, .int x8), (9, .int a.2.1)]) [1, 2, 0, 3, 4, 5, 6] rfl ?_
      exact tX8_smoke_b205 h hc he0
set_option maxRecDepth 8000 in
theorem tX8_smoke_l91 {G : Gm} {x0 : Nat} {x4 : Nat} {o : Option Value × Hp} {a : Int32 × Int32 × Hp} {w : (Int32 × Int32 × Hp) ⊕ ((Int32 × Hp))} (h : fX8_smoke_l91 x0 x4 a = some w) (hc : ∀ (q5 : Int32) (q6 : Int32) (qs : Hp), w = .inl (q5, q6, qs) → R G MX8_smoke 91 [(0, .ref x0), (4, .ref x4), (5, .int q5), (6, .int q6)] [] qs o) (he0 : ∀ (q5 : Int32) (qs : Hp), w = .inr (q5, qs) → R G MX8_smoke 217 [(5, .int q5)] [] qs o) : R G MX8_smoke 91 [(0, .ref x0), (4, .ref x4), (5, .int a.1), (6, .int a.2.1)] [] a.2.2 o := by
  unfold fX8_smoke_l91 at h
  refine R_iload DX8_smoke_91 3 rfl ?_
  refine R_constI DX8_smoke_93 ci_5 ?_
  refine R_iadd DX8_smoke_94 ?_
  refine R_aload DX8_smoke_95 1 rfl ?_
  obtain ⟨v24, ev24, h⟩ := bind_some h
  refine R_gIN DX8_smoke_97 fl_RX8_305 ev24 ?_
  by_cases c25 : v24 < (a.2.1 + (iI 5))
  · replace h := if_t h c25
    refine R_icmp_gt_t DX8_smoke_100 c25 ?_
    refine R.sub (L' := [(5, .int a.1)]) [2] rfl ?_
    cases h
    exact he0 _ _ rfl
  · replace h := if_f h c25
    refine R_icmp_gt_f DX8_smoke_100 c25 ?_
    refine R_aload DX8_smoke_103 1 rfl ?_
    refine R_iload DX8_smoke_105 3 rfl ?_
    refine R_constI DX8_smoke_107 ci_1 ?_
    refine R_iadd DX8_smoke_108 ?_
    obtain ⟨r26, er26, h⟩ := bind_some h
    refine R_cV1 [.int (a.2.1 + (iI 1))] DX8_smoke_109 kzvX5_at ml_RX8_308 ⟨Nat.le_of_ble_eq_true rfl, Nat.le_of_ble_eq_true rfl⟩ rfl (Nat.le_of_ble_eq_true rfl) (kX5_at er26) ?_
    refine R_aload DX8_smoke_112 1 rfl ?_
    refine R_iload DX8_smoke_114 3 rfl ?_
    refine R_constI DX8_smoke_116 ci_2 ?_
    refine R_iadd DX8_smoke_117 ?_
    obtain ⟨r27, er27, h⟩ := bind_some h
    refine R_cV1 [.int (a.2.1 + (iI 2))] DX8_smoke_118 kzvX5_at ml_RX8_308 ⟨Nat.le_of_ble_eq_true rfl, Nat.le_of_ble_eq_true rfl⟩ rfl (Nat.le_of_ble_eq_true rfl) (kX5_at er27) ?_
    obtain ⟨r28, er28, h⟩ := bind_some h
    refine R_cS1 [.int r26.1, .int r27.1] DX8_smoke_121 kzsX8_columnOf ml_RX8_181 ⟨Nat.le_of_ble_eq_true rfl, Nat.le_of_ble_eq_true rfl⟩ rfl (Nat.le_of_ble_eq_true rfl) (kX8_columnOf er28) ?_
    refine R_istore [(7, .int r28.1), (0, .ref x0), (4, .ref x4), (5, .int a.1), (6, .int a.2.1)] DX8_smoke_124 (by decide) rfl ?_
    refine R_aload DX8_smoke_126 2 rfl ?_
    refine R_iload DX8_smoke_128 4 rfl ?_
    refine R_constI DX8_smoke_130 ci_3 ?_
    refine R_iadd DX8_smoke_131 ?_
    obtain ⟨r29, er29, h⟩ := bind_some h
    refine R_cV1 [.int (a.2.1 + (iI 3))] DX8_smoke_132 kzvX5_at ml_RX8_308 ⟨Nat.le_of_ble_eq_true rfl, Nat.le_of_ble_eq_true rfl⟩ rfl (Nat.le_of_ble_eq_true rfl) (kX5_at er29) ?_
    refine R_aload DX8_smoke_135 2 rfl ?_
    refine R_iload DX8_smoke_137 4 rfl ?_
    refine R_constI DX8_smoke_139 ci_4 ?_
    refine R_iadd DX8_smoke_140 ?_
    obtain ⟨r30, er30, h⟩ := bind_some h
    refine R_cV1 [.int (a.2.1 + (iI 4))] DX8_smoke_141 kzvX5_at ml_RX8_308 ⟨Nat.le_of_ble_eq_true rfl, Nat.le_of_ble_eq_true rfl⟩ rfl (Nat.le_of_ble_eq_true rfl) (kX5_at er30) ?_
    obtain ⟨r31, er31, h⟩ := bind_some h
    refine R_cS1 [.int r29.1, .int r30.1] DX8_smoke_144 kzsX8_columnOf ml_RX8_181 ⟨Nat.le_of_ble_eq_true rfl, Nat.le_of_ble_eq_true rfl⟩ rfl (Nat.le_of_ble_eq_true rfl) (kX8_columnOf er31) ?_
    refine R_istore [(8, .int r31.1), (7, .int r28.1), (0, .ref x0), (4, .ref x4), (5, .int a.1), (6, .int a.2.1)] DX8_smoke_147 (by decide) rfl ?_
    refine R_constI DX8_smoke_149 ci_0 ?_
    refine R_istore [(9, .int (iI 0)), (8, .int r31.1), (7, .int r28.1), (0, .ref x0), (4, .ref x4), (5, .int a.1), (6, .int a.2.1)] DX8_smoke_150 (by decide) rfl ?_
    refine R.sub (L' := [(0, .ref x0), (4, .ref x4), (5, .int a.1), (6, .int a.2.1), (7, .int r28.1), (8, .int r31.1), (9, .int (iI 0))]) [3, 4, 5, 6, 2, 1, 0] rfl ?_
    obtain ⟨r42, hi, h⟩ := bind_some h
    have hE : (fun u152 : Int32 × Hp => R G MX8_smoke 211 [(0, .ref x0), (4, .ref x4), (5, .int u152.1), (6, .int a.2.1)] [] u152.2 o) r42 → ∀ (q5 : Int32) (q9 : Int32) (qs : Hp), iter (fX8_smoke_l152 x0 x4 a.2.1 r28.1 r31.1) FU (q5, q9, qs) = some r42 → R G MX8_smoke 152 [(0, .ref x0), (4, .ref x4), (5, .int q5), (6, .int a.2.1), (7, .int r28.1), (8, .int r31.1), (9, .int q9)] [] qs o := fun hX q5 q9 qs hj => loop_R (fX8_smoke_l152 x0 x4 a.2.1 r28.1 r31.1) (fun p152 : Int32 × Int32 × Hp => R G MX8_smoke 152 [(0, .ref x0), (4, .ref x4), (5, .int p152.1), (6, .int a.2.1), (7, .int r28.1), (8, .int r31.1), (9, .int p152.2.1)] [] p152.2.2 o) (fun u152 : Int32 × Hp => R G MX8_smoke 211 [(0, .ref x0), (4, .ref x4), (5, .int u152.1), (6, .int a.2.1)] [] u152.2 o) (fun a w hw hc he => tX8_smoke_l152 hw (fun q5 q9 qs e => hc (q5, q9, qs) e) (fun q5 qs e => he (q5, qs) e)) FU (q5, q9, qs) r42 hj hX
    refine hE ?_ _ _ _ hi
    clear hE hi
    refine R_iinc [(6, .int (a.2.1 + iI 5)), (0, .ref x0), (4, .ref x4), (5, .int r42.1)] DX8_smoke_211 3 rfl (v := a.2.1 + iI 5) (by rfl) (by decide) rfl ?_
    refine R_goto DX8_smoke_214 ?_
    refine R.sub (L' := [(0, .ref x0), (4, .ref x4), (5, .int r42.1), (6, .int (a.2.1 + iI 5))]) [1, 2, 3, 0] rfl ?_
    cases h
    exact hc _ _ _ rfl
set_option maxRecDepth 8000 in
theorem kX8_smoke {G : Gm} {x0 : Nat} {x1 : Int32} {s : Hp} {w : Int32 × Hp} (h : fX8_smoke x0 x1 s = some w) : (s.2.2 x0).1 = 8 ∧ Call G MX8_smoke [.ref x0, .int x1] s (some (.int w.1), w.2) := by
  unfold fX8_smoke at h
  obtain ⟨_, e0, h⟩ := bind_some h
  refine ⟨ck_some e0, Call.of_R pnRX8 (Nat.le_of_ble_eq_true rfl) ?_⟩
  clear e0
  show R G MX8_smoke 0 [(0, .ref x0), (1, .int x1)] [] s (some (.int w.1), w.2)
  refine R_constI DX8_smoke_0 ci_5 ?_
  obtain ⟨s1, es1, h⟩ := bind_some h
  refine R_newa at20 aw20 DX8_smoke_1 es1 ?_
  refine R_dup DX8_smoke_3 rfl ?_
  refine R_constI DX8_smoke_4 ci_0 ?_
  refine R_aload DX8_smoke_5 0 rfl ?_
  obtain ⟨v2, ev2, h⟩ := bind_some h
  refine R_gR DX8_smoke_6 fl_RX8_47 ev2 ?_
  obtain ⟨v3, ev3, h⟩ := bind_some h
  refine R_gI DX8_smoke_9 fl_RX8_96 ev3 ?_
  obtain ⟨s4, es4, h⟩ := bind_some h
  refine R_sI DX8_smoke_12 es4 ?_
  refine R_dup DX8_smoke_13 rfl ?_
  refine R_constI DX8_smoke_14 ci_1 ?_
  refine R_aload DX8_smoke_15 0 rfl ?_
  obtain ⟨v5, ev5, h⟩ := bind_some h
  refine R_gR DX8_smoke_16 fl_RX8_47 ev5 ?_
  obtain ⟨v6, ev6, h⟩ := bind_some h
  refine R_gI DX8_smoke_19 fl_RX8_295 ev6 ?_
  obtain ⟨s7, es7, h⟩ := bind_some h
  refine R_sI DX8_smoke_22 es7 ?_
  refine R_dup DX8_smoke_23 rfl ?_
  refine R_constI DX8_smoke_24 ci_2 ?_
  refine R_aload DX8_smoke_25 0 rfl ?_
  obtain ⟨v8, ev8, h⟩ := bind_some h
  refine R_gR DX8_smoke_26 fl_RX8_47 ev8 ?_
  obtain ⟨v9, ev9, h⟩ := bind_some h
  refine R_gI DX8_smoke_29 fl_RX8_298 ev9 ?_
  obtain ⟨s10, es10, h⟩ := bind_some h
  refine R_sI DX8_smoke_32 es10 ?_
  refine R_dup DX8_smoke_33 rfl ?_
  refine R_constI DX8_smoke_34 ci_3 ?_
  refine R_aload DX8_smoke_35 0 rfl ?_
  obtain ⟨v11, ev11, h⟩ := bind_some h
  refine R_gR DX8_smoke_36 fl_RX8_47 ev11 ?_
  obtain ⟨v12, ev12, h⟩ := bind_some h
  refine R_gI DX8_smoke_39 fl_RX8_295 ev12 ?_
  obtain ⟨s13, es13, h⟩ := bind_some h
  refine R_sI DX8_smoke_42 es13 ?_
  refine R_dup DX8_smoke_43 rfl ?_
  refine R_constI DX8_smoke_44 ci_4 ?_
  refine R_aload DX8_smoke_45 0 rfl ?_
  obtain ⟨v14, ev14, h⟩ := bind_some h
  refine R_gR DX8_smoke_46 fl_RX8_47 ev14 ?_
  obtain ⟨v15, ev15, h⟩ := bind_some h
  refine R_gI DX8_smoke_49 fl_RX8_298 ev15 ?_
  obtain ⟨s16, es16, h⟩ := bind_some h
  refine R_sI DX8_smoke_52 es16 ?_
  refine R_astore [(2, .ref s.1), (0, .ref x0), (1, .int x1)] DX8_smoke_53 (by decide) rfl ?_
  refine R_aload DX8_smoke_54 1 rfl ?_
  refine R_iload DX8_smoke_55 2 rfl ?_
  refine R_aload DX8_smoke_56 0 rfl ?_
  obtain ⟨r17, er17, h⟩ := bind_some h
  refine R_cV1 [.int x1, .ref s.1] DX8_smoke_57 kzvX8_rowRefusal ml_RX8_301 ⟨Nat.le_of_ble_eq_true rfl, Nat.le_of_ble_eq_true rfl⟩ rfl (Nat.le_of_ble_eq_true rfl) (kX8_rowRefusal er17) ?_
  refine R_istore [(3, .int r17.1), (2, .ref s.1), (0, .ref x0), (1, .int x1)] DX8_smoke_60 (by decide) rfl ?_
  refine R_iload DX8_smoke_61 0 rfl ?_
  by_cases c18 : r17.1 = 0
  · replace h := if_t h c18
    refine R_if_eq_t DX8_smoke_62 c18 ?_
    refine R_aload DX8_smoke_67 2 rfl ?_
    obtain ⟨v19, ev19, h⟩ := bind_some h
    refine R_gR DX8_smoke_68 fl_RX8_42 ev19 ?_
    refine R_iload DX8_smoke_71 3 rfl ?_
    obtain ⟨v20, ev20, h⟩ := bind_some h
    refine R_aR rt25 DX8_smoke_72 ev20 ?_
    refine R_astore [(4, .ref v20), (3, .int r17.1), (2, .ref s.1), (0, .ref x0), (1, .int x1)] DX8_smoke_73 (by decide) rfl ?_
    refine R_constI DX8_smoke_75 ci_1 ?_
    refine R_aload DX8_smoke_76 3 rfl ?_
    obtain ⟨v21, ev21, h⟩ := bind_some h
    refine R_gR DX8_smoke_77 fl_RX8_47 ev21 ?_
    obtain ⟨v22, ev22, h⟩ := bind_some h
    refine R_gI DX8_smoke_80 fl_RX8_218 ev22 ?_
    refine R_ishl DX8_smoke_83 ?_
    refine R_constI DX8_smoke_84 ci_1 ?_
    refine R_isub DX8_smoke_85 ?_
    obtain ⟨z23, ez23, h⟩ := lt_some h
    refine R_istoreE ez23 [(5, .int z23), (4, .ref v20), (3, .int r17.1), (2, .ref s.1), (0, .ref x0), (1, .int x1)] DX8_smoke_86 (by decide) rfl ?_
    refine R_constI DX8_smoke_88 ci_0 ?_
    refine R_istore [(6, .int (iI 0)), (5, .int z23), (4, .ref v20), (3, .int r17.1), (2, .ref s.1), (0, .ref x0), (1, .int x1)] DX8_smoke_89 (by decide) rfl ?_
    refine R.sub (L' := [(0, .ref x0), (4, .ref v20), (5, .int z23), (6, .int (iI 0))]) [5, 2, 1, 0] rfl ?_
    obtain ⟨r43, hi, h⟩ := bind_some h
    have hE : (fun u91 : Int32 × Hp => R G MX8_smoke 217 [(5, .int u91.1)] [] u91.2 (some (.int w.1), w.2)) r43 → ∀ (q5 : Int32) (q6 : Int32) (qs : Hp), iter (fX8_smoke_l91 x0 v20) FU (q5, q6, qs) = some r43 → R G MX8_smoke 91 [(0, .ref x0), (4, .ref v20), (5, .int q5), (6, .int q6)] [] qs (some (.int w.1), w.2) := fun hX q5 q6 qs hj => loop_R (fX8_smoke_l91 x0 v20) (fun p91 : Int32 × Int32 × Hp => R G MX8_smoke 91 [(0, .ref x0), (4, .ref v20), (5, .int p91.1), (6, .int p91.2.1)] [] p91.2.2 (some (.int w.1), w.2)) (fun u91 : Int32 × Hp => R G MX8_smoke 217 [(5, .int u91.1)] [] u91.2 (some (.int w.1), w.2)) (fun a w hw hc he => tX8_smoke_l91 hw (fun q5 q6 qs e => hc (q5, q6, qs) e) (fun q5 qs e => he (q5, qs) e)) FU (q5, q6, qs) r43 hj hX
    refine hE ?_ _ _ _ hi
    clear hE hi
    refine R_iload DX8_smoke_217 0 rfl ?_
    cases h
    exact R_ireturn rfl DX8_smoke_219
  · replace h := if_f h c18
    refine R_if_eq_f DX8_smoke_62 c18 ?_
    refine R_iload DX8_smoke_65 0 rfl ?_
    cases h
    exact R_ireturn rfl DX8_smoke_66
set_option maxRecDepth 8000 in
theorem tX8_kites_b121 {G : Gm} {x0 : Nat} {x4 : Nat} {x5 : Int32} {x6 : Int32} {x7 : Int32} {s : Hp} {o : Option Value × Hp} {w : (Int32 × Int32 × Hp) ⊕ ((Int32 × Hp))} (h : fX8_kites_b121 x0 x4 x5 x6 x7 s = some w) (hc : ∀ (q5 : Int32) (q7 : Int32) (qs : Hp), w = .inl (q5, q7, qs) → R G MX8_kites 70 [(0, .ref x0), (4, .ref x4), (5, .int q5), (6, .int x6), (7, .int q7)] [] qs o) (he0 : ∀ (q5 : Int32) (qs : Hp), w = .inr (q5, qs) → R G MX8_kites 127 [(0, .ref x0), (4, .ref x4), (5, .int q5), (6, .int x6)] [] qs o) : R G MX8_kites 121 [(0, .ref x0), (4, .ref x4), (5, .int x5), (6, .int x6), (7, .int x7)] [] s o := by
  unfold fX8_kites_b121 at h
  refine R_iinc [(7, .int (x7 + iI 1)), (0, .ref x0), (4, .ref x4), (5, .int x5), (6, .int x6)] DX8_kites_121 4 rfl (v := x7 + iI 1) (by rfl) (by decide) rfl ?_
  refine R_goto DX8_kites_124 ?_
  refine R.sub (L' := [(0, .ref x0), (4, .ref x4), (5, .int x5), (6, .int x6), (7, .int (x7 + iI 1))]) [1, 2, 3, 4, 0] rfl ?_
  cases h
  exact hc _ _ _ rfl
set_option maxRecDepth 8000 in
theorem tX8_kites_l70 {G : Gm} {x0 : Nat} {x4 : Nat} {x6 : Int32} {o : Option Value × Hp} {a : Int32 × Int32 × Hp} {w : (Int32 × Int32 × Hp) ⊕ ((Int32 × Hp))} (h : fX8_kites_l70 x0 x4 x6 a = some w) (hc : ∀ (q5 : Int32) (q7 : Int32) (qs : Hp), w = .inl (q5, q7, qs) → R G MX8_kites 70 [(0, .ref x0), (4, .ref x4), (5, .int q5), (6, .int x6), (7, .int q7)] [] qs o) (he0 : ∀ (q5 : Int32) (qs : Hp), w = .inr (q5, qs) → R G MX8_kites 127 [(0, .ref x0), (4, .ref x4), (5, .int q5), (6, .int x6)] [] qs o) : R G MX8_kites 70 [(0, .ref x0), (4, .ref x4), (5, .int a.1), (6, .int x6), (7, .int a.2.1)] [] a.2.2 o := by
  unfold fX8_kites_l70 at h
  refine R_iload DX8_kites_70 4 rfl ?_
  refine R_aload DX8_kites_72 0 rfl ?_
  obtain ⟨v15, ev15, h⟩ := bind_some h
  refine R_gR DX8_kites_73 fl_RX8_47 ev15 ?_
  obtain ⟨v16, ev16, h⟩ := bind_some h
  refine R_gI DX8_kites_76 fl_RX8_218 ev16 ?_
  by_cases c17 : v16 ≤ a.2.1
  · replace h := if_t h c17
    refine R_icmp_ge_t DX8_kites_79 c17 ?_
    refine R.sub (L' := [(0, .ref x0), (4, .ref x4), (5, .int a.1), (6, .int x6)]) [0, 1, 2, 3] rfl ?_
    cases h
    exact he0 _ _ rfl
  · replace h := if_f h c17
    refine R_icmp_ge_f DX8_kites_79 c17 ?_
    refine R_aload DX8_kites_82 0 rfl ?_
    obtain ⟨v18, ev18, h⟩ := bind_some h
    refine R_gR DX8_kites_83 fl_RX8_47 ev18 ?_
    refine R_iload DX8_kites_86 4 rfl ?_
    refine R_aload DX8_kites_88 1 rfl ?_
    refine R_iload DX8_kites_90 3 rfl ?_
    obtain ⟨r19, er19, h⟩ := bind_some h
    refine R_cV1 [.int x6] DX8_kites_92 kzvX5_at ml_RX8_308 ⟨Nat.le_of_ble_eq_true rfl, Nat.le_of_ble_eq_true rfl⟩ rfl (Nat.le_of_ble_eq_true rfl) (kX5_at er19) ?_
    obtain ⟨r20, er20, h⟩ := bind_some h
    refine R_cV1 [.int a.2.1, .int r19.1] DX8_kites_95 kzvX6_windAt ml_RX8_89 ⟨Nat.le_of_ble_eq_true rfl, Nat.le_of_ble_eq_true rfl⟩ rfl (Nat.le_of_ble_eq_true rfl) (kX6_windAt er20) ?_
    refine R_aload DX8_kites_98 1 rfl ?_
    refine R_iload DX8_kites_100 3 rfl ?_
    refine R_constI DX8_kites_102 ci_1 ?_
    refine R_iadd DX8_kites_103 ?_
    obtain ⟨r21, er21, h⟩ := bind_some h
    refine R_cV1 [.int (x6 + (iI 1))] DX8_kites_104 kzvX5_at ml_RX8_308 ⟨Nat.le_of_ble_eq_true rfl, Nat.le_of_ble_eq_true rfl⟩ rfl (Nat.le_of_ble_eq_true rfl) (kX5_at er21) ?_
    by_cases c22 : r20.1 = r21.1
    · replace h := if_t h c22
      refine R_icmp_eq_t DX8_kites_107 c22 ?_
      exact tX8_kites_b121 h hc he0
    · replace h := if_f h c22
      refine R_icmp_eq_f DX8_kites_107 c22 ?_
      refine R_iload DX8_kites_110 2 rfl ?_
      refine R_constI DX8_kites_112 ci_1 ?_
      refine R_iload DX8_kites_113 4 rfl ?_
      refine R_ishl DX8_kites_115 ?_
      refine R_constI DX8_kites_116 ci_m1 ?_
      refine R_ixor DX8_kites_117 ?_
      refine R_iand DX8_kites_118 ?_
      obtain ⟨z23, ez23, h⟩ := lt_some h
      refine R_istoreE ez23 [(5, .int z23), (0, .ref x0), (4, .ref x4), (6, .int x6), (7, .int a.2.1)] DX8_kites_119 (by decide) rfl ?_
      refine R.sub (L' := [(0, .ref x0), (4, .ref x4), (5, .int z23), (6, .int x6), (7, .int a.2.1)]) [1, 2, 0, 3, 4] rfl ?_
      exact tX8_kites_b121 h hc he0
set_option maxRecDepth 8000 in
theorem tX8_kites_l55 {G : Gm} {x0 : Nat} {x4 : Nat} {o : Option Value × Hp} {a : Int32 × Int32 × Hp} {w : (Int32 × Int32 × Hp) ⊕ ((Int32 × Hp))} (h : fX8_kites_l55 x0 x4 a = some w) (hc : ∀ (q5 : Int32) (q6 : Int32) (qs : Hp), w = .inl (q5, q6, qs) → R G MX8_kites 55 [(0, .ref x0), (4, .ref x4), (5, .int q5), (6, .int q6)] [] qs o) (he0 : ∀ (q5 : Int32) (qs : Hp), w = .inr (q5, qs) → R G MX8_kites 133 [(5, .int q5)] [] qs o) : R G MX8_kites 55 [(0, .ref x0), (4, .ref x4), (5, .int a.1), (6, .int a.2.1)] [] a.2.2 o := by
  unfold fX8_kites_l55 at h
  refine R_iload DX8_kites_55 3 rfl ?_
  refine R_constI DX8_kites_57 ci_2 ?_
  refine R_iadd DX8_kites_58 ?_
  refine R_aload DX8_kites_59 1 rfl ?_
  obtain ⟨v13, ev13, h⟩ := bind_some h
  refine R_gIN DX8_kites_61 fl_RX8_305 ev13 ?_
  by_cases c14 : v13 < (a.2.1 + (iI 2))
  · replace h := if_t h c14
    refine R_icmp_gt_t DX8_kites_64 c14 ?_
    refine R.sub (L' := [(5, .int a.1)]) [2] rfl ?_
    cases h
    exact he0 _ _ rfl
  · replace h := if_f h c14
    refine R_icmp_gt_f DX8_kites_64 c14 ?_
    refine R_constI DX8_kites_67 ci_0 ?_
    refine R_istore [(7, .int (iI 0)), (0, .ref x0), (4, .ref x4), (5, .int a.1), (6, .int a.2.1)] DX8_kites_68 (by decide) rfl ?_
    refine R.sub (L' := [(0, .ref x0), (4, .ref x4), (5, .int a.1), (6, .int a.2.1), (7, .int (iI 0))]) [1, 2, 3, 4, 0] rfl ?_
    obtain ⟨r24, hi, h⟩ := bind_some h
    have hE : (fun u70 : Int32 × Hp => R G MX8_kites 127 [(0, .ref x0), (4, .ref x4), (5, .int u70.1), (6, .int a.2.1)] [] u70.2 o) r24 → ∀ (q5 : Int32) (q7 : Int32) (qs : Hp), iter (fX8_kites_l70 x0 x4 a.2.1) FU (q5, q7, qs) = some r24 → R G MX8_kites 70 [(0, .ref x0), (4, .ref x4), (5, .int q5), (6, .int a.2.1), (7, .int q7)] [] qs o := fun hX q5 q7 qs hj => loop_R (fX8_kites_l70 x0 x4 a.2.1) (fun p70 : Int32 × Int32 × Hp => R G MX8_kites 70 [(0, .ref x0), (4, .ref x4), (5, .int p70.1), (6, .int a.2.1), (7, .int p70.2.1)] [] p70.2.2 o) (fun u70 : Int32 × Hp => R G MX8_kites 127 [(0, .ref x0), (4, .ref x4), (5, .int u70.1), (6, .int a.2.1)] [] u70.2 o) (fun a w hw hc he => tX8_kites_l70 hw (fun q5 q7 qs e => hc (q5, q7, qs) e) (fun q5 qs e => he (q5, qs) e)) FU (q5, q7, qs) r24 hj hX
    refine hE ?_ _ _ _ hi
    clear hE hi
    refine R_iinc [(6, .int (a.2.1 + iI 2)), (0, .ref x0), (4, .ref x4), (5, .int r24.1)] DX8_kites_127 3 rfl (v := a.2.1 + iI 2) (by rfl) (by decide) rfl ?_
    refine R_goto DX8_kites_130 ?_
    refine R.sub (L' := [(0, .ref x0), (4, .ref x4), (5, .int r24.1), (6, .int (a.2.1 + iI 2))]) [1, 2, 3, 0] rfl ?_
    cases h
    exact hc _ _ _ rfl
set_option maxRecDepth 8000 in
theorem kX8_kites {G : Gm} {x0 : Nat} {x1 : Int32} {s : Hp} {w : Int32 × Hp} (h : fX8_kites x0 x1 s = some w) : (s.2.2 x0).1 = 8 ∧ Call G MX8_kites [.ref x0, .int x1] s (some (.int w.1), w.2) := by
  unfold fX8_kites at h
  obtain ⟨_, e0, h⟩ := bind_some h
  refine ⟨ck_some e0, Call.of_R pnRX8 (Nat.le_of_ble_eq_true rfl) ?_⟩
  clear e0
  show R G MX8_kites 0 [(0, .ref x0), (1, .int x1)] [] s (some (.int w.1), w.2)
  refine R_constI DX8_kites_0 ci_2 ?_
  obtain ⟨s1, es1, h⟩ := bind_some h
  refine R_newa at20 aw20 DX8_kites_1 es1 ?_
  refine R_dup DX8_kites_3 rfl ?_
  refine R_constI DX8_kites_4 ci_0 ?_
  refine R_aload DX8_kites_5 0 rfl ?_
  obtain ⟨v2, ev2, h⟩ := bind_some h
  refine R_gR DX8_kites_6 fl_RX8_47 ev2 ?_
  obtain ⟨v3, ev3, h⟩ := bind_some h
  refine R_gI DX8_kites_9 fl_RX8_96 ev3 ?_
  obtain ⟨s4, es4, h⟩ := bind_some h
  refine R_sI DX8_kites_12 es4 ?_
  refine R_dup DX8_kites_13 rfl ?_
  refine R_constI DX8_kites_14 ci_1 ?_
  refine R_constI DX8_kites_15 ci_5 ?_
  obtain ⟨s5, es5, h⟩ := bind_some h
  refine R_sI DX8_kites_16 es5 ?_
  refine R_astore [(2, .ref s.1), (0, .ref x0), (1, .int x1)] DX8_kites_17 (by decide) rfl ?_
  refine R_aload DX8_kites_18 1 rfl ?_
  refine R_iload DX8_kites_19 2 rfl ?_
  refine R_aload DX8_kites_20 0 rfl ?_
  obtain ⟨r6, er6, h⟩ := bind_some h
  refine R_cV1 [.int x1, .ref s.1] DX8_kites_21 kzvX8_rowRefusal ml_RX8_301 ⟨Nat.le_of_ble_eq_true rfl, Nat.le_of_ble_eq_true rfl⟩ rfl (Nat.le_of_ble_eq_true rfl) (kX8_rowRefusal er6) ?_
  refine R_istore [(3, .int r6.1), (2, .ref s.1), (0, .ref x0), (1, .int x1)] DX8_kites_24 (by decide) rfl ?_
  refine R_iload DX8_kites_25 0 rfl ?_
  by_cases c7 : r6.1 = 0
  · replace h := if_t h c7
    refine R_if_eq_t DX8_kites_26 c7 ?_
    refine R_aload DX8_kites_31 2 rfl ?_
    obtain ⟨v8, ev8, h⟩ := bind_some h
    refine R_gR DX8_kites_32 fl_RX8_42 ev8 ?_
    refine R_iload DX8_kites_35 3 rfl ?_
    obtain ⟨v9, ev9, h⟩ := bind_some h
    refine R_aR rt25 DX8_kites_36 ev9 ?_
    refine R_astore [(4, .ref v9), (3, .int r6.1), (2, .ref s.1), (0, .ref x0), (1, .int x1)] DX8_kites_37 (by decide) rfl ?_
    refine R_constI DX8_kites_39 ci_1 ?_
    refine R_aload DX8_kites_40 3 rfl ?_
    obtain ⟨v10, ev10, h⟩ := bind_some h
    refine R_gR DX8_kites_41 fl_RX8_47 ev10 ?_
    obtain ⟨v11, ev11, h⟩ := bind_some h
    refine R_gI DX8_kites_44 fl_RX8_218 ev11 ?_
    refine R_ishl DX8_kites_47 ?_
    refine R_constI DX8_kites_48 ci_1 ?_
    refine R_isub DX8_kites_49 ?_
    obtain ⟨z12, ez12, h⟩ := lt_some h
    refine R_istoreE ez12 [(5, .int z12), (4, .ref v9), (3, .int r6.1), (2, .ref s.1), (0, .ref x0), (1, .int x1)] DX8_kites_50 (by decide) rfl ?_
    refine R_constI DX8_kites_52 ci_0 ?_
    refine R_istore [(6, .int (iI 0)), (5, .int z12), (4, .ref v9), (3, .int r6.1), (2, .ref s.1), (0, .ref x0), (1, .int x1)] DX8_kites_53 (by decide) rfl ?_
    refine R.sub (L' := [(0, .ref x0), (4, .ref v9), (5, .int z12), (6, .int (iI 0))]) [5, 2, 1, 0] rfl ?_
    obtain ⟨r25, hi, h⟩ := bind_some h
    have hE : (fun u55 : Int32 × Hp => R G MX8_kites 133 [(5, .int u55.1)] [] u55.2 (some (.int w.1), w.2)) r25 → ∀ (q5 : Int32) (q6 : Int32) (qs : Hp), iter (fX8_kites_l55 x0 v9) FU (q5, q6, qs) = some r25 → R G MX8_kites 55 [(0, .ref x0), (4, .ref v9), (5, .int q5), (6, .int q6)] [] qs (some (.int w.1), w.2) := fun hX q5 q6 qs hj => loop_R (fX8_kites_l55 x0 v9) (fun p55 : Int32 × Int32 × Hp => R G MX8_kites 55 [(0, .ref x0), (4, .ref v9), (5, .int p55.1), (6, .int p55.2.1)] [] p55.2.2 (some (.int w.1), w.2)) (fun u55 : Int32 × Hp => R G MX8_kites 133 [(5, .int u55.1)] [] u55.2 (some (.int w.1), w.2)) (fun a w hw hc he => tX8_kites_l55 hw (fun q5 q6 qs e => hc (q5, q6, qs) e) (fun q5 qs e => he (q5, qs) e)) FU (q5, q6, qs) r25 hj hX
    refine hE ?_ _ _ _ hi
    clear hE hi
    refine R_iload DX8_kites_133 0 rfl ?_
    cases h
    exact R_ireturn rfl DX8_kites_135
  · replace h := if_f h c7
    refine R_if_eq_f DX8_kites_26 c7 ?_
    refine R_iload DX8_kites_29 0 rfl ?_
    cases h
    exact R_ireturn rfl DX8_kites_30
set_option maxRecDepth 8000 in
theorem tX8_firstUnlike_l2 {G : Gm} {x0 : Nat} {x1 : Int32} {x2 : Int32} {o : Option Value × Hp} {a : Int32 × Hp} {w : (Int32 × Hp) ⊕ ((Hp) ⊕ (Int32 × Hp))} (h : fX8_firstUnlike_l2 x0 x1 x2 a = some w) (hc : ∀ (q3 : Int32) (qs : Hp), w = .inl (q3, qs) → R G MX8_firstUnlike 2 [(0, .ref x0), (1, .int x1), (2, .int x2), (3, .int q3)] [] qs o) (he0 : ∀ (qs : Hp), w = .inr (.inl qs) → R G MX8_firstUnlike 42 [] [] qs o) (he1 : ∀ (q3 : Int32) (qs : Hp), w = .inr (.inr (q3, qs)) → R G MX8_firstUnlike 34 [(3, .int q3)] [] qs o) : R G MX8_firstUnlike 2 [(0, .ref x0), (1, .int x1), (2, .int x2), (3, .int a.1)] [] a.2 o := by
  unfold fX8_firstUnlike_l2 at h
  refine R_iload DX8_firstUnlike_2 3 rfl ?_
  refine R_aload DX8_firstUnlike_3 0 rfl ?_
  obtain ⟨v1, ev1, h⟩ := bind_some h
  refine R_gR DX8_firstUnlike_4 fl_RX8_47 ev1 ?_
  obtain ⟨v2, ev2, h⟩ := bind_some h
  refine R_gI DX8_firstUnlike_7 fl_RX8_96 ev2 ?_
  by_cases c3 : v2 ≤ a.1
  · replace h := if_t h c3
    refine R_icmp_ge_t DX8_firstUnlike_10 c3 ?_
    refine R.sub (L' := []) [] rfl ?_
    cases h
    exact he0 _ rfl
  · replace h := if_f h c3
    refine R_icmp_ge_f DX8_firstUnlike_10 c3 ?_
    refine R_aload DX8_firstUnlike_13 0 rfl ?_
    obtain ⟨v4, ev4, h⟩ := bind_some h
    refine R_gR DX8_firstUnlike_14 fl_RX8_47 ev4 ?_
    refine R_iload DX8_firstUnlike_17 1 rfl ?_
    refine R_iload DX8_firstUnlike_18 3 rfl ?_
    obtain ⟨r5, er5, h⟩ := bind_some h
    refine R_cV1 [.int x1, .int a.1] DX8_firstUnlike_19 kzvX6_windAt ml_RX8_89 ⟨Nat.le_of_ble_eq_true rfl, Nat.le_of_ble_eq_true rfl⟩ rfl (Nat.le_of_ble_eq_true rfl) (kX6_windAt er5) ?_
    refine R_aload DX8_firstUnlike_22 0 rfl ?_
    obtain ⟨v6, ev6, h⟩ := bind_some h
    refine R_gR DX8_firstUnlike_23 fl_RX8_47 ev6 ?_
    refine R_iload DX8_firstUnlike_26 2 rfl ?_
    refine R_iload DX8_firstUnlike_27 3 rfl ?_
    obtain ⟨r7, er7, h⟩ := bind_some h
    refine R_cV1 [.int x2, .int a.1] DX8_firstUnlike_28 kzvX6_windAt ml_RX8_89 ⟨Nat.le_of_ble_eq_true rfl, Nat.le_of_ble_eq_true rfl⟩ rfl (Nat.le_of_ble_eq_true rfl) (kX6_windAt er7) ?_
    by_cases c8 : r5.1 = r7.1
    · replace h := if_t h c8
      refine R_icmp_eq_t DX8_firstUnlike_31 c8 ?_
      refine R_iinc [(3, .int (a.1 + iI 1)), (0, .ref x0), (1, .int x1), (2, .int x2)] DX8_firstUnlike_36 3 rfl (v := a.1 + iI 1) (by rfl) (by decide) rfl ?_
      refine R_goto DX8_firstUnlike_39 ?_
      refine R.sub (L' := [(0, .ref x0), (1, .int x1), (2, .int x2), (3, .int (a.1 + iI 1))]) [1, 2, 3, 0] rfl ?_
      cases h
      exact hc _ _ rfl
    · replace h := if_f h c8
      refine R_icmp_eq_f DX8_firstUnlike_31 c8 ?_
      refine R.sub (L' := [(3, .int a.1)]) [3] rfl ?_
      cases h
      exact he1 _ _ rfl
set_option maxRecDepth 8000 in
theorem kX8_firstUnlike {G : Gm} {x0 : Nat} {x1 : Int32} {x2 : Int32} {s : Hp} {w : Int32 × Hp} (h : fX8_firstUnlike x0 x1 x2 s = some w) : (s.2.2 x0).1 = 8 ∧ Call G MX8_firstUnlike [.ref x0, .int x1, .int x2] s (some (.int w.1), w.2) := by
  unfold fX8_firstUnlike at h
  obtain ⟨_, e0, h⟩ := bind_some h
  refine ⟨ck_some e0, Call.of_R pnRX8 (Nat.le_of_ble_eq_true rfl) ?_⟩
  clear e0
  show R G MX8_firstUnlike 0 [(0, .ref x0), (1, .int x1), (2, .int x2)] [] s (some (.int w.1), w.2)
  refine R_constI DX8_firstUnlike_0 ci_0 ?_
  refine R_istore [(3, .int (iI 0)), (0, .ref x0), (1, .int x1), (2, .int x2)] DX8_firstUnlike_1 (by decide) rfl ?_
  refine R.sub (L' := [(0, .ref x0), (1, .int x1), (2, .int x2), (3, .int (iI 0))]) [1, 2, 3, 0] rfl ?_
  obtain ⟨r9, hi, h⟩ := bind_some h
  have hE : (Sum.elim (fun u2 : Hp => R G MX8_firstUnlike 42 [] [] u2 (some (.int w.1), w.2)) (fun u2 : Int32 × Hp => R G MX8_firstUnlike 34 [(3, .int u2.1)] [] u2.2 (some (.int w.1), w.2))) r9 → ∀ (q3 : Int32) (qs : Hp), iter (fX8_firstUnlike_l2 x0 x1 x2) FU (q3, qs) = some r9 → R G MX8_firstUnlike 2 [(0, .ref x0), (1, .int x1), (2, .int x2), (3, .int q3)] [] qs (some (.int w.1), w.2) := fun hX q3 qs hj => loop_R (fX8_firstUnlike_l2 x0 x1 x2) (fun p2 : Int32 × Hp => R G MX8_firstUnlike 2 [(0, .ref x0), (1, .int x1), (2, .int x2), (3, .int p2.1)] [] p2.2 (some (.int w.1), w.2)) (Sum.elim (fun u2 : Hp => R G MX8_firstUnlike 42 [] [] u2 (some (.int w.1), w.2)) (fun u2 : Int32 × Hp => R G MX8_firstUnlike 34 [(3, .int u2.1)] [] u2.2 (some (.int w.1), w.2))) (fun a w hw hc he => tX8_firstUnlike_l2 hw (fun q3 qs e => hc (q3, qs) e) (fun qs e => he (.inl qs) e) (fun q3 qs e => he (.inr (q3, qs)) e)) FU (q3, qs) r9 hj hX
  refine hE ?_ _ _ hi
  clear hE hi
  rcases r9 with r9a | r9b
  · replace h := el_l h
    refine R_constI DX8_firstUnlike_42 ci_m1 ?_
    cases h
    exact R_ireturn rfl DX8_firstUnlike_43
  replace h := el_r h
  refine R_iload DX8_firstUnlike_34 0 rfl ?_
  cases h
  exact R_ireturn rfl DX8_firstUnlike_35
set_option maxRecDepth 8000 in
theorem tX8_known_b59 {G : Gm} {x0 : Nat} {x1 : Int32} {x2 : Int32} {x3 : Int32} {s : Hp} {o : Option Value × Hp} {w : (Int32 × Int32 × Hp) ⊕ ((Int32 × Hp) ⊕ (Hp))} (h : fX8_known_b59 x0 x1 x2 x3 s = some w) (hc : ∀ (q2 : Int32) (q3 : Int32) (qs : Hp), w = .inl (q2, q3, qs) → R G MX8_known 18 [(0, .ref x0), (1, .int x1), (2, .int q2), (3, .int q3)] [] qs o) (he0 : ∀ (q2 : Int32) (qs : Hp), w = .inr (.inl (q2, qs)) → R G MX8_known 65 [(2, .int q2)] [] qs o) (he1 : ∀ (qs : Hp), w = .inr (.inr qs) → R G MX8_known 48 [] [] qs o) : R G MX8_known 59 [(0, .ref x0), (1, .int x1), (2, .int x2), (3, .int x3)] [] s o := by
  unfold fX8_known_b59 at h
  refine R_iinc [(3, .int (x3 + iI 1)), (0, .ref x0), (1, .int x1), (2, .int x2)] DX8_known_59 3 rfl (v := x3 + iI 1) (by rfl) (by decide) rfl ?_
  refine R_goto DX8_known_62 ?_
  refine R.sub (L' := [(0, .ref x0), (1, .int x1), (2, .int x2), (3, .int (x3 + iI 1))]) [1, 2, 3, 0] rfl ?_
  cases h
  exact hc _ _ _ rfl
set_option maxRecDepth 8000 in
theorem tX8_known_l18 {G : Gm} {x0 : Nat} {x1 : Int32} {o : Option Value × Hp} {a : Int32 × Int32 × Hp} {w : (Int32 × Int32 × Hp) ⊕ ((Int32 × Hp) ⊕ (Hp))} (h : fX8_known_l18 x0 x1 a = some w) (hc : ∀ (q2 : Int32) (q3 : Int32) (qs : Hp), w = .inl (q2, q3, qs) → R G MX8_known 18 [(0, .ref x0), (1, .int x1), (2, .int q2), (3, .int q3)] [] qs o) (he0 : ∀ (q2 : Int32) (qs : Hp), w = .inr (.inl (q2, qs)) → R G MX8_known 65 [(2, .int q2)] [] qs o) (he1 : ∀ (qs : Hp), w = .inr (.inr qs) → R G MX8_known 48 [] [] qs o) : R G MX8_known 18 [(0, .ref x0), (1, .int x1), (2, .int a.1), (3, .int a.2.1)] [] a.2.2 o := by
  unfold fX8_known_l18 at h
  refine R_iload DX8_known_18 3 rfl ?_
  refine R_aload DX8_known_19 0 rfl ?_
  obtain ⟨v4, ev4, h⟩ := bind_some h
  refine R_gR DX8_known_20 fl_RX8_47 ev4 ?_
  obtain ⟨v5, ev5, h⟩ := bind_some h
  refine R_gI DX8_known_23 fl_RX8_218 ev5 ?_
  by_cases c6 : v5 ≤ a.2.1
  · replace h := if_t h c6
    refine R_icmp_ge_t DX8_known_26 c6 ?_
    refine R.sub (L' := [(2, .int a.1)]) [2] rfl ?_
    cases h
    exact he0 _ _ rfl
  · replace h := if_f h c6
    refine R_icmp_ge_f DX8_known_26 c6 ?_
    refine R_iload DX8_known_29 3 rfl ?_
    refine R_iload DX8_known_30 1 rfl ?_
    by_cases c7 : a.2.1 = x1
    · replace h := if_t h c7
      refine R_icmp_eq_t DX8_known_31 c7 ?_
      exact tX8_known_b59 h hc he0 he1
    · replace h := if_f h c7
      refine R_icmp_eq_f DX8_known_31 c7 ?_
      refine R_aload DX8_known_34 0 rfl ?_
      refine R_iload DX8_known_35 1 rfl ?_
      refine R_iload DX8_known_36 3 rfl ?_
      obtain ⟨r8, er8, h⟩ := bind_some h
      refine R_cV1 [.int x1, .int a.2.1] DX8_known_37 kzvX8_firstUnlike ml_RX8_314 ⟨Nat.le_of_ble_eq_true rfl, Nat.le_of_ble_eq_true rfl⟩ rfl (Nat.le_of_ble_eq_true rfl) (kX8_firstUnlike er8) ?_
      refine R_istore [(4, .int r8.1), (0, .ref x0), (1, .int x1), (2, .int a.1), (3, .int a.2.1)] DX8_known_40 (by decide) rfl ?_
      refine R_iload DX8_known_42 0 rfl ?_
      refine R_constI DX8_known_44 ci_m1 ?_
      by_cases c9 : r8.1 = (iI (-1))
      · replace h := if_t h c9
        refine R_icmp_ne_f DX8_known_45 c9 ?_
        refine R.sub (L' := []) [] rfl ?_
        cases h
        exact he1 _ rfl
      · replace h := if_f h c9
        refine R_icmp_ne_t DX8_known_45 c9 ?_
        refine R_iload DX8_known_50 3 rfl ?_
        refine R_iload DX8_known_51 0 rfl ?_
        refine R_constI DX8_known_53 ci_1 ?_
        refine R_iadd DX8_known_54 ?_
        refine R_mmax DX8_known_55 mw_RX8_317 ⟨Nat.le_of_ble_eq_true rfl, Nat.le_of_ble_eq_true rfl⟩ ?_
        obtain ⟨z10, ez10, h⟩ := lt_some h
        refine R_istoreE ez10 [(2, .int z10), (4, .int r8.1), (0, .ref x0), (1, .int x1), (3, .int a.2.1)] DX8_known_58 (by decide) rfl ?_
        refine R.sub (L' := [(0, .ref x0), (1, .int x1), (2, .int z10), (3, .int a.2.1)]) [2, 3, 0, 4] rfl ?_
        exact tX8_known_b59 h hc he0 he1
set_option maxRecDepth 8000 in
theorem kX8_known {G : Gm} {x0 : Nat} {x1 : Int32} {s : Hp} {w : Int32 × Hp} (h : fX8_known x0 x1 s = some w) : (s.2.2 x0).1 = 8 ∧ Call G MX8_known [.ref x0, .int x1] s (some (.int w.1), w.2) := by
  unfold fX8_known at h
  obtain ⟨_, e0, h⟩ := bind_some h
  refine ⟨ck_some e0, Call.of_R pnRX8 (Nat.le_of_ble_eq_true rfl) ?_⟩
  clear e0
  show R G MX8_known 0 [(0, .ref x0), (1, .int x1)] [] s (some (.int w.1), w.2)
  refine R_aload DX8_known_0 0 rfl ?_
  obtain ⟨v1, ev1, h⟩ := bind_some h
  refine R_gR DX8_known_1 fl_RX8_47 ev1 ?_
  refine R_iload DX8_known_4 1 rfl ?_
  obtain ⟨r2, er2, h⟩ := bind_some h
  refine R_cV1 [.int x1] DX8_known_5 kzvX6_hasLayer ml_RX8_82 ⟨Nat.le_of_ble_eq_true rfl, Nat.le_of_ble_eq_true rfl⟩ rfl (Nat.le_of_ble_eq_true rfl) (kX6_hasLayer er2) ?_
  by_cases c3 : r2.1 = 0
  · replace h := if_t h c3
    refine R_if_ne_f DX8_known_8 c3 ?_
    refine R_constI DX8_known_11 ci_m2 ?_
    cases h
    exact R_ireturn rfl DX8_known_13
  · replace h := if_f h c3
    refine R_if_ne_t DX8_known_8 c3 ?_
    refine R_constI DX8_known_14 ci_0 ?_
    refine R_istore [(2, .int (iI 0)), (0, .ref x0), (1, .int x1)] DX8_known_15 (by decide) rfl ?_
    refine R_constI DX8_known_16 ci_0 ?_
    refine R_istore [(3, .int (iI 0)), (2, .int (iI 0)), (0, .ref x0), (1, .int x1)] DX8_known_17 (by decide) rfl ?_
    refine R.sub (L' := [(0, .ref x0), (1, .int x1), (2, .int (iI 0)), (3, .int (iI 0))]) [2, 3, 1, 0] rfl ?_
    obtain ⟨r11, hi, h⟩ := bind_some h
    have hE : (Sum.elim (fun u18 : Int32 × Hp => R G MX8_known 65 [(2, .int u18.1)] [] u18.2 (some (.int w.1), w.2)) (fun u18 : Hp => R G MX8_known 48 [] [] u18 (some (.int w.1), w.2))) r11 → ∀ (q2 : Int32) (q3 : Int32) (qs : Hp), iter (fX8_known_l18 x0 x1) FU (q2, q3, qs) = some r11 → R G MX8_known 18 [(0, .ref x0), (1, .int x1), (2, .int q2), (3, .int q3)] [] qs (some (.int w.1), w.2) := fun hX q2 q3 qs hj => loop_R (fX8_known_l18 x0 x1) (fun p18 : Int32 × Int32 × Hp => R G MX8_known 18 [(0, .ref x0), (1, .int x1), (2, .int p18.1), (3, .int p18.2.1)] [] p18.2.2 (some (.int w.1), w.2)) (Sum.elim (fun u18 : Int32 × Hp => R G MX8_known 65 [(2, .int u18.1)] [] u18.2 (some (.int w.1), w.2)) (fun u18 : Hp => R G MX8_known 48 [] [] u18 (some (.int w.1), w.2))) (fun a w hw hc he => tX8_known_l18 hw (fun q2 q3 qs e => hc (q2, q3, qs) e) (fun q2 qs e => he (.inl (q2, qs)) e) (fun qs e => he (.inr qs) e)) FU (q2, q3, qs) r11 hj hX
    refine hE ?_ _ _ _ hi
    clear hE hi
    rcases r11 with r11a | r11b
    · replace h := el_l h
      refine R_iload DX8_known_65 0 rfl ?_
      cases h
      exact R_ireturn rfl DX8_known_66
    replace h := el_r h
    refine R_constI DX8_known_48 ci_m1 ?_
    cases h
    exact R_ireturn rfl DX8_known_49
set_option maxRecDepth 8000 in
theorem kX8_price {G : Gm} {x0 : Nat} {x1 : Int32} {s : Hp} {w : Int32 × Hp} (h : fX8_price x0 x1 s = some w) : (s.2.2 x0).1 = 8 ∧ Call G MX8_price [.ref x0, .int x1] s (some (.int w.1), w.2) := by
  unfold fX8_price at h
  obtain ⟨_, e0, h⟩ := bind_some h
  refine ⟨ck_some e0, Call.of_R pnRX8 (Nat.le_of_ble_eq_true rfl) ?_⟩
  clear e0
  show R G MX8_price 0 [(0, .ref x0), (1, .int x1)] [] s (some (.int w.1), w.2)
  refine R_aload DX8_price_0 0 rfl ?_
  obtain ⟨v1, ev1, h⟩ := bind_some h
  refine R_gR DX8_price_1 fl_RX8_47 ev1 ?_
  refine R_iload DX8_price_4 1 rfl ?_
  obtain ⟨r2, er2, h⟩ := bind_some h
  refine R_cV1 [.int x1] DX8_price_5 kzvX6_hasLayer ml_RX8_82 ⟨Nat.le_of_ble_eq_true rfl, Nat.le_of_ble_eq_true rfl⟩ rfl (Nat.le_of_ble_eq_true rfl) (kX6_hasLayer er2) ?_
  by_cases c3 : r2.1 = 0
  · replace h := if_t h c3
    refine R_if_ne_f DX8_price_8 c3 ?_
    refine R_constI DX8_price_11 ci_m2 ?_
    cases h
    exact R_ireturn rfl DX8_price_13
  · replace h := if_f h c3
    refine R_if_ne_t DX8_price_8 c3 ?_
    refine R_iload DX8_price_14 1 rfl ?_
    refine R_aload DX8_price_15 0 rfl ?_
    obtain ⟨v4, ev4, h⟩ := bind_some h
    refine R_gR DX8_price_16 fl_RX8_47 ev4 ?_
    obtain ⟨v5, ev5, h⟩ := bind_some h
    refine R_gI DX8_price_19 fl_RX8_322 ev5 ?_
    by_cases c6 : x1 ≤ v5
    · replace h := if_t h c6
      refine R_icmp_le_t DX8_price_22 c6 ?_
      refine R_aload DX8_price_29 0 rfl ?_
      obtain ⟨v7, ev7, h⟩ := bind_some h
      refine R_gR DX8_price_30 fl_RX8_47 ev7 ?_
      refine R_iload DX8_price_33 1 rfl ?_
      obtain ⟨r8, er8, h⟩ := bind_some h
      refine R_cV1 [.int x1] DX8_price_34 kzvX6_saleBrings ml_RX8_325 ⟨Nat.le_of_ble_eq_true rfl, Nat.le_of_ble_eq_true rfl⟩ rfl (Nat.le_of_ble_eq_true rfl) (kX6_saleBrings er8) ?_
      cases h
      exact R_ireturn rfl DX8_price_37
    · replace h := if_f h c6
      refine R_icmp_le_f DX8_price_22 c6 ?_
      refine R_constI DX8_price_25 ci_m1 ?_
      refine R_goto DX8_price_26 ?_
      cases h
      exact R_ireturn rfl DX8_price_37
set_option maxRecDepth 8000 in
theorem kX8_gainBy {G : Gm} {x0 : Nat} {x1 : Nat} {x2 : Int32} {x3 : Int32} {x4 : Int32} {s : Hp} {w : Int32 × Hp} (h : fX8_gainBy x0 x1 x2 x3 x4 s = some w) : (s.2.2 x0).1 = 8 ∧ Call G MX8_gainBy [.ref x0, .ref x1, .int x2, .int x3, .int x4] s (some (.int w.1), w.2) := by
  unfold fX8_gainBy at h
  obtain ⟨_, e0, h⟩ := bind_some h
  refine ⟨ck_some e0, Call.of_R pnRX8 (Nat.le_of_ble_eq_true rfl) ?_⟩
  clear e0
  show R G MX8_gainBy 0 [(0, .ref x0), (1, .ref x1), (2, .int x2), (3, .int x3), (4, .int x4)] [] s (some (.int w.1), w.2)
  refine R_aload DX8_gainBy_0 0 rfl ?_
  obtain ⟨v1, ev1, h⟩ := bind_some h
  refine R_gR DX8_gainBy_1 fl_RX8_51 ev1 ?_
  refine R_iload DX8_gainBy_4 2 rfl ?_
  refine R_iload DX8_gainBy_5 3 rfl ?_
  refine R_iload DX8_gainBy_6 4 rfl ?_
  obtain ⟨s2, es2, h⟩ := bind_some h
  refine R_cV0 [.int x2, .int x3, .int x4] DX8_gainBy_8 kzvX6_setAct ml_RX8_428 ⟨Nat.le_of_ble_eq_true rfl, Nat.le_of_ble_eq_true rfl⟩ rfl (Nat.le_of_ble_eq_true rfl) (kX6_setAct es2) ?_
  refine R_aload DX8_gainBy_11 0 rfl ?_
  obtain ⟨v3, ev3, h⟩ := bind_some h
  refine R_gR DX8_gainBy_12 fl_RX8_27 ev3 ?_
  refine R_aload DX8_gainBy_15 0 rfl ?_
  obtain ⟨v4, ev4, h⟩ := bind_some h
  refine R_gR DX8_gainBy_16 fl_RX8_51 ev4 ?_
  refine R_aload DX8_gainBy_19 1 rfl ?_
  refine R_iload DX8_gainBy_20 3 rfl ?_
  obtain ⟨s5, es5, h⟩ := bind_some h
  refine R_cV0 [.ref v4, .ref x1, .int x3] DX8_gainBy_21 kzvX7_beginBehind ml_RX8_432 ⟨Nat.le_of_ble_eq_true rfl, Nat.le_of_ble_eq_true rfl⟩ rfl (Nat.le_of_ble_eq_true rfl) (kX7_beginBehind es5) ?_
  refine R_aload DX8_gainBy_24 0 rfl ?_
  obtain ⟨v6, ev6, h⟩ := bind_some h
  refine R_gR DX8_gainBy_25 fl_RX8_27 ev6 ?_
  refine R_iload DX8_gainBy_28 3 rfl ?_
  obtain ⟨s7, es7, h⟩ := bind_some h
  refine R_cV0 [.int x3] DX8_gainBy_29 kzvX7_flyFrom ml_RX8_354 ⟨Nat.le_of_ble_eq_true rfl, Nat.le_of_ble_eq_true rfl⟩ rfl (Nat.le_of_ble_eq_true rfl) (kX7_flyFrom es7) ?_
  refine R_aload DX8_gainBy_32 0 rfl ?_
  obtain ⟨v8, ev8, h⟩ := bind_some h
  refine R_gR DX8_gainBy_33 fl_RX8_51 ev8 ?_
  refine R_iload DX8_gainBy_36 2 rfl ?_
  refine R_iload DX8_gainBy_37 3 rfl ?_
  refine R_aload DX8_gainBy_38 0 rfl ?_
  obtain ⟨v9, ev9, h⟩ := bind_some h
  refine R_gR DX8_gainBy_39 fl_RX8_47 ev9 ?_
  refine R_iload DX8_gainBy_42 2 rfl ?_
  refine R_iload DX8_gainBy_43 3 rfl ?_
  obtain ⟨r10, er10, h⟩ := bind_some h
  refine R_cV1 [.int x2, .int x3] DX8_gainBy_44 kzvX6_actAt ml_RX8_123 ⟨Nat.le_of_ble_eq_true rfl, Nat.le_of_ble_eq_true rfl⟩ rfl (Nat.le_of_ble_eq_true rfl) (kX6_actAt er10) ?_
  obtain ⟨s11, es11, h⟩ := bind_some h
  refine R_cV0 [.int x2, .int x3, .int r10.1] DX8_gainBy_47 kzvX6_setAct ml_RX8_428 ⟨Nat.le_of_ble_eq_true rfl, Nat.le_of_ble_eq_true rfl⟩ rfl (Nat.le_of_ble_eq_true rfl) (kX6_setAct es11) ?_
  refine R_aload DX8_gainBy_50 0 rfl ?_
  obtain ⟨v12, ev12, h⟩ := bind_some h
  refine R_gR DX8_gainBy_51 fl_RX8_27 ev12 ?_
  obtain ⟨r13, er13, h⟩ := bind_some h
  refine R_cV1 [] DX8_gainBy_54 kzvX7_moneyOfAll ml_RX8_162 ⟨Nat.le_of_ble_eq_true rfl, Nat.le_of_ble_eq_true rfl⟩ rfl (Nat.le_of_ble_eq_true rfl) (kX7_moneyOfAll er13) ?_
  refine R_aload DX8_gainBy_57 1 rfl ?_
  obtain ⟨r14, er14, h⟩ := bind_some h
  refine R_cV1 [] DX8_gainBy_58 kzvX7_moneyOfAll ml_RX8_162 ⟨Nat.le_of_ble_eq_true rfl, Nat.le_of_ble_eq_true rfl⟩ rfl (Nat.le_of_ble_eq_true rfl) (kX7_moneyOfAll er14) ?_
  refine R_isub DX8_gainBy_61 ?_
  cases h
  exact R_ireturn rfl DX8_gainBy_62
set_option maxRecDepth 8000 in
theorem tX8_worth_b16 {G : Gm} {s : Hp} {w : Int32 × Hp} (h : fX8_worth_b16 s = some w) : R G MX8_worth 16 [] [] s (some (.int w.1), w.2) := by
  unfold fX8_worth_b16 at h
  refine R_ldcwI DX8_worth_16 cw_RX8_328 ci_m1000000 ?_
  cases h
  exact R_ireturn rfl DX8_worth_19
set_option maxRecDepth 8000 in
theorem kX8_worth {G : Gm} {x0 : Nat} {x1 : Int32} {x2 : Int32} {x3 : Int32} {s : Hp} {w : Int32 × Hp} (h : fX8_worth x0 x1 x2 x3 s = some w) : (s.2.2 x0).1 = 8 ∧ Call G MX8_worth [.ref x0, .int x1, .int x2, .int x3] s (some (.int w.1), w.2) := by
  unfold fX8_worth at h
  obtain ⟨_, e0, h⟩ := bind_some h
  refine ⟨ck_some e0, Call.of_R pnRX8 (Nat.le_of_ble_eq_true rfl) ?_⟩
  clear e0
  show R G MX8_worth 0 [(0, .ref x0), (1, .int x1), (2, .int x2), (3, .int x3)] [] s (some (.int w.1), w.2)
  refine R_aload DX8_worth_0 0 rfl ?_
  refine R_iload DX8_worth_1 1 rfl ?_
  refine R_iload DX8_worth_2 2 rfl ?_
  obtain ⟨r1, er1, h⟩ := bind_some h
  refine R_cV1 [.int x1, .int x2] DX8_worth_3 kzvX8_hasShopHour ml_RX8_119 ⟨Nat.le_of_ble_eq_true rfl, Nat.le_of_ble_eq_true rfl⟩ rfl (Nat.le_of_ble_eq_true rfl) (kX8_hasShopHour er1) ?_
  by_cases c2 : r1.1 = 0
  · replace h := if_t h c2
    refine R_if_eq_t DX8_worth_6 c2 ?_
    refine R.sub (L' := []) [] rfl ?_
    exact tX8_worth_b16 h
  · replace h := if_f h c2
    refine R_if_eq_f DX8_worth_6 c2 ?_
    refine R_iload DX8_worth_9 3 rfl ?_
    obtain ⟨r3, er3, h⟩ := bind_some h
    refine R_cS1 [.int x3] DX8_worth_10 kzsX8_isAct ml_RX8_126 ⟨Nat.le_of_ble_eq_true rfl, Nat.le_of_ble_eq_true rfl⟩ rfl (Nat.le_of_ble_eq_true rfl) (kX8_isAct er3) ?_
    by_cases c4 : r3.1 = 0
    · replace h := if_t h c4
      refine R_if_ne_f DX8_worth_13 c4 ?_
      refine R.sub (L' := []) [] rfl ?_
      exact tX8_worth_b16 h
    · replace h := if_f h c4
      refine R_if_ne_t DX8_worth_13 c4 ?_
      refine R_aload DX8_worth_20 0 rfl ?_
      obtain ⟨v5, ev5, h⟩ := bind_some h
      refine R_gR DX8_worth_21 fl_RX8_51 ev5 ?_
      refine R_aload DX8_worth_24 0 rfl ?_
      obtain ⟨v6, ev6, h⟩ := bind_some h
      refine R_gR DX8_worth_25 fl_RX8_47 ev6 ?_
      obtain ⟨s7, es7, h⟩ := bind_some h
      refine R_cV0 [.ref v6] DX8_worth_28 kzvX6_copyFrom ml_RX8_329 ⟨Nat.le_of_ble_eq_true rfl, Nat.le_of_ble_eq_true rfl⟩ rfl (Nat.le_of_ble_eq_true rfl) (kX6_copyFrom es7) ?_
      refine R_aload DX8_worth_31 0 rfl ?_
      refine R_aload DX8_worth_32 0 rfl ?_
      obtain ⟨r8, er8, h⟩ := bind_some h
      refine R_cV1 [] DX8_worth_33 kzvX8_flown ml_RX8_108 ⟨Nat.le_of_ble_eq_true rfl, Nat.le_of_ble_eq_true rfl⟩ rfl (Nat.le_of_ble_eq_true rfl) (kX8_flown er8) ?_
      refine R_iload DX8_worth_36 1 rfl ?_
      refine R_iload DX8_worth_37 2 rfl ?_
      refine R_iload DX8_worth_38 3 rfl ?_
      obtain ⟨r9, er9, h⟩ := bind_some h
      refine R_cV1 [.ref r8.1, .int x1, .int x2, .int x3] DX8_worth_39 kzvX8_gainBy ml_RX8_333 ⟨Nat.le_of_ble_eq_true rfl, Nat.le_of_ble_eq_true rfl⟩ rfl (Nat.le_of_ble_eq_true rfl) (kX8_gainBy er9) ?_
      cases h
      exact R_ireturn rfl DX8_worth_42
set_option maxRecDepth 8000 in
theorem tX8_best_b130 {G : Gm} {x0 : Nat} {x1 : Nat} {x2 : Int32} {x3 : Int32} {x4 : Int32} {x5 : Int32} {x6 : Int32} {s : Hp} {o : Option Value × Hp} {w : (Int32 × Int32 × Int32 × Hp) ⊕ ((Int32 × Int32 × Hp))} (h : fX8_best_b130 x0 x1 x2 x3 x4 x5 x6 s = some w) (hc : ∀ (q2 : Int32) (q3 : Int32) (q6 : Int32) (qs : Hp), w = .inl (q2, q3, q6, qs) → R G MX8_best 66 [(0, .ref x0), (1, .ref x1), (2, .int q2), (3, .int q3), (4, .int x4), (5, .int x5), (6, .int q6)] [] qs o) (he0 : ∀ (q2 : Int32) (q3 : Int32) (qs : Hp), w = .inr (q2, q3, qs) → R G MX8_best 136 [(0, .ref x0), (1, .ref x1), (2, .int q2), (3, .int q3), (4, .int x4), (5, .int x5)] [] qs o) : R G MX8_best 130 [(0, .ref x0), (1, .ref x1), (2, .int x2), (3, .int x3), (4, .int x4), (5, .int x5), (6, .int x6)] [] s o := by
  unfold fX8_best_b130 at h
  refine R_iinc [(6, .int (x6 + iI 1)), (0, .ref x0), (1, .ref x1), (2, .int x2), (3, .int x3), (4, .int x4), (5, .int x5)] DX8_best_130 6 rfl (v := x6 + iI 1) (by rfl) (by decide) rfl ?_
  refine R_goto DX8_best_133 ?_
  refine R.sub (L' := [(0, .ref x0), (1, .ref x1), (2, .int x2), (3, .int x3), (4, .int x4), (5, .int x5), (6, .int (x6 + iI 1))]) [1, 2, 3, 4, 5, 6, 0] rfl ?_
  cases h
  exact hc _ _ _ _ rfl
set_option maxRecDepth 8000 in
theorem tX8_best_b103 {G : Gm} {x0 : Nat} {x1 : Nat} {x2 : Int32} {x3 : Int32} {x4 : Int32} {x5 : Int32} {x6 : Int32} {y0 : Int32} {s : Hp} {o : Option Value × Hp} {w : (Int32 × Int32 × Int32 × Hp) ⊕ ((Int32 × Int32 × Hp))} (h : fX8_best_b103 x0 x1 x2 x3 x4 x5 x6 y0 s = some w) (hc : ∀ (q2 : Int32) (q3 : Int32) (q6 : Int32) (qs : Hp), w = .inl (q2, q3, q6, qs) → R G MX8_best 66 [(0, .ref x0), (1, .ref x1), (2, .int q2), (3, .int q3), (4, .int x4), (5, .int x5), (6, .int q6)] [] qs o) (he0 : ∀ (q2 : Int32) (q3 : Int32) (qs : Hp), w = .inr (q2, q3, qs) → R G MX8_best 136 [(0, .ref x0), (1, .ref x1), (2, .int q2), (3, .int q3), (4, .int x4), (5, .int x5)] [] qs o) : R G MX8_best 103 [(0, .ref x0), (1, .ref x1), (2, .int x2), (3, .int x3), (4, .int x4), (5, .int x5), (6, .int x6)] [.int y0] s o := by
  unfold fX8_best_b103 at h
  refine R_istore [(7, .int y0), (0, .ref x0), (1, .ref x1), (2, .int x2), (3, .int x3), (4, .int x4), (5, .int x5), (6, .int x6)] DX8_best_103 (by decide) rfl ?_
  refine R_iload DX8_best_105 0 rfl ?_
  refine R_iload DX8_best_107 4 rfl ?_
  by_cases c19 : y0 ≤ x3
  · replace h := if_t h c19
    refine R_icmp_le_t DX8_best_108 c19 ?_
    refine R.sub (L' := [(0, .ref x0), (1, .ref x1), (2, .int x2), (3, .int x3), (4, .int x4), (5, .int x5), (6, .int x6)]) [1, 2, 3, 4, 5, 6, 7] rfl ?_
    exact tX8_best_b130 h hc he0
  · replace h := if_f h c19
    refine R_icmp_le_f DX8_best_108 c19 ?_
    refine R_iload DX8_best_111 0 rfl ?_
    refine R_istore [(3, .int y0), (7, .int y0), (0, .ref x0), (1, .ref x1), (2, .int x2), (4, .int x4), (5, .int x5), (6, .int x6)] DX8_best_113 (by decide) rfl ?_
    refine R_constI DX8_best_114 ci_1000 ?_
    refine R_iload DX8_best_117 5 rfl ?_
    refine R_imul DX8_best_119 ?_
    refine R_constI DX8_best_120 ci_10 ?_
    refine R_iload DX8_best_122 6 rfl ?_
    refine R_imul DX8_best_124 ?_
    refine R_iadd DX8_best_125 ?_
    refine R_iload DX8_best_126 7 rfl ?_
    refine R_iadd DX8_best_128 ?_
    obtain ⟨z20, ez20, h⟩ := lt_some h
    refine R_istoreE ez20 [(2, .int z20), (3, .int y0), (7, .int y0), (0, .ref x0), (1, .ref x1), (4, .int x4), (5, .int x5), (6, .int x6)] DX8_best_129 (by decide) rfl ?_
    refine R.sub (L' := [(0, .ref x0), (1, .ref x1), (2, .int z20), (3, .int y0), (4, .int x4), (5, .int x5), (6, .int x6)]) [3, 4, 0, 1, 5, 6, 7] rfl ?_
    exact tX8_best_b130 h hc he0
set_option maxRecDepth 8000 in
theorem tX8_best_l66 {G : Gm} {x0 : Nat} {x1 : Nat} {x4 : Int32} {x5 : Int32} {o : Option Value × Hp} {a : Int32 × Int32 × Int32 × Hp} {w : (Int32 × Int32 × Int32 × Hp) ⊕ ((Int32 × Int32 × Hp))} (h : fX8_best_l66 x0 x1 x4 x5 a = some w) (hc : ∀ (q2 : Int32) (q3 : Int32) (q6 : Int32) (qs : Hp), w = .inl (q2, q3, q6, qs) → R G MX8_best 66 [(0, .ref x0), (1, .ref x1), (2, .int q2), (3, .int q3), (4, .int x4), (5, .int x5), (6, .int q6)] [] qs o) (he0 : ∀ (q2 : Int32) (q3 : Int32) (qs : Hp), w = .inr (q2, q3, qs) → R G MX8_best 136 [(0, .ref x0), (1, .ref x1), (2, .int q2), (3, .int q3), (4, .int x4), (5, .int x5)] [] qs o) : R G MX8_best 66 [(0, .ref x0), (1, .ref x1), (2, .int a.1), (3, .int a.2.1), (4, .int x4), (5, .int x5), (6, .int a.2.2.1)] [] a.2.2.2 o := by
  unfold fX8_best_l66 at h
  refine R_iload DX8_best_66 6 rfl ?_
  refine R_constI DX8_best_68 ci_3 ?_
  by_cases c14 : (iI 3) ≤ a.2.2.1
  · replace h := if_t h c14
    refine R_icmp_ge_t DX8_best_69 c14 ?_
    refine R.sub (L' := [(0, .ref x0), (1, .ref x1), (2, .int a.1), (3, .int a.2.1), (4, .int x4), (5, .int x5)]) [0, 1, 2, 3, 4, 5] rfl ?_
    cases h
    exact he0 _ _ _ rfl
  · replace h := if_f h c14
    refine R_icmp_ge_f DX8_best_69 c14 ?_
    refine R_iload DX8_best_72 6 rfl ?_
    refine R_aload DX8_best_74 0 rfl ?_
    obtain ⟨v15, ev15, h⟩ := bind_some h
    refine R_gR DX8_best_75 fl_RX8_47 ev15 ?_
    refine R_iload DX8_best_78 4 rfl ?_
    refine R_iload DX8_best_80 5 rfl ?_
    obtain ⟨r16, er16, h⟩ := bind_some h
    refine R_cV1 [.int x4, .int x5] DX8_best_82 kzvX6_actAt ml_RX8_123 ⟨Nat.le_of_ble_eq_true rfl, Nat.le_of_ble_eq_true rfl⟩ rfl (Nat.le_of_ble_eq_true rfl) (kX6_actAt er16) ?_
    by_cases c17 : a.2.2.1 = r16.1
    · replace h := if_t h c17
      refine R_icmp_ne_f DX8_best_85 c17 ?_
      refine R_constI DX8_best_88 ci_0 ?_
      refine R_goto DX8_best_89 ?_
      exact tX8_best_b103 h hc he0
    · replace h := if_f h c17
      refine R_icmp_ne_t DX8_best_85 c17 ?_
      refine R_aload DX8_best_92 0 rfl ?_
      refine R_aload DX8_best_93 1 rfl ?_
      refine R_iload DX8_best_94 4 rfl ?_
      refine R_iload DX8_best_96 5 rfl ?_
      refine R_iload DX8_best_98 6 rfl ?_
      obtain ⟨r18, er18, h⟩ := bind_some h
      refine R_cV1 [.ref x1, .int x4, .int x5, .int a.2.2.1] DX8_best_100 kzvX8_gainBy ml_RX8_333 ⟨Nat.le_of_ble_eq_true rfl, Nat.le_of_ble_eq_true rfl⟩ rfl (Nat.le_of_ble_eq_true rfl) (kX8_gainBy er18) ?_
      exact tX8_best_b103 h hc he0
set_option maxRecDepth 8000 in
theorem tX8_best_l51 {G : Gm} {x0 : Nat} {x1 : Nat} {x4 : Int32} {o : Option Value × Hp} {a : Int32 × Int32 × Int32 × Hp} {w : (Int32 × Int32 × Int32 × Hp) ⊕ ((Int32 × Int32 × Hp))} (h : fX8_best_l51 x0 x1 x4 a = some w) (hc : ∀ (q2 : Int32) (q3 : Int32) (q5 : Int32) (qs : Hp), w = .inl (q2, q3, q5, qs) → R G MX8_best 51 [(0, .ref x0), (1, .ref x1), (2, .int q2), (3, .int q3), (4, .int x4), (5, .int q5)] [] qs o) (he0 : ∀ (q2 : Int32) (q3 : Int32) (qs : Hp), w = .inr (q2, q3, qs) → R G MX8_best 142 [(0, .ref x0), (1, .ref x1), (2, .int q2), (3, .int q3), (4, .int x4)] [] qs o) : R G MX8_best 51 [(0, .ref x0), (1, .ref x1), (2, .int a.1), (3, .int a.2.1), (4, .int x4), (5, .int a.2.2.1)] [] a.2.2.2 o := by
  unfold fX8_best_l51 at h
  refine R_iload DX8_best_51 5 rfl ?_
  refine R_aload DX8_best_53 0 rfl ?_
  obtain ⟨v11, ev11, h⟩ := bind_some h
  refine R_gR DX8_best_54 fl_RX8_47 ev11 ?_
  obtain ⟨v12, ev12, h⟩ := bind_some h
  refine R_gI DX8_best_57 fl_RX8_96 ev12 ?_
  by_cases c13 : v12 ≤ a.2.2.1
  · replace h := if_t h c13
    refine R_icmp_ge_t DX8_best_60 c13 ?_
    refine R.sub (L' := [(0, .ref x0), (1, .ref x1), (2, .int a.1), (3, .int a.2.1), (4, .int x4)]) [0, 1, 2, 3, 4] rfl ?_
    cases h
    exact he0 _ _ _ rfl
  · replace h := if_f h c13
    refine R_icmp_ge_f DX8_best_60 c13 ?_
    refine R_constI DX8_best_63 ci_0 ?_
    refine R_istore [(6, .int (iI 0)), (0, .ref x0), (1, .ref x1), (2, .int a.1), (3, .int a.2.1), (4, .int x4), (5, .int a.2.2.1)] DX8_best_64 (by decide) rfl ?_
    refine R.sub (L' := [(0, .ref x0), (1, .ref x1), (2, .int a.1), (3, .int a.2.1), (4, .int x4), (5, .int a.2.2.1), (6, .int (iI 0))]) [1, 2, 3, 4, 5, 6, 0] rfl ?_
    obtain ⟨r21, hi, h⟩ := bind_some h
    have hE : (fun u66 : Int32 × Int32 × Hp => R G MX8_best 136 [(0, .ref x0), (1, .ref x1), (2, .int u66.1), (3, .int u66.2.1), (4, .int x4), (5, .int a.2.2.1)] [] u66.2.2 o) r21 → ∀ (q2 : Int32) (q3 : Int32) (q6 : Int32) (qs : Hp), iter (fX8_best_l66 x0 x1 x4 a.2.2.1) FU (q2, q3, q6, qs) = some r21 → R G MX8_best 66 [(0, .ref x0), (1, .ref x1), (2, .int q2), (3, .int q3), (4, .int x4), (5, .int a.2.2.1), (6, .int q6)] [] qs o := fun hX q2 q3 q6 qs hj => loop_R (fX8_best_l66 x0 x1 x4 a.2.2.1) (fun p66 : Int32 × Int32 × Int32 × Hp => R G MX8_best 66 [(0, .ref x0), (1, .ref x1), (2, .int p66.1), (3, .int p66.2.1), (4, .int x4), (5, .int a.2.2.1), (6, .int p66.2.2.1)] [] p66.2.2.2 o) (fun u66 : Int32 × Int32 × Hp => R G MX8_best 136 [(0, .ref x0), (1, .ref x1), (2, .int u66.1), (3, .int u66.2.1), (4, .int x4), (5, .int a.2.2.1)] [] u66.2.2 o) (fun a w hw hc he => tX8_best_l66 hw (fun q2 q3 q6 qs e => hc (q2, q3, q6, qs) e) (fun q2 q3 qs e => he (q2, q3, qs) e)) FU (q2, q3, q6, qs) r21 hj hX
    refine hE ?_ _ _ _ _ hi
    clear hE hi
    refine R_iinc [(5, .int (a.2.2.1 + iI 1)), (0, .ref x0), (1, .ref x1), (2, .int r21.1), (3, .int r21.2.1), (4, .int x4)] DX8_best_136 5 rfl (v := a.2.2.1 + iI 1) (by rfl) (by decide) rfl ?_
    refine R_goto DX8_best_139 ?_
    refine R.sub (L' := [(0, .ref x0), (1, .ref x1), (2, .int r21.1), (3, .int r21.2.1), (4, .int x4), (5, .int (a.2.2.1 + iI 1))]) [1, 2, 3, 4, 5, 0] rfl ?_
    cases h
    exact hc _ _ _ _ rfl
set_option maxRecDepth 8000 in
theorem tX8_best_l36 {G : Gm} {x0 : Nat} {x1 : Nat} {o : Option Value × Hp} {a : Int32 × Int32 × Int32 × Hp} {w : (Int32 × Int32 × Int32 × Hp) ⊕ ((Int32 × Hp))} (h : fX8_best_l36 x0 x1 a = some w) (hc : ∀ (q2 : Int32) (q3 : Int32) (q4 : Int32) (qs : Hp), w = .inl (q2, q3, q4, qs) → R G MX8_best 36 [(0, .ref x0), (1, .ref x1), (2, .int q2), (3, .int q3), (4, .int q4)] [] qs o) (he0 : ∀ (q2 : Int32) (qs : Hp), w = .inr (q2, qs) → R G MX8_best 148 [(2, .int q2)] [] qs o) : R G MX8_best 36 [(0, .ref x0), (1, .ref x1), (2, .int a.1), (3, .int a.2.1), (4, .int a.2.2.1)] [] a.2.2.2 o := by
  unfold fX8_best_l36 at h
  refine R_iload DX8_best_36 4 rfl ?_
  refine R_aload DX8_best_38 0 rfl ?_
  obtain ⟨v8, ev8, h⟩ := bind_some h
  refine R_gR DX8_best_39 fl_RX8_47 ev8 ?_
  obtain ⟨v9, ev9, h⟩ := bind_some h
  refine R_gI DX8_best_42 fl_RX8_166 ev9 ?_
  by_cases c10 : v9 ≤ a.2.2.1
  · replace h := if_t h c10
    refine R_icmp_ge_t DX8_best_45 c10 ?_
    refine R.sub (L' := [(2, .int a.1)]) [2] rfl ?_
    cases h
    exact he0 _ _ rfl
  · replace h := if_f h c10
    refine R_icmp_ge_f DX8_best_45 c10 ?_
    refine R_constI DX8_best_48 ci_0 ?_
    refine R_istore [(5, .int (iI 0)), (0, .ref x0), (1, .ref x1), (2, .int a.1), (3, .int a.2.1), (4, .int a.2.2.1)] DX8_best_49 (by decide) rfl ?_
    refine R.sub (L' := [(0, .ref x0), (1, .ref x1), (2, .int a.1), (3, .int a.2.1), (4, .int a.2.2.1), (5, .int (iI 0))]) [1, 2, 3, 4, 5, 0] rfl ?_
    obtain ⟨r22, hi, h⟩ := bind_some h
    have hE : (fun u51 : Int32 × Int32 × Hp => R G MX8_best 142 [(0, .ref x0), (1, .ref x1), (2, .int u51.1), (3, .int u51.2.1), (4, .int a.2.2.1)] [] u51.2.2 o) r22 → ∀ (q2 : Int32) (q3 : Int32) (q5 : Int32) (qs : Hp), iter (fX8_best_l51 x0 x1 a.2.2.1) FU (q2, q3, q5, qs) = some r22 → R G MX8_best 51 [(0, .ref x0), (1, .ref x1), (2, .int q2), (3, .int q3), (4, .int a.2.2.1), (5, .int q5)] [] qs o := fun hX q2 q3 q5 qs hj => loop_R (fX8_best_l51 x0 x1 a.2.2.1) (fun p51 : Int32 × Int32 × Int32 × Hp => R G MX8_best 51 [(0, .ref x0), (1, .ref x1), (2, .int p51.1), (3, .int p51.2.1), (4, .int a.2.2.1), (5, .int p51.2.2.1)] [] p51.2.2.2 o) (fun u51 : Int32 × Int32 × Hp => R G MX8_best 142 [(0, .ref x0), (1, .ref x1), (2, .int u51.1), (3, .int u51.2.1), (4, .int a.2.2.1)] [] u51.2.2 o) (fun a w hw hc he => tX8_best_l51 hw (fun q2 q3 q5 qs e => hc (q2, q3, q5, qs) e) (fun q2 q3 qs e => he (q2, q3, qs) e)) FU (q2, q3, q5, qs) r22 hj hX
    refine hE ?_ _ _ _ _ hi
    clear hE hi
    refine R_iinc [(4, .int (a.2.2.1 + iI 1)), (0, .ref x0), (1, .ref x1), (2, .int r22.1), (3, .int r22.2.1)] DX8_best_142 4 rfl (v := a.2.2.1 + iI 1) (by rfl) (by decide) rfl ?_
    refine R_goto DX8_best_145 ?_
    refine R.sub (L' := [(0, .ref x0), (1, .ref x1), (2, .int r22.1), (3, .int r22.2.1), (4, .int (a.2.2.1 + iI 1))]) [1, 2, 3, 4, 0] rfl ?_
    cases h
    exact hc _ _ _ _ rfl
set_option maxRecDepth 8000 in
theorem kX8_best {G : Gm} {x0 : Nat} {s : Hp} {w : Int32 × Hp} (h : fX8_best x0 s = some w) : (s.2.2 x0).1 = 8 ∧ Call G MX8_best [.ref x0] s (some (.int w.1), w.2) := by
  unfold fX8_best at h
  obtain ⟨_, e0, h⟩ := bind_some h
  refine ⟨ck_some e0, Call.of_R pnRX8 (Nat.le_of_ble_eq_true rfl) ?_⟩
  clear e0
  show R G MX8_best 0 [(0, .ref x0)] [] s (some (.int w.1), w.2)
  refine R_aload DX8_best_0 0 rfl ?_
  obtain ⟨v1, ev1, h⟩ := bind_some h
  refine R_gR DX8_best_1 fl_RX8_47 ev1 ?_
  obtain ⟨r2, er2, h⟩ := bind_some h
  refine R_cV1 [] DX8_best_4 kzvX6_stands ml_RX8_140 ⟨Nat.le_of_ble_eq_true rfl, Nat.le_of_ble_eq_true rfl⟩ rfl (Nat.le_of_ble_eq_true rfl) (kX6_stands er2) ?_
  by_cases c3 : r2.1 = 0
  · replace h := if_t h c3
    refine R_if_ne_f DX8_best_7 c3 ?_
    refine R_constI DX8_best_10 ci_m2 ?_
    cases h
    exact R_ireturn rfl DX8_best_12
  · replace h := if_f h c3
    refine R_if_ne_t DX8_best_7 c3 ?_
    refine R_aload DX8_best_13 0 rfl ?_
    obtain ⟨r4, er4, h⟩ := bind_some h
    refine R_cV1 [] DX8_best_14 kzvX8_flown ml_RX8_108 ⟨Nat.le_of_ble_eq_true rfl, Nat.le_of_ble_eq_true rfl⟩ rfl (Nat.le_of_ble_eq_true rfl) (kX8_flown er4) ?_
    refine R_astore [(1, .ref r4.1), (0, .ref x0)] DX8_best_17 (by decide) rfl ?_
    refine R_aload DX8_best_18 1 rfl ?_
    obtain ⟨v5, ev5, h⟩ := bind_some h
    refine R_gR DX8_best_19 fl_RX8_51 ev5 ?_
    refine R_aload DX8_best_22 1 rfl ?_
    obtain ⟨v6, ev6, h⟩ := bind_some h
    refine R_gR DX8_best_23 fl_RX8_47 ev6 ?_
    obtain ⟨s7, es7, h⟩ := bind_some h
    refine R_cV0 [.ref v6] DX8_best_26 kzvX6_copyFrom ml_RX8_329 ⟨Nat.le_of_ble_eq_true rfl, Nat.le_of_ble_eq_true rfl⟩ rfl (Nat.le_of_ble_eq_true rfl) (kX6_copyFrom es7) ?_
    refine R_constI DX8_best_29 ci_m1 ?_
    refine R_istore [(2, .int (iI (-1))), (1, .ref r4.1), (0, .ref x0)] DX8_best_30 (by decide) rfl ?_
    refine R_constI DX8_best_31 ci_0 ?_
    refine R_istore [(3, .int (iI 0)), (2, .int (iI (-1))), (1, .ref r4.1), (0, .ref x0)] DX8_best_32 (by decide) rfl ?_
    refine R_constI DX8_best_33 ci_0 ?_
    refine R_istore [(4, .int (iI 0)), (3, .int (iI 0)), (2, .int (iI (-1))), (1, .ref r4.1), (0, .ref x0)] DX8_best_34 (by decide) rfl ?_
    refine R.sub (L' := [(0, .ref x0), (1, .ref r4.1), (2, .int (iI (-1))), (3, .int (iI 0)), (4, .int (iI 0))]) [4, 3, 2, 1, 0] rfl ?_
    obtain ⟨r23, hi, h⟩ := bind_some h
    have hE : (fun u36 : Int32 × Hp => R G MX8_best 148 [(2, .int u36.1)] [] u36.2 (some (.int w.1), w.2)) r23 → ∀ (q2 : Int32) (q3 : Int32) (q4 : Int32) (qs : Hp), iter (fX8_best_l36 x0 r4.1) FU (q2, q3, q4, qs) = some r23 → R G MX8_best 36 [(0, .ref x0), (1, .ref r4.1), (2, .int q2), (3, .int q3), (4, .int q4)] [] qs (some (.int w.1), w.2) := fun hX q2 q3 q4 qs hj => loop_R (fX8_best_l36 x0 r4.1) (fun p36 : Int32 × Int32 × Int32 × Hp => R G MX8_best 36 [(0, .ref x0), (1, .ref r4.1), (2, .int p36.1), (3, .int p36.2.1), (4, .int p36.2.2.1)] [] p36.2.2.2 (some (.int w.1), w.2)) (fun u36 : Int32 × Hp => R G MX8_best 148 [(2, .int u36.1)] [] u36.2 (some (.int w.1), w.2)) (fun a w hw hc he => tX8_best_l36 hw (fun q2 q3 q4 qs e => hc (q2, q3, q4, qs) e) (fun q2 qs e => he (q2, qs) e)) FU (q2, q3, q4, qs) r23 hj hX
    refine hE ?_ _ _ _ _ hi
    clear hE hi
    refine R_iload DX8_best_148 0 rfl ?_
    cases h
    exact R_ireturn rfl DX8_best_149
set_option maxRecDepth 8000 in
theorem tX8_stillAll_l2 {G : Gm} {x0 : Nat} {o : Option Value × Hp} {a : Int32 × Hp} {w : (Int32 × Hp) ⊕ ((Hp))} (h : fX8_stillAll_l2 x0 a = some w) (hc : ∀ (q1 : Int32) (qs : Hp), w = .inl (q1, qs) → R G MX8_stillAll 2 [(0, .ref x0), (1, .int q1)] [] qs o) (he0 : ∀ (qs : Hp), w = .inr qs → R G MX8_stillAll 24 [] [] qs o) : R G MX8_stillAll 2 [(0, .ref x0), (1, .int a.1)] [] a.2 o := by
  unfold fX8_stillAll_l2 at h
  refine R_iload DX8_stillAll_2 1 rfl ?_
  refine R_aload DX8_stillAll_3 0 rfl ?_
  obtain ⟨v1, ev1, h⟩ := bind_some h
  refine R_gR DX8_stillAll_4 fl_RX8_361 ev1 ?_
  obtain ⟨v2, ev2, h⟩ := bind_some h
  refine R_aN DX8_stillAll_7 ev2 ?_
  by_cases c3 : v2 ≤ a.1
  · replace h := if_t h c3
    refine R_icmp_ge_t DX8_stillAll_8 c3 ?_
    refine R.sub (L' := []) [] rfl ?_
    cases h
    exact he0 _ rfl
  · replace h := if_f h c3
    refine R_icmp_ge_f DX8_stillAll_8 c3 ?_
    refine R_aload DX8_stillAll_11 0 rfl ?_
    obtain ⟨v4, ev4, h⟩ := bind_some h
    refine R_gR DX8_stillAll_12 fl_RX8_361 ev4 ?_
    refine R_iload DX8_stillAll_15 1 rfl ?_
    refine R_constI DX8_stillAll_16 ci_0 ?_
    obtain ⟨s5, es5, h⟩ := bind_some h
    refine R_sI DX8_stillAll_17 es5 ?_
    refine R_iinc [(1, .int (a.1 + iI 1)), (0, .ref x0)] DX8_stillAll_18 1 rfl (v := a.1 + iI 1) (by rfl) (by decide) rfl ?_
    refine R_goto DX8_stillAll_21 ?_
    refine R.sub (L' := [(0, .ref x0), (1, .int (a.1 + iI 1))]) [1, 0] rfl ?_
    cases h
    exact hc _ _ rfl
set_option maxRecDepth 8000 in
theorem kX8_stillAll {G : Gm} {x0 : Nat} {s : Hp} {w : Hp} (h : fX8_stillAll x0 s = some w) : Call G MX8_stillAll [.ref x0] s (none, w) := by
  unfold fX8_stillAll at h
  refine Call.of_R pnRX8 (Nat.le_of_ble_eq_true rfl) ?_
  show R G MX8_stillAll 0 [(0, .ref x0)] [] s (none, w)
  refine R_constI DX8_stillAll_0 ci_0 ?_
  refine R_istore [(1, .int (iI 0)), (0, .ref x0)] DX8_stillAll_1 (by decide) rfl ?_
  refine R.sub (L' := [(0, .ref x0), (1, .int (iI 0))]) [1, 0] rfl ?_
  obtain ⟨r6, hi, h⟩ := bind_some h
  have hE : (fun u2 : Hp => R G MX8_stillAll 24 [] [] u2 (none, w)) r6 → ∀ (q1 : Int32) (qs : Hp), iter (fX8_stillAll_l2 x0) FU (q1, qs) = some r6 → R G MX8_stillAll 2 [(0, .ref x0), (1, .int q1)] [] qs (none, w) := fun hX q1 qs hj => loop_R (fX8_stillAll_l2 x0) (fun p2 : Int32 × Hp => R G MX8_stillAll 2 [(0, .ref x0), (1, .int p2.1)] [] p2.2 (none, w)) (fun u2 : Hp => R G MX8_stillAll 24 [] [] u2 (none, w)) (fun a w hw hc he => tX8_stillAll_l2 hw (fun q1 qs e => hc (q1, qs) e) (fun qs e => he qs e)) FU (q1, qs) r6 hj hX
  refine hE ?_ _ _ hi
  clear hE hi
  cases h
  exact R_return rfl DX8_stillAll_24
set_option maxRecDepth 8000 in
theorem tX8_addToAll_l2 {G : Gm} {x0 : Nat} {x1 : Int32} {o : Option Value × Hp} {a : Int32 × Hp} {w : (Int32 × Hp) ⊕ ((Hp))} (h : fX8_addToAll_l2 x0 x1 a = some w) (hc : ∀ (q2 : Int32) (qs : Hp), w = .inl (q2, qs) → R G MX8_addToAll 2 [(0, .ref x0), (1, .int x1), (2, .int q2)] [] qs o) (he0 : ∀ (qs : Hp), w = .inr qs → R G MX8_addToAll 31 [] [] qs o) : R G MX8_addToAll 2 [(0, .ref x0), (1, .int x1), (2, .int a.1)] [] a.2 o := by
  unfold fX8_addToAll_l2 at h
  refine R_iload DX8_addToAll_2 2 rfl ?_
  refine R_aload DX8_addToAll_3 0 rfl ?_
  obtain ⟨v1, ev1, h⟩ := bind_some h
  refine R_gI DX8_addToAll_4 fl_RX8_166 ev1 ?_
  by_cases c2 : v1 ≤ a.1
  · replace h := if_t h c2
    refine R_icmp_ge_t DX8_addToAll_7 c2 ?_
    refine R.sub (L' := []) [] rfl ?_
    cases h
    exact he0 _ rfl
  · replace h := if_f h c2
    refine R_icmp_ge_f DX8_addToAll_7 c2 ?_
    refine R_aload DX8_addToAll_10 0 rfl ?_
    obtain ⟨v3, ev3, h⟩ := bind_some h
    refine R_gR DX8_addToAll_11 fl_RX8_357 ev3 ?_
    refine R_iload DX8_addToAll_14 2 rfl ?_
    refine R_constI DX8_addToAll_15 ci_6 ?_
    refine R_imul DX8_addToAll_17 ?_
    refine R_iload DX8_addToAll_18 1 rfl ?_
    refine R_iadd DX8_addToAll_19 ?_
    refine R_dup2 DX8_addToAll_20 rfl rfl ?_
    obtain ⟨v4, ev4, h⟩ := bind_some h
    refine R_aI DX8_addToAll_21 ev4 ?_
    refine R_constI DX8_addToAll_22 ci_1 ?_
    refine R_iadd DX8_addToAll_23 ?_
    obtain ⟨s5, es5, h⟩ := bind_some h
    refine R_sI DX8_addToAll_24 es5 ?_
    refine R_iinc [(2, .int (a.1 + iI 1)), (0, .ref x0), (1, .int x1)] DX8_addToAll_25 2 rfl (v := a.1 + iI 1) (by rfl) (by decide) rfl ?_
    refine R_goto DX8_addToAll_28 ?_
    refine R.sub (L' := [(0, .ref x0), (1, .int x1), (2, .int (a.1 + iI 1))]) [1, 2, 0] rfl ?_
    cases h
    exact hc _ _ rfl
set_option maxRecDepth 8000 in
theorem kX8_addToAll {G : Gm} {x0 : Nat} {x1 : Int32} {s : Hp} {w : Hp} (h : fX8_addToAll x0 x1 s = some w) : Call G MX8_addToAll [.ref x0, .int x1] s (none, w) := by
  unfold fX8_addToAll at h
  refine Call.of_R pnRX8 (Nat.le_of_ble_eq_true rfl) ?_
  show R G MX8_addToAll 0 [(0, .ref x0), (1, .int x1)] [] s (none, w)
  refine R_constI DX8_addToAll_0 ci_0 ?_
  refine R_istore [(2, .int (iI 0)), (0, .ref x0), (1, .int x1)] DX8_addToAll_1 (by decide) rfl ?_
  refine R.sub (L' := [(0, .ref x0), (1, .int x1), (2, .int (iI 0))]) [1, 2, 0] rfl ?_
  obtain ⟨r6, hi, h⟩ := bind_some h
  have hE : (fun u2 : Hp => R G MX8_addToAll 31 [] [] u2 (none, w)) r6 → ∀ (q2 : Int32) (qs : Hp), iter (fX8_addToAll_l2 x0 x1) FU (q2, qs) = some r6 → R G MX8_addToAll 2 [(0, .ref x0), (1, .int x1), (2, .int q2)] [] qs (none, w) := fun hX q2 qs hj => loop_R (fX8_addToAll_l2 x0 x1) (fun p2 : Int32 × Hp => R G MX8_addToAll 2 [(0, .ref x0), (1, .int x1), (2, .int p2.1)] [] p2.2 (none, w)) (fun u2 : Hp => R G MX8_addToAll 31 [] [] u2 (none, w)) (fun a w hw hc he => tX8_addToAll_l2 hw (fun q2 qs e => hc (q2, qs) e) (fun qs e => he qs e)) FU (q2, qs) r6 hj hX
  refine hE ?_ _ _ hi
  clear hE hi
  cases h
  exact R_return rfl DX8_addToAll_31
set_option maxRecDepth 8000 in
theorem tX8_other_b19 {G : Gm} {s : Hp} {w : Int32 × Hp} (h : fX8_other_b19 s = some w) : R G MX8_other 19 [] [] s (some (.int w.1), w.2) := by
  unfold fX8_other_b19 at h
  refine R_ldcwI DX8_other_19 cw_RX8_328 ci_m1000000 ?_
  cases h
  exact R_ireturn rfl DX8_other_22
set_option maxRecDepth 8000 in
theorem tX8_other_b108 {G : Gm} {x0 : Nat} {s : Hp} {w : Int32 × Hp} (h : fX8_other_b108 x0 s = some w) : R G MX8_other 108 [(0, .ref x0)] [] s (some (.int w.1), w.2) := by
  unfold fX8_other_b108 at h
  refine R_aload DX8_other_108 0 rfl ?_
  obtain ⟨v14, ev14, h⟩ := bind_some h
  refine R_gR DX8_other_109 fl_RX8_27 ev14 ?_
  refine R_aload DX8_other_112 0 rfl ?_
  obtain ⟨v15, ev15, h⟩ := bind_some h
  refine R_gR DX8_other_113 fl_RX8_51 ev15 ?_
  refine R_constI DX8_other_116 ci_0 ?_
  refine R_constI DX8_other_117 ci_0 ?_
  obtain ⟨s16, es16, h⟩ := bind_some h
  refine R_cV0 [.ref v15, .int (iI 0), .int (iI 0)] DX8_other_118 kzvX7_begin ml_RX8_350 ⟨Nat.le_of_ble_eq_true rfl, Nat.le_of_ble_eq_true rfl⟩ rfl (Nat.le_of_ble_eq_true rfl) (kX7_begin es16) ?_
  refine R_aload DX8_other_121 0 rfl ?_
  obtain ⟨v17, ev17, h⟩ := bind_some h
  refine R_gR DX8_other_122 fl_RX8_27 ev17 ?_
  refine R_constI DX8_other_125 ci_0 ?_
  obtain ⟨s18, es18, h⟩ := bind_some h
  refine R_cV0 [.int (iI 0)] DX8_other_126 kzvX7_flyFrom ml_RX8_354 ⟨Nat.le_of_ble_eq_true rfl, Nat.le_of_ble_eq_true rfl⟩ rfl (Nat.le_of_ble_eq_true rfl) (kX7_flyFrom es18) ?_
  refine R_aload DX8_other_129 0 rfl ?_
  obtain ⟨v19, ev19, h⟩ := bind_some h
  refine R_gR DX8_other_130 fl_RX8_27 ev19 ?_
  obtain ⟨r20, er20, h⟩ := bind_some h
  refine R_cV1 [] DX8_other_133 kzvX7_moneyOfAll ml_RX8_162 ⟨Nat.le_of_ble_eq_true rfl, Nat.le_of_ble_eq_true rfl⟩ rfl (Nat.le_of_ble_eq_true rfl) (kX7_moneyOfAll er20) ?_
  refine R_aload DX8_other_136 0 rfl ?_
  obtain ⟨r21, er21, h⟩ := bind_some h
  refine R_cV1 [] DX8_other_137 kzvX8_flown ml_RX8_108 ⟨Nat.le_of_ble_eq_true rfl, Nat.le_of_ble_eq_true rfl⟩ rfl (Nat.le_of_ble_eq_true rfl) (kX8_flown er21) ?_
  obtain ⟨r22, er22, h⟩ := bind_some h
  refine R_cV1 [] DX8_other_140 kzvX7_moneyOfAll ml_RX8_162 ⟨Nat.le_of_ble_eq_true rfl, Nat.le_of_ble_eq_true rfl⟩ rfl (Nat.le_of_ble_eq_true rfl) (kX7_moneyOfAll er22) ?_
  refine R_isub DX8_other_143 ?_
  cases h
  exact R_ireturn rfl DX8_other_144
set_option maxRecDepth 8000 in
theorem kX8_other {G : Gm} {x0 : Nat} {x1 : Int32} {s : Hp} {w : Int32 × Hp} (h : fX8_other x0 x1 s = some w) : (s.2.2 x0).1 = 8 ∧ Call G MX8_other [.ref x0, .int x1] s (some (.int w.1), w.2) := by
  unfold fX8_other at h
  obtain ⟨_, e0, h⟩ := bind_some h
  refine ⟨ck_some e0, Call.of_R pnRX8 (Nat.le_of_ble_eq_true rfl) ?_⟩
  clear e0
  show R G MX8_other 0 [(0, .ref x0), (1, .int x1)] [] s (some (.int w.1), w.2)
  refine R_aload DX8_other_0 0 rfl ?_
  obtain ⟨v1, ev1, h⟩ := bind_some h
  refine R_gR DX8_other_1 fl_RX8_47 ev1 ?_
  obtain ⟨r2, er2, h⟩ := bind_some h
  refine R_cV1 [] DX8_other_4 kzvX6_stands ml_RX8_140 ⟨Nat.le_of_ble_eq_true rfl, Nat.le_of_ble_eq_true rfl⟩ rfl (Nat.le_of_ble_eq_true rfl) (kX6_stands er2) ?_
  by_cases c3 : r2.1 = 0
  · replace h := if_t h c3
    refine R_if_eq_t DX8_other_7 c3 ?_
    refine R.sub (L' := []) [] rfl ?_
    exact tX8_other_b19 h
  · replace h := if_f h c3
    refine R_if_eq_f DX8_other_7 c3 ?_
    refine R_iload DX8_other_10 1 rfl ?_
    by_cases c4 : x1 < 0
    · replace h := if_t h c4
      refine R_if_lt_t DX8_other_11 c4 ?_
      refine R.sub (L' := []) [] rfl ?_
      exact tX8_other_b19 h
    · replace h := if_f h c4
      refine R_if_lt_f DX8_other_11 c4 ?_
      refine R_iload DX8_other_14 1 rfl ?_
      refine R_constI DX8_other_15 ci_4 ?_
      by_cases c5 : x1 ≤ (iI 4)
      · replace h := if_t h c5
        refine R_icmp_le_t DX8_other_16 c5 ?_
        refine R_aload DX8_other_23 0 rfl ?_
        obtain ⟨v6, ev6, h⟩ := bind_some h
        refine R_gR DX8_other_24 fl_RX8_51 ev6 ?_
        refine R_aload DX8_other_27 0 rfl ?_
        obtain ⟨v7, ev7, h⟩ := bind_some h
        refine R_gR DX8_other_28 fl_RX8_47 ev7 ?_
        obtain ⟨s8, es8, h⟩ := bind_some h
        refine R_cV0 [.ref v7] DX8_other_31 kzvX6_copyFrom ml_RX8_329 ⟨Nat.le_of_ble_eq_true rfl, Nat.le_of_ble_eq_true rfl⟩ rfl (Nat.le_of_ble_eq_true rfl) (kX6_copyFrom es8) ?_
        refine R_iload DX8_other_34 1 rfl ?_
        by_cases c9 : x1 = 0
        · replace h := if_t h c9
          refine R_if_ne_f DX8_other_35 c9 ?_
          refine R_aload DX8_other_38 0 rfl ?_
          obtain ⟨v31, ev31, h⟩ := bind_some h
          refine R_gR DX8_other_39 fl_RX8_51 ev31 ?_
          refine R_constI DX8_other_42 ci_0 ?_
          obtain ⟨s32, es32, h⟩ := bind_some h
          refine R_pI DX8_other_43 fl_RX8_337 es32 ?_
          refine R_goto DX8_other_46 ?_
          refine R.sub (L' := [(0, .ref x0)]) [0] rfl ?_
          exact tX8_other_b108 h
        · replace h := if_f h c9
          refine R_if_ne_t DX8_other_35 c9 ?_
          refine R_iload DX8_other_49 1 rfl ?_
          refine R_constI DX8_other_50 ci_1 ?_
          by_cases c10 : x1 = (iI 1)
          · replace h := if_t h c10
            refine R_icmp_ne_f DX8_other_51 c10 ?_
            refine R_aload DX8_other_54 0 rfl ?_
            obtain ⟨v29, ev29, h⟩ := bind_some h
            refine R_gR DX8_other_55 fl_RX8_51 ev29 ?_
            obtain ⟨s30, es30, h⟩ := bind_some h
            refine R_cS0 [.ref v29] DX8_other_58 kzsX8_stillAll ml_RX8_340 ⟨Nat.le_of_ble_eq_true rfl, Nat.le_of_ble_eq_true rfl⟩ rfl (Nat.le_of_ble_eq_true rfl) (kX8_stillAll es30) ?_
            refine R_goto DX8_other_61 ?_
            refine R.sub (L' := [(0, .ref x0)]) [0] rfl ?_
            exact tX8_other_b108 h
          · replace h := if_f h c10
            refine R_icmp_ne_t DX8_other_51 c10 ?_
            refine R_iload DX8_other_64 1 rfl ?_
            refine R_constI DX8_other_65 ci_2 ?_
            by_cases c11 : x1 = (iI 2)
            · replace h := if_t h c11
              refine R_icmp_ne_f DX8_other_66 c11 ?_
              refine R_aload DX8_other_69 0 rfl ?_
              obtain ⟨v23, ev23, h⟩ := bind_some h
              refine R_gR DX8_other_70 fl_RX8_51 ev23 ?_
              refine R_aload DX8_other_73 0 rfl ?_
              obtain ⟨v24, ev24, h⟩ := bind_some h
              refine R_gR DX8_other_74 fl_RX8_47 ev24 ?_
              obtain ⟨v25, ev25, h⟩ := bind_some h
              refine R_gI DX8_other_77 fl_RX8_322 ev25 ?_
              refine R_constI DX8_other_80 ci_1 ?_
              refine R_iadd DX8_other_81 ?_
              refine R_aload DX8_other_82 0 rfl ?_
              obtain ⟨v26, ev26, h⟩ := bind_some h
              refine R_gR DX8_other_83 fl_RX8_47 ev26 ?_
              obtain ⟨v27, ev27, h⟩ := bind_some h
              refine R_gI DX8_other_86 fl_RX8_218 ev27 ?_
              refine R_constI DX8_other_89 ci_1 ?_
              refine R_isub DX8_other_90 ?_
              refine R_mmin DX8_other_91 mw_RX8_343 ⟨Nat.le_of_ble_eq_true rfl, Nat.le_of_ble_eq_true rfl⟩ ?_
              obtain ⟨s28, es28, h⟩ := bind_some h
              refine R_pI DX8_other_94 fl_RX8_322 es28 ?_
              refine R_goto DX8_other_97 ?_
              refine R.sub (L' := [(0, .ref x0)]) [0] rfl ?_
              exact tX8_other_b108 h
            · replace h := if_f h c11
              refine R_icmp_ne_t DX8_other_66 c11 ?_
              refine R_aload DX8_other_100 0 rfl ?_
              obtain ⟨v12, ev12, h⟩ := bind_some h
              refine R_gR DX8_other_101 fl_RX8_51 ev12 ?_
              refine R_iload DX8_other_104 1 rfl ?_
              obtain ⟨s13, es13, h⟩ := bind_some h
              refine R_cS0 [.ref v12, .int x1] DX8_other_105 kzsX8_addToAll ml_RX8_346 ⟨Nat.le_of_ble_eq_true rfl, Nat.le_of_ble_eq_true rfl⟩ rfl (Nat.le_of_ble_eq_true rfl) (kX8_addToAll es13) ?_
              refine R.sub (L' := [(0, .ref x0)]) [0] rfl ?_
              exact tX8_other_b108 h
      · replace h := if_f h c5
        refine R_icmp_le_f DX8_other_16 c5 ?_
        refine R.sub (L' := []) [] rfl ?_
        exact tX8_other_b19 h
set_option maxRecDepth 8000 in
theorem tX8_load_b28 {G : Gm} {s : Hp} {w : Int32 × Hp} (h : fX8_load_b28 s = some w) : R G MX8_load 28 [] [] s (some (.int w.1), w.2) := by
  unfold fX8_load_b28 at h
  refine R_constI DX8_load_28 ci_m2 ?_
  cases h
  exact R_ireturn rfl DX8_load_30
set_option maxRecDepth 8000 in
theorem kX8_load {G : Gm} {x0 : Nat} {x1 : Int32} {x2 : Int32} {x3 : Int32} {s : Hp} {w : Int32 × Hp} (h : fX8_load x0 x1 x2 x3 s = some w) : (s.2.2 x0).1 = 8 ∧ Call G MX8_load [.ref x0, .int x1, .int x2, .int x3] s (some (.int w.1), w.2) := by
  unfold fX8_load at h
  obtain ⟨_, e0, h⟩ := bind_some h
  refine ⟨ck_some e0, Call.of_R pnRX8 (Nat.le_of_ble_eq_true rfl) ?_⟩
  clear e0
  show R G MX8_load 0 [(0, .ref x0), (1, .int x1), (2, .int x2), (3, .int x3)] [] s (some (.int w.1), w.2)
  refine R_aload DX8_load_0 0 rfl ?_
  obtain ⟨v1, ev1, h⟩ := bind_some h
  refine R_gR DX8_load_1 fl_RX8_47 ev1 ?_
  refine R_iload DX8_load_4 1 rfl ?_
  obtain ⟨r2, er2, h⟩ := bind_some h
  refine R_cV1 [.int x1] DX8_load_5 kzvX6_hasShop ml_RX8_99 ⟨Nat.le_of_ble_eq_true rfl, Nat.le_of_ble_eq_true rfl⟩ rfl (Nat.le_of_ble_eq_true rfl) (kX6_hasShop er2) ?_
  by_cases c3 : r2.1 = 0
  · replace h := if_t h c3
    refine R_if_eq_t DX8_load_8 c3 ?_
    refine R.sub (L' := []) [] rfl ?_
    exact tX8_load_b28 h
  · replace h := if_f h c3
    refine R_if_eq_f DX8_load_8 c3 ?_
    refine R_iload DX8_load_11 2 rfl ?_
    refine R_constI DX8_load_12 ci_3 ?_
    by_cases c4 : x2 < (iI 3)
    · replace h := if_t h c4
      refine R_icmp_lt_t DX8_load_13 c4 ?_
      refine R.sub (L' := []) [] rfl ?_
      exact tX8_load_b28 h
    · replace h := if_f h c4
      refine R_icmp_lt_f DX8_load_13 c4 ?_
      refine R_iload DX8_load_16 2 rfl ?_
      refine R_constI DX8_load_17 ci_5 ?_
      by_cases c5 : (iI 5) < x2
      · replace h := if_t h c5
        refine R_icmp_gt_t DX8_load_18 c5 ?_
        refine R.sub (L' := []) [] rfl ?_
        exact tX8_load_b28 h
      · replace h := if_f h c5
        refine R_icmp_gt_f DX8_load_18 c5 ?_
        refine R_iload DX8_load_21 3 rfl ?_
        obtain ⟨r6, er6, h⟩ := bind_some h
        refine R_cS1 [.int x3] DX8_load_22 kzsX8_isStock ml_RX8_249 ⟨Nat.le_of_ble_eq_true rfl, Nat.le_of_ble_eq_true rfl⟩ rfl (Nat.le_of_ble_eq_true rfl) (kX8_isStock er6) ?_
        by_cases c7 : r6.1 = 0
        · replace h := if_t h c7
          refine R_if_ne_f DX8_load_25 c7 ?_
          refine R.sub (L' := []) [] rfl ?_
          exact tX8_load_b28 h
        · replace h := if_f h c7
          refine R_if_ne_t DX8_load_25 c7 ?_
          refine R_aload DX8_load_31 0 rfl ?_
          obtain ⟨v8, ev8, h⟩ := bind_some h
          refine R_gR DX8_load_32 fl_RX8_47 ev8 ?_
          refine R_iload DX8_load_35 1 rfl ?_
          refine R_iload DX8_load_36 2 rfl ?_
          obtain ⟨r9, er9, h⟩ := bind_some h
          refine R_cV1 [.int x1, .int x2] DX8_load_37 kzvX6_shopFact ml_RX8_102 ⟨Nat.le_of_ble_eq_true rfl, Nat.le_of_ble_eq_true rfl⟩ rfl (Nat.le_of_ble_eq_true rfl) (kX6_shopFact er9) ?_
          refine R_istore [(4, .int r9.1), (0, .ref x0), (1, .int x1), (2, .int x2), (3, .int x3)] DX8_load_40 (by decide) rfl ?_
          refine R_aload DX8_load_42 1 rfl ?_
          obtain ⟨v10, ev10, h⟩ := bind_some h
          refine R_gR DX8_load_43 fl_RX8_47 ev10 ?_
          obtain ⟨v11, ev11, h⟩ := bind_some h
          refine R_gR DX8_load_46 fl_RX8_357 ev11 ?_
          refine R_iload DX8_load_49 2 rfl ?_
          refine R_constI DX8_load_50 ci_6 ?_
          refine R_imul DX8_load_52 ?_
          refine R_iload DX8_load_53 3 rfl ?_
          refine R_iadd DX8_load_54 ?_
          refine R_iload DX8_load_55 4 rfl ?_
          obtain ⟨s12, es12, h⟩ := bind_some h
          refine R_sI DX8_load_56 es12 ?_
          refine R_aload DX8_load_57 1 rfl ?_
          obtain ⟨s13, es13, h⟩ := bind_some h
          refine R_cV0 [] DX8_load_58 kzvX8_forgetAll ml_RX8_70 ⟨Nat.le_of_ble_eq_true rfl, Nat.le_of_ble_eq_true rfl⟩ rfl (Nat.le_of_ble_eq_true rfl) (kX8_forgetAll es13) ?_
          refine R_iload DX8_load_61 0 rfl ?_
          cases h
          exact R_ireturn rfl DX8_load_63
set_option maxRecDepth 8000 in
theorem tX8_turn_b34 {G : Gm} {s : Hp} {w : Int32 × Hp} (h : fX8_turn_b34 s = some w) : R G MX8_turn 34 [] [] s (some (.int w.1), w.2) := by
  unfold fX8_turn_b34 at h
  refine R_constI DX8_turn_34 ci_m2 ?_
  cases h
  exact R_ireturn rfl DX8_turn_36
set_option maxRecDepth 8000 in
theorem kX8_turn {G : Gm} {x0 : Nat} {x1 : Int32} {x2 : Int32} {x3 : Int32} {s : Hp} {w : Int32 × Hp} (h : fX8_turn x0 x1 x2 x3 s = some w) : (s.2.2 x0).1 = 8 ∧ Call G MX8_turn [.ref x0, .int x1, .int x2, .int x3] s (some (.int w.1), w.2) := by
  unfold fX8_turn at h
  obtain ⟨_, e0, h⟩ := bind_some h
  refine ⟨ck_some e0, Call.of_R pnRX8 (Nat.le_of_ble_eq_true rfl) ?_⟩
  clear e0
  show R G MX8_turn 0 [(0, .ref x0), (1, .int x1), (2, .int x2), (3, .int x3)] [] s (some (.int w.1), w.2)
  refine R_iload DX8_turn_0 1 rfl ?_
  refine R_constI DX8_turn_1 ci_1 ?_
  by_cases c1 : x1 < (iI 1)
  · replace h := if_t h c1
    refine R_icmp_lt_t DX8_turn_2 c1 ?_
    refine R.sub (L' := []) [] rfl ?_
    exact tX8_turn_b34 h
  · replace h := if_f h c1
    refine R_icmp_lt_f DX8_turn_2 c1 ?_
    refine R_aload DX8_turn_5 0 rfl ?_
    obtain ⟨v2, ev2, h⟩ := bind_some h
    refine R_gR DX8_turn_6 fl_RX8_47 ev2 ?_
    refine R_iload DX8_turn_9 1 rfl ?_
    obtain ⟨r3, er3, h⟩ := bind_some h
    refine R_cV1 [.int x1] DX8_turn_10 kzvX6_hasLayer ml_RX8_82 ⟨Nat.le_of_ble_eq_true rfl, Nat.le_of_ble_eq_true rfl⟩ rfl (Nat.le_of_ble_eq_true rfl) (kX6_hasLayer er3) ?_
    by_cases c4 : r3.1 = 0
    · replace h := if_t h c4
      refine R_if_eq_t DX8_turn_13 c4 ?_
      refine R.sub (L' := []) [] rfl ?_
      exact tX8_turn_b34 h
    · replace h := if_f h c4
      refine R_if_eq_f DX8_turn_13 c4 ?_
      refine R_aload DX8_turn_16 0 rfl ?_
      obtain ⟨v5, ev5, h⟩ := bind_some h
      refine R_gR DX8_turn_17 fl_RX8_47 ev5 ?_
      refine R_iload DX8_turn_20 2 rfl ?_
      obtain ⟨r6, er6, h⟩ := bind_some h
      refine R_cV1 [.int x2] DX8_turn_21 kzvX6_hasHour ml_RX8_86 ⟨Nat.le_of_ble_eq_true rfl, Nat.le_of_ble_eq_true rfl⟩ rfl (Nat.le_of_ble_eq_true rfl) (kX6_hasHour er6) ?_
      by_cases c7 : r6.1 = 0
      · replace h := if_t h c7
        refine R_if_eq_t DX8_turn_24 c7 ?_
        refine R.sub (L' := []) [] rfl ?_
        exact tX8_turn_b34 h
      · replace h := if_f h c7
        refine R_if_eq_f DX8_turn_24 c7 ?_
        refine R_iload DX8_turn_27 3 rfl ?_
        obtain ⟨r8, er8, h⟩ := bind_some h
        refine R_cS1 [.int x3] DX8_turn_28 kzsX8_isWind ml_RX8_93 ⟨Nat.le_of_ble_eq_true rfl, Nat.le_of_ble_eq_true rfl⟩ rfl (Nat.le_of_ble_eq_true rfl) (kX8_isWind er8) ?_
        by_cases c9 : r8.1 = 0
        · replace h := if_t h c9
          refine R_if_ne_f DX8_turn_31 c9 ?_
          refine R.sub (L' := []) [] rfl ?_
          exact tX8_turn_b34 h
        · replace h := if_f h c9
          refine R_if_ne_t DX8_turn_31 c9 ?_
          refine R_aload DX8_turn_37 0 rfl ?_
          obtain ⟨v10, ev10, h⟩ := bind_some h
          refine R_gR DX8_turn_38 fl_RX8_47 ev10 ?_
          refine R_iload DX8_turn_41 1 rfl ?_
          refine R_iload DX8_turn_42 2 rfl ?_
          obtain ⟨r11, er11, h⟩ := bind_some h
          refine R_cV1 [.int x1, .int x2] DX8_turn_43 kzvX6_windAt ml_RX8_89 ⟨Nat.le_of_ble_eq_true rfl, Nat.le_of_ble_eq_true rfl⟩ rfl (Nat.le_of_ble_eq_true rfl) (kX6_windAt er11) ?_
          refine R_istore [(4, .int r11.1), (0, .ref x0), (1, .int x1), (2, .int x2), (3, .int x3)] DX8_turn_46 (by decide) rfl ?_
          refine R_aload DX8_turn_48 1 rfl ?_
          obtain ⟨v12, ev12, h⟩ := bind_some h
          refine R_gR DX8_turn_49 fl_RX8_47 ev12 ?_
          obtain ⟨v13, ev13, h⟩ := bind_some h
          refine R_gR DX8_turn_52 fl_RX8_361 ev13 ?_
          refine R_iload DX8_turn_55 2 rfl ?_
          refine R_constI DX8_turn_56 ci_24 ?_
          refine R_imul DX8_turn_58 ?_
          refine R_iload DX8_turn_59 3 rfl ?_
          refine R_iadd DX8_turn_60 ?_
          refine R_iload DX8_turn_61 4 rfl ?_
          obtain ⟨s14, es14, h⟩ := bind_some h
          refine R_sI DX8_turn_62 es14 ?_
          refine R_aload DX8_turn_63 1 rfl ?_
          obtain ⟨s15, es15, h⟩ := bind_some h
          refine R_cV0 [] DX8_turn_64 kzvX8_forgetAll ml_RX8_70 ⟨Nat.le_of_ble_eq_true rfl, Nat.le_of_ble_eq_true rfl⟩ rfl (Nat.le_of_ble_eq_true rfl) (kX8_forgetAll es15) ?_
          refine R_iload DX8_turn_67 0 rfl ?_
          cases h
          exact R_ireturn rfl DX8_turn_69
set_option maxRecDepth 8000 in
theorem tX8_isDraw_b25 {G : Gm} {s : Hp} {w : Int32 × Hp} (h : fX8_isDraw_b25 s = some w) : R G MX8_isDraw 25 [] [] s (some (.int w.1), w.2) := by
  unfold fX8_isDraw_b25 at h
  refine R_constI DX8_isDraw_25 ci_0 ?_
  cases h
  exact R_zreturn rfl DX8_isDraw_26 (by decide)
set_option maxRecDepth 8000 in
theorem kX8_isDraw {G : Gm} {x0 : Int32} {x1 : Int32} {s : Hp} {w : Int32 × Hp} (h : fX8_isDraw x0 x1 s = some w) : Call G MX8_isDraw [.int x0, .int x1] s (some (.int w.1), w.2) := by
  unfold fX8_isDraw at h
  refine Call.of_R pnRX8 (Nat.le_of_ble_eq_true rfl) ?_
  show R G MX8_isDraw 0 [(0, .int x0), (1, .int x1)] [] s (some (.int w.1), w.2)
  refine R_iload DX8_isDraw_0 0 rfl ?_
  by_cases c1 : x0 < 0
  · replace h := if_t h c1
    refine R_if_lt_t DX8_isDraw_1 c1 ?_
    refine R.sub (L' := []) [] rfl ?_
    exact tX8_isDraw_b25 h
  · replace h := if_f h c1
    refine R_if_lt_f DX8_isDraw_1 c1 ?_
    refine R_iload DX8_isDraw_4 0 rfl ?_
    refine R_ldcwI DX8_isDraw_5 cw_RX8_436 ci_2000000000 ?_
    by_cases c2 : (iI 2000000000) < x0
    · replace h := if_t h c2
      refine R_icmp_gt_t DX8_isDraw_8 c2 ?_
      refine R.sub (L' := []) [] rfl ?_
      exact tX8_isDraw_b25 h
    · replace h := if_f h c2
      refine R_icmp_gt_f DX8_isDraw_8 c2 ?_
      refine R_iload DX8_isDraw_11 1 rfl ?_
      by_cases c3 : x1 < 0
      · replace h := if_t h c3
        refine R_if_lt_t DX8_isDraw_12 c3 ?_
        refine R.sub (L' := []) [] rfl ?_
        exact tX8_isDraw_b25 h
      · replace h := if_f h c3
        refine R_if_lt_f DX8_isDraw_12 c3 ?_
        refine R_iload DX8_isDraw_15 1 rfl ?_
        refine R_constI DX8_isDraw_16 ci_100 ?_
        by_cases c4 : (iI 100) < x1
        · replace h := if_t h c4
          refine R_icmp_gt_t DX8_isDraw_18 c4 ?_
          refine R.sub (L' := []) [] rfl ?_
          exact tX8_isDraw_b25 h
        · replace h := if_f h c4
          refine R_icmp_gt_f DX8_isDraw_18 c4 ?_
          refine R_constI DX8_isDraw_21 ci_1 ?_
          refine R_goto DX8_isDraw_22 ?_
          cases h
          exact R_zreturn rfl DX8_isDraw_26 (by decide)
set_option maxRecDepth 8000 in
theorem tX8_gust_b18 {G : Gm} {s : Hp} {w : Int32 × Hp} (h : fX8_gust_b18 s = some w) : R G MX8_gust 18 [] [] s (some (.int w.1), w.2) := by
  unfold fX8_gust_b18 at h
  refine R_constI DX8_gust_18 ci_m2 ?_
  cases h
  exact R_ireturn rfl DX8_gust_20
set_option maxRecDepth 8000 in
theorem kX8_gust {G : Gm} {x0 : Nat} {x1 : Int32} {x2 : Int32} {x3 : Int32} {x4 : Int32} {s : Hp} {w : Int32 × Hp} (h : fX8_gust x0 x1 x2 x3 x4 s = some w) : (s.2.2 x0).1 = 8 ∧ Call G MX8_gust [.ref x0, .int x1, .int x2, .int x3, .int x4] s (some (.int w.1), w.2) := by
  unfold fX8_gust at h
  obtain ⟨_, e0, h⟩ := bind_some h
  refine ⟨ck_some e0, Call.of_R pnRX8 (Nat.le_of_ble_eq_true rfl) ?_⟩
  clear e0
  show R G MX8_gust 0 [(0, .ref x0), (1, .int x1), (2, .int x2), (3, .int x3), (4, .int x4)] [] s (some (.int w.1), w.2)
  refine R_iload DX8_gust_0 1 rfl ?_
  refine R_iload DX8_gust_1 2 rfl ?_
  obtain ⟨r1, er1, h⟩ := bind_some h
  refine R_cS1 [.int x1, .int x2] DX8_gust_2 kzsX8_isDraw ml_RX8_364 ⟨Nat.le_of_ble_eq_true rfl, Nat.le_of_ble_eq_true rfl⟩ rfl (Nat.le_of_ble_eq_true rfl) (kX8_isDraw er1) ?_
  by_cases c2 : r1.1 = 0
  · replace h := if_t h c2
    refine R_if_eq_t DX8_gust_5 c2 ?_
    refine R.sub (L' := []) [] rfl ?_
    exact tX8_gust_b18 h
  · replace h := if_f h c2
    refine R_if_eq_f DX8_gust_5 c2 ?_
    refine R_aload DX8_gust_8 0 rfl ?_
    refine R_iload DX8_gust_9 3 rfl ?_
    refine R_iload DX8_gust_10 4 rfl ?_
    obtain ⟨r3, er3, h⟩ := bind_some h
    refine R_cV1 [.int x3, .int x4] DX8_gust_12 kzvX8_hasShopHour ml_RX8_119 ⟨Nat.le_of_ble_eq_true rfl, Nat.le_of_ble_eq_true rfl⟩ rfl (Nat.le_of_ble_eq_true rfl) (kX8_hasShopHour er3) ?_
    by_cases c4 : r3.1 = 0
    · replace h := if_t h c4
      refine R_if_ne_f DX8_gust_15 c4 ?_
      refine R.sub (L' := []) [] rfl ?_
      exact tX8_gust_b18 h
    · replace h := if_f h c4
      refine R_if_ne_t DX8_gust_15 c4 ?_
      refine R_aload DX8_gust_21 0 rfl ?_
      obtain ⟨v5, ev5, h⟩ := bind_some h
      refine R_gR DX8_gust_22 fl_RX8_27 ev5 ?_
      refine R_aload DX8_gust_25 0 rfl ?_
      obtain ⟨v6, ev6, h⟩ := bind_some h
      refine R_gR DX8_gust_26 fl_RX8_47 ev6 ?_
      refine R_iload DX8_gust_29 1 rfl ?_
      refine R_iload DX8_gust_30 2 rfl ?_
      obtain ⟨s7, es7, h⟩ := bind_some h
      refine R_cV0 [.ref v6, .int x1, .int x2] DX8_gust_31 kzvX7_begin ml_RX8_350 ⟨Nat.le_of_ble_eq_true rfl, Nat.le_of_ble_eq_true rfl⟩ rfl (Nat.le_of_ble_eq_true rfl) (kX7_begin es7) ?_
      refine R_aload DX8_gust_34 0 rfl ?_
      obtain ⟨v8, ev8, h⟩ := bind_some h
      refine R_gR DX8_gust_35 fl_RX8_27 ev8 ?_
      refine R_constI DX8_gust_38 ci_0 ?_
      obtain ⟨s9, es9, h⟩ := bind_some h
      refine R_cV0 [.int (iI 0)] DX8_gust_39 kzvX7_flyFrom ml_RX8_354 ⟨Nat.le_of_ble_eq_true rfl, Nat.le_of_ble_eq_true rfl⟩ rfl (Nat.le_of_ble_eq_true rfl) (kX7_flyFrom es9) ?_
      refine R_aload DX8_gust_42 0 rfl ?_
      obtain ⟨v10, ev10, h⟩ := bind_some h
      refine R_gR DX8_gust_43 fl_RX8_27 ev10 ?_
      refine R_iload DX8_gust_46 3 rfl ?_
      refine R_iload DX8_gust_47 4 rfl ?_
      refine R_constI DX8_gust_49 ci_0 ?_
      obtain ⟨r11, er11, h⟩ := bind_some h
      refine R_cV1 [.int x3, .int x4, .int (iI 0)] DX8_gust_50 kzvX7_factBehind ml_RX8_150 ⟨Nat.le_of_ble_eq_true rfl, Nat.le_of_ble_eq_true rfl⟩ rfl (Nat.le_of_ble_eq_true rfl) (kX7_factBehind er11) ?_
      refine R_istore [(5, .int r11.1), (0, .ref x0), (1, .int x1), (2, .int x2), (3, .int x3), (4, .int x4)] DX8_gust_53 (by decide) rfl ?_
      refine R_aload DX8_gust_55 1 rfl ?_
      obtain ⟨v12, ev12, h⟩ := bind_some h
      refine R_gR DX8_gust_56 fl_RX8_27 ev12 ?_
      refine R_iload DX8_gust_59 4 rfl ?_
      refine R_iload DX8_gust_60 5 rfl ?_
      refine R_constI DX8_gust_62 ci_1 ?_
      obtain ⟨r13, er13, h⟩ := bind_some h
      refine R_cV1 [.int x3, .int x4, .int (iI 1)] DX8_gust_63 kzvX7_factBehind ml_RX8_150 ⟨Nat.le_of_ble_eq_true rfl, Nat.le_of_ble_eq_true rfl⟩ rfl (Nat.le_of_ble_eq_true rfl) (kX7_factBehind er13) ?_
      refine R_istore [(6, .int r13.1), (5, .int r11.1), (0, .ref x0), (1, .int x1), (2, .int x2), (3, .int x3), (4, .int x4)] DX8_gust_66 (by decide) rfl ?_
      refine R_constI DX8_gust_68 ci_100 ?_
      refine R_iload DX8_gust_70 1 rfl ?_
      refine R_imul DX8_gust_72 ?_
      refine R_constI DX8_gust_73 ci_10 ?_
      refine R_iload DX8_gust_75 0 rfl ?_
      refine R_imul DX8_gust_77 ?_
      refine R_iadd DX8_gust_78 ?_
      refine R_aload DX8_gust_79 2 rfl ?_
      obtain ⟨v14, ev14, h⟩ := bind_some h
      refine R_gR DX8_gust_80 fl_RX8_27 ev14 ?_
      refine R_iload DX8_gust_83 5 rfl ?_
      refine R_iload DX8_gust_84 6 rfl ?_
      refine R_constI DX8_gust_86 ci_2 ?_
      obtain ⟨r15, er15, h⟩ := bind_some h
      refine R_cV1 [.int x3, .int x4, .int (iI 2)] DX8_gust_87 kzvX7_factBehind ml_RX8_150 ⟨Nat.le_of_ble_eq_true rfl, Nat.le_of_ble_eq_true rfl⟩ rfl (Nat.le_of_ble_eq_true rfl) (kX7_factBehind er15) ?_
      refine R_iadd DX8_gust_90 ?_
      cases h
      exact R_ireturn rfl DX8_gust_91
set_option maxRecDepth 8000 in
theorem tX8_chance_b57 {G : Gm} {s : Hp} {w : Int32 × Hp} (h : fX8_chance_b57 s = some w) : R G MX8_chance 57 [] [] s (some (.int w.1), w.2) := by
  unfold fX8_chance_b57 at h
  refine R_constI DX8_chance_57 ci_m2 ?_
  cases h
  exact R_ireturn rfl DX8_chance_59
set_option maxRecDepth 8000 in
theorem tX8_chance_b122 {G : Gm} {x0 : Nat} {x1 : Int32} {x2 : Int32} {x3 : Int32} {x4 : Int32} {x5 : Int32} {x6 : Int32} {x9 : Int32} {y0 : Int32} {y1 : Int32} {s : Hp} {o : Option Value × Hp} {w : (Int32 × Int32 × Hp) ⊕ ((Int32 × Hp))} (h : fX8_chance_b122 x0 x1 x2 x3 x4 x5 x6 x9 y0 y1 s = some w) (hc : ∀ (q8 : Int32) (q9 : Int32) (qs : Hp), w = .inl (q8, q9, qs) → R G MX8_chance 66 [(0, .ref x0), (1, .int x1), (2, .int x2), (3, .int x3), (4, .int x4), (5, .int x5), (6, .int x6), (8, .int q8), (9, .int q9)] [] qs o) (he0 : ∀ (q8 : Int32) (qs : Hp), w = .inr (q8, qs) → R G MX8_chance 131 [(8, .int q8)] [] qs o) : R G MX8_chance 122 [(0, .ref x0), (1, .int x1), (2, .int x2), (3, .int x3), (4, .int x4), (5, .int x5), (6, .int x6), (9, .int x9)] [.int y1, .int y0] s o := by
  unfold fX8_chance_b122 at h
  refine R_iadd DX8_chance_122 ?_
  obtain ⟨z20, ez20, h⟩ := lt_some h
  refine R_istoreE ez20 [(8, .int z20), (0, .ref x0), (1, .int x1), (2, .int x2), (3, .int x3), (4, .int x4), (5, .int x5), (6, .int x6), (9, .int x9)] DX8_chance_123 (by decide) rfl ?_
  refine R_iinc [(9, .int (x9 + iI 1)), (8, .int z20), (0, .ref x0), (1, .int x1), (2, .int x2), (3, .int x3), (4, .int x4), (5, .int x5), (6, .int x6)] DX8_chance_125 8 rfl (v := x9 + iI 1) (by rfl) (by decide) rfl ?_
  refine R_goto DX8_chance_128 ?_
  refine R.sub (L' := [(0, .ref x0), (1, .int x1), (2, .int x2), (3, .int x3), (4, .int x4), (5, .int x5), (6, .int x6), (8, .int z20), (9, .int (x9 + iI 1))]) [2, 3, 4, 5, 6, 7, 8, 1, 0] rfl ?_
  cases h
  exact hc _ _ _ rfl
set_option maxRecDepth 8000 in
theorem tX8_chance_l66 {G : Gm} {x0 : Nat} {x1 : Int32} {x2 : Int32} {x3 : Int32} {x4 : Int32} {x5 : Int32} {x6 : Int32} {o : Option Value × Hp} {a : Int32 × Int32 × Hp} {w : (Int32 × Int32 × Hp) ⊕ ((Int32 × Hp))} (h : fX8_chance_l66 x0 x1 x2 x3 x4 x5 x6 a = some w) (hc : ∀ (q8 : Int32) (q9 : Int32) (qs : Hp), w = .inl (q8, q9, qs) → R G MX8_chance 66 [(0, .ref x0), (1, .int x1), (2, .int x2), (3, .int x3), (4, .int x4), (5, .int x5), (6, .int x6), (8, .int q8), (9, .int q9)] [] qs o) (he0 : ∀ (q8 : Int32) (qs : Hp), w = .inr (q8, qs) → R G MX8_chance 131 [(8, .int q8)] [] qs o) : R G MX8_chance 66 [(0, .ref x0), (1, .int x1), (2, .int x2), (3, .int x3), (4, .int x4), (5, .int x5), (6, .int x6), (8, .int a.1), (9, .int a.2.1)] [] a.2.2 o := by
  unfold fX8_chance_l66 at h
  refine R_iload DX8_chance_66 8 rfl ?_
  refine R_iload DX8_chance_68 2 rfl ?_
  by_cases c10 : x2 ≤ a.2.1
  · replace h := if_t h c10
    refine R_icmp_ge_t DX8_chance_69 c10 ?_
    refine R.sub (L' := [(8, .int a.1)]) [7] rfl ?_
    cases h
    exact he0 _ _ rfl
  · replace h := if_f h c10
    refine R_icmp_ge_f DX8_chance_69 c10 ?_
    refine R_aload DX8_chance_72 0 rfl ?_
    obtain ⟨v11, ev11, h⟩ := bind_some h
    refine R_gR DX8_chance_73 fl_RX8_27 ev11 ?_
    refine R_aload DX8_chance_76 0 rfl ?_
    obtain ⟨v12, ev12, h⟩ := bind_some h
    refine R_gR DX8_chance_77 fl_RX8_47 ev12 ?_
    refine R_iload DX8_chance_80 1 rfl ?_
    refine R_iload DX8_chance_81 8 rfl ?_
    refine R_iadd DX8_chance_83 ?_
    refine R_iload DX8_chance_84 3 rfl ?_
    obtain ⟨s13, es13, h⟩ := bind_some h
    refine R_cV0 [.ref v12, .int (x1 + a.2.1), .int x3] DX8_chance_85 kzvX7_begin ml_RX8_350 ⟨Nat.le_of_ble_eq_true rfl, Nat.le_of_ble_eq_true rfl⟩ rfl (Nat.le_of_ble_eq_true rfl) (kX7_begin es13) ?_
    refine R_aload DX8_chance_88 0 rfl ?_
    obtain ⟨v14, ev14, h⟩ := bind_some h
    refine R_gR DX8_chance_89 fl_RX8_27 ev14 ?_
    refine R_constI DX8_chance_92 ci_0 ?_
    obtain ⟨s15, es15, h⟩ := bind_some h
    refine R_cV0 [.int (iI 0)] DX8_chance_93 kzvX7_flyFrom ml_RX8_354 ⟨Nat.le_of_ble_eq_true rfl, Nat.le_of_ble_eq_true rfl⟩ rfl (Nat.le_of_ble_eq_true rfl) (kX7_flyFrom es15) ?_
    refine R_iload DX8_chance_96 7 rfl ?_
    refine R_aload DX8_chance_98 0 rfl ?_
    obtain ⟨v16, ev16, h⟩ := bind_some h
    refine R_gR DX8_chance_99 fl_RX8_27 ev16 ?_
    refine R_iload DX8_chance_102 4 rfl ?_
    obtain ⟨r17, er17, h⟩ := bind_some h
    refine R_cV1 [.int x4] DX8_chance_104 kzvX7_columnAtEnd ml_RX8_367 ⟨Nat.le_of_ble_eq_true rfl, Nat.le_of_ble_eq_true rfl⟩ rfl (Nat.le_of_ble_eq_true rfl) (kX7_columnAtEnd er17) ?_
    refine R_iload DX8_chance_107 5 rfl ?_
    refine R_iload DX8_chance_109 6 rfl ?_
    obtain ⟨r18, er18, h⟩ := bind_some h
    refine R_cS1 [.int x5, .int x6] DX8_chance_111 kzsX8_columnOf ml_RX8_181 ⟨Nat.le_of_ble_eq_true rfl, Nat.le_of_ble_eq_true rfl⟩ rfl (Nat.le_of_ble_eq_true rfl) (kX8_columnOf er18) ?_
    by_cases c19 : r17.1 = r18.1
    · replace h := if_t h c19
      refine R_icmp_ne_f DX8_chance_114 c19 ?_
      refine R_constI DX8_chance_117 ci_1 ?_
      refine R_goto DX8_chance_118 ?_
      refine R.sub (L' := [(0, .ref x0), (1, .int x1), (2, .int x2), (3, .int x3), (4, .int x4), (5, .int x5), (6, .int x6), (9, .int a.2.1)]) [0, 1, 2, 3, 4, 5, 6, 8] rfl ?_
      exact tX8_chance_b122 h hc he0
    · replace h := if_f h c19
      refine R_icmp_ne_t DX8_chance_114 c19 ?_
      refine R_constI DX8_chance_121 ci_0 ?_
      refine R.sub (L' := [(0, .ref x0), (1, .int x1), (2, .int x2), (3, .int x3), (4, .int x4), (5, .int x5), (6, .int x6), (9, .int a.2.1)]) [0, 1, 2, 3, 4, 5, 6, 8] rfl ?_
      exact tX8_chance_b122 h hc he0
set_option maxRecDepth 8000 in
theorem tX8_chance_b24 {G : Gm} {x0 : Nat} {x1 : Int32} {x2 : Int32} {x3 : Int32} {x4 : Int32} {x5 : Int32} {x6 : Int32} {y0 : Int32} {s : Hp} {w : Int32 × Hp} (h : fX8_chance_b24 x0 x1 x2 x3 x4 x5 x6 y0 s = some w) : R G MX8_chance 24 [(0, .ref x0), (1, .int x1), (2, .int x2), (3, .int x3), (4, .int x4), (5, .int x5), (6, .int x6)] [.int y0] s (some (.int w.1), w.2) := by
  unfold fX8_chance_b24 at h
  refine R_istore [(7, .int y0), (0, .ref x0), (1, .int x1), (2, .int x2), (3, .int x3), (4, .int x4), (5, .int x5), (6, .int x6)] DX8_chance_24 (by decide) rfl ?_
  refine R_iload DX8_chance_26 0 rfl ?_
  by_cases c3 : y0 = 0
  · replace h := if_t h c3
    refine R_if_eq_t DX8_chance_28 c3 ?_
    refine R.sub (L' := []) [] rfl ?_
    exact tX8_chance_b57 h
  · replace h := if_f h c3
    refine R_if_eq_f DX8_chance_28 c3 ?_
    refine R_aload DX8_chance_31 1 rfl ?_
    obtain ⟨v4, ev4, h⟩ := bind_some h
    refine R_gR DX8_chance_32 fl_RX8_47 ev4 ?_
    refine R_iload DX8_chance_35 5 rfl ?_
    obtain ⟨r5, er5, h⟩ := bind_some h
    refine R_cV1 [.int x4] DX8_chance_37 kzvX6_hasShop ml_RX8_99 ⟨Nat.le_of_ble_eq_true rfl, Nat.le_of_ble_eq_true rfl⟩ rfl (Nat.le_of_ble_eq_true rfl) (kX6_hasShop er5) ?_
    by_cases c6 : r5.1 = 0
    · replace h := if_t h c6
      refine R_if_eq_t DX8_chance_40 c6 ?_
      refine R.sub (L' := []) [] rfl ?_
      exact tX8_chance_b57 h
    · replace h := if_f h c6
      refine R_if_eq_f DX8_chance_40 c6 ?_
      refine R_aload DX8_chance_43 1 rfl ?_
      obtain ⟨v7, ev7, h⟩ := bind_some h
      refine R_gR DX8_chance_44 fl_RX8_47 ev7 ?_
      refine R_iload DX8_chance_47 6 rfl ?_
      refine R_iload DX8_chance_49 7 rfl ?_
      obtain ⟨r8, er8, h⟩ := bind_some h
      refine R_cV1 [.int x5, .int x6] DX8_chance_51 kzvX6_hasColumn ml_RX8_178 ⟨Nat.le_of_ble_eq_true rfl, Nat.le_of_ble_eq_true rfl⟩ rfl (Nat.le_of_ble_eq_true rfl) (kX6_hasColumn er8) ?_
      by_cases c9 : r8.1 = 0
      · replace h := if_t h c9
        refine R_if_ne_f DX8_chance_54 c9 ?_
        refine R.sub (L' := []) [] rfl ?_
        exact tX8_chance_b57 h
      · replace h := if_f h c9
        refine R_if_ne_t DX8_chance_54 c9 ?_
        refine R_constI DX8_chance_60 ci_0 ?_
        refine R_istore [(8, .int (iI 0)), (7, .int y0), (0, .ref x0), (1, .int x1), (2, .int x2), (3, .int x3), (4, .int x4), (5, .int x5), (6, .int x6)] DX8_chance_61 (by decide) rfl ?_
        refine R_constI DX8_chance_63 ci_0 ?_
        refine R_istore [(9, .int (iI 0)), (8, .int (iI 0)), (7, .int y0), (0, .ref x0), (1, .int x1), (2, .int x2), (3, .int x3), (4, .int x4), (5, .int x5), (6, .int x6)] DX8_chance_64 (by decide) rfl ?_
        refine R.sub (L' := [(0, .ref x0), (1, .int x1), (2, .int x2), (3, .int x3), (4, .int x4), (5, .int x5), (6, .int x6), (8, .int (iI 0)), (9, .int (iI 0))]) [3, 4, 5, 6, 7, 8, 9, 1, 0] rfl ?_
        obtain ⟨r21, hi, h⟩ := bind_some h
        have hE : (fun u66 : Int32 × Hp => R G MX8_chance 131 [(8, .int u66.1)] [] u66.2 (some (.int w.1), w.2)) r21 → ∀ (q8 : Int32) (q9 : Int32) (qs : Hp), iter (fX8_chance_l66 x0 x1 x2 x3 x4 x5 x6) FU (q8, q9, qs) = some r21 → R G MX8_chance 66 [(0, .ref x0), (1, .int x1), (2, .int x2), (3, .int x3), (4, .int x4), (5, .int x5), (6, .int x6), (8, .int q8), (9, .int q9)] [] qs (some (.int w.1), w.2) := fun hX q8 q9 qs hj => loop_R (fX8_chance_l66 x0 x1 x2 x3 x4 x5 x6) (fun p66 : Int32 × Int32 × Hp => R G MX8_chance 66 [(0, .ref x0), (1, .int x1), (2, .int x2), (3, .int x3), (4, .int x4), (5, .int x5), (6, .int x6), (8, .int p66.1), (9, .int p66.2.1)] [] p66.2.2 (some (.int w.1), w.2)) (fun u66 : Int32 × Hp => R G MX8_chance 131 [(8, .int u66.1)] [] u66.2 (some (.int w.1), w.2)) (fun a w hw hc he => tX8_chance_l66 hw (fun q8 q9 qs e => hc (q8, q9, qs) e) (fun q8 qs e => he (q8, qs) e)) FU (q8, q9, qs) r21 hj hX
        refine hE ?_ _ _ _ hi
        clear hE hi
        refine R_iload DX8_chance_131 0 rfl ?_
        cases h
        exact R_ireturn rfl DX8_chance_133
set_option maxRecDepth 8000 in
theorem tX8_chance_b23 {G : Gm} {x0 : Nat} {x1 : Int32} {x2 : Int32} {x3 : Int32} {x4 : Int32} {x5 : Int32} {x6 : Int32} {s : Hp} {w : Int32 × Hp} (h : fX8_chance_b23 x0 x1 x2 x3 x4 x5 x6 s = some w) : R G MX8_chance 23 [(0, .ref x0), (1, .int x1), (2, .int x2), (3, .int x3), (4, .int x4), (5, .int x5), (6, .int x6)] [] s (some (.int w.1), w.2) := by
  unfold fX8_chance_b23 at h
  refine R_constI DX8_chance_23 ci_0 ?_
  exact tX8_chance_b24 h
set_option maxRecDepth 8000 in
theorem kX8_chance {G : Gm} {x0 : Nat} {x1 : Int32} {x2 : Int32} {x3 : Int32} {x4 : Int32} {x5 : Int32} {x6 : Int32} {s : Hp} {w : Int32 × Hp} (h : fX8_chance x0 x1 x2 x3 x4 x5 x6 s = some w) : (s.2.2 x0).1 = 8 ∧ Call G MX8_chance [.ref x0, .int x1, .int x2, .int x3, .int x4, .int x5, .int x6] s (some (.int w.1), w.2) := by
  unfold fX8_chance at h
  obtain ⟨_, e0, h⟩ := bind_some h
  refine ⟨ck_some e0, Call.of_R pnRX8 (Nat.le_of_ble_eq_true rfl) ?_⟩
  clear e0
  show R G MX8_chance 0 [(0, .ref x0), (1, .int x1), (2, .int x2), (3, .int x3), (4, .int x4), (5, .int x5), (6, .int x6)] [] s (some (.int w.1), w.2)
  refine R_iload DX8_chance_0 1 rfl ?_
  refine R_iload DX8_chance_1 3 rfl ?_
  obtain ⟨r1, er1, h⟩ := bind_some h
  refine R_cS1 [.int x1, .int x3] DX8_chance_2 kzsX8_isDraw ml_RX8_364 ⟨Nat.le_of_ble_eq_true rfl, Nat.le_of_ble_eq_true rfl⟩ rfl (Nat.le_of_ble_eq_true rfl) (kX8_isDraw er1) ?_
  by_cases c2 : r1.1 = 0
  · replace h := if_t h c2
    refine R_if_eq_t DX8_chance_5 c2 ?_
    exact tX8_chance_b23 h
  · replace h := if_f h c2
    refine R_if_eq_f DX8_chance_5 c2 ?_
    refine R_iload DX8_chance_8 2 rfl ?_
    refine R_constI DX8_chance_9 ci_1 ?_
    by_cases c22 : x2 < (iI 1)
    · replace h := if_t h c22
      refine R_icmp_lt_t DX8_chance_10 c22 ?_
      exact tX8_chance_b23 h
    · replace h := if_f h c22
      refine R_icmp_lt_f DX8_chance_10 c22 ?_
      refine R_iload DX8_chance_13 2 rfl ?_
      refine R_constI DX8_chance_14 ci_20 ?_
      by_cases c23 : (iI 20) < x2
      · replace h := if_t h c23
        refine R_icmp_gt_t DX8_chance_16 c23 ?_
        exact tX8_chance_b23 h
      · replace h := if_f h c23
        refine R_icmp_gt_f DX8_chance_16 c23 ?_
        refine R_constI DX8_chance_19 ci_1 ?_
        refine R_goto DX8_chance_20 ?_
        exact tX8_chance_b24 h
set_option maxRecDepth 8000 in
theorem tX8_takings_b18 {G : Gm} {s : Hp} {w : Int32 × Hp} (h : fX8_takings_b18 s = some w) : R G MX8_takings 18 [] [] s (some (.int w.1), w.2) := by
  unfold fX8_takings_b18 at h
  refine R_constI DX8_takings_18 ci_m2 ?_
  cases h
  exact R_ireturn rfl DX8_takings_20
set_option maxRecDepth 8000 in
theorem kX8_takings {G : Gm} {x0 : Nat} {x1 : Int32} {x2 : Int32} {s : Hp} {w : Int32 × Hp} (h : fX8_takings x0 x1 x2 s = some w) : (s.2.2 x0).1 = 8 ∧ Call G MX8_takings [.ref x0, .int x1, .int x2] s (some (.int w.1), w.2) := by
  unfold fX8_takings at h
  obtain ⟨_, e0, h⟩ := bind_some h
  refine ⟨ck_some e0, Call.of_R pnRX8 (Nat.le_of_ble_eq_true rfl) ?_⟩
  clear e0
  show R G MX8_takings 0 [(0, .ref x0), (1, .int x1), (2, .int x2)] [] s (some (.int w.1), w.2)
  refine R_aload DX8_takings_0 0 rfl ?_
  obtain ⟨v1, ev1, h⟩ := bind_some h
  refine R_gR DX8_takings_1 fl_RX8_47 ev1 ?_
  obtain ⟨r2, er2, h⟩ := bind_some h
  refine R_cV1 [] DX8_takings_4 kzvX6_stands ml_RX8_140 ⟨Nat.le_of_ble_eq_true rfl, Nat.le_of_ble_eq_true rfl⟩ rfl (Nat.le_of_ble_eq_true rfl) (kX6_stands er2) ?_
  by_cases c3 : r2.1 = 0
  · replace h := if_t h c3
    refine R_if_eq_t DX8_takings_7 c3 ?_
    refine R.sub (L' := []) [] rfl ?_
    exact tX8_takings_b18 h
  · replace h := if_f h c3
    refine R_if_eq_f DX8_takings_7 c3 ?_
    refine R_iload DX8_takings_10 1 rfl ?_
    refine R_iload DX8_takings_11 2 rfl ?_
    obtain ⟨r4, er4, h⟩ := bind_some h
    refine R_cS1 [.int x1, .int x2] DX8_takings_12 kzsX8_isDraw ml_RX8_364 ⟨Nat.le_of_ble_eq_true rfl, Nat.le_of_ble_eq_true rfl⟩ rfl (Nat.le_of_ble_eq_true rfl) (kX8_isDraw er4) ?_
    by_cases c5 : r4.1 = 0
    · replace h := if_t h c5
      refine R_if_ne_f DX8_takings_15 c5 ?_
      refine R.sub (L' := []) [] rfl ?_
      exact tX8_takings_b18 h
    · replace h := if_f h c5
      refine R_if_ne_t DX8_takings_15 c5 ?_
      refine R_aload DX8_takings_21 0 rfl ?_
      obtain ⟨v6, ev6, h⟩ := bind_some h
      refine R_gR DX8_takings_22 fl_RX8_27 ev6 ?_
      refine R_aload DX8_takings_25 0 rfl ?_
      obtain ⟨v7, ev7, h⟩ := bind_some h
      refine R_gR DX8_takings_26 fl_RX8_47 ev7 ?_
      refine R_iload DX8_takings_29 1 rfl ?_
      refine R_iload DX8_takings_30 2 rfl ?_
      obtain ⟨s8, es8, h⟩ := bind_some h
      refine R_cV0 [.ref v7, .int x1, .int x2] DX8_takings_31 kzvX7_begin ml_RX8_350 ⟨Nat.le_of_ble_eq_true rfl, Nat.le_of_ble_eq_true rfl⟩ rfl (Nat.le_of_ble_eq_true rfl) (kX7_begin es8) ?_
      refine R_aload DX8_takings_34 0 rfl ?_
      obtain ⟨v9, ev9, h⟩ := bind_some h
      refine R_gR DX8_takings_35 fl_RX8_27 ev9 ?_
      refine R_constI DX8_takings_38 ci_0 ?_
      obtain ⟨s10, es10, h⟩ := bind_some h
      refine R_cV0 [.int (iI 0)] DX8_takings_39 kzvX7_flyFrom ml_RX8_354 ⟨Nat.le_of_ble_eq_true rfl, Nat.le_of_ble_eq_true rfl⟩ rfl (Nat.le_of_ble_eq_true rfl) (kX7_flyFrom es10) ?_
      refine R_aload DX8_takings_42 0 rfl ?_
      obtain ⟨v11, ev11, h⟩ := bind_some h
      refine R_gR DX8_takings_43 fl_RX8_27 ev11 ?_
      obtain ⟨r12, er12, h⟩ := bind_some h
      refine R_cV1 [] DX8_takings_46 kzvX7_moneyOfAll ml_RX8_162 ⟨Nat.le_of_ble_eq_true rfl, Nat.le_of_ble_eq_true rfl⟩ rfl (Nat.le_of_ble_eq_true rfl) (kX7_moneyOfAll er12) ?_
      cases h
      exact R_ireturn rfl DX8_takings_49
set_option maxRecDepth 8000 in
theorem tX8_fullSlots_b27 {G : Gm} {x0 : Nat} {x2 : Int32} {y0 : Int32} {y1 : Int32} {s : Hp} {o : Option Value × Hp} {w : (Int32 × Int32 × Hp) ⊕ ((Int32 × Hp))} (h : fX8_fullSlots_b27 x0 x2 y0 y1 s = some w) (hc : ∀ (q1 : Int32) (q2 : Int32) (qs : Hp), w = .inl (q1, q2, qs) → R G MX8_fullSlots 4 [(0, .ref x0), (1, .int q1), (2, .int q2)] [] qs o) (he0 : ∀ (q1 : Int32) (qs : Hp), w = .inr (q1, qs) → R G MX8_fullSlots 35 [(1, .int q1)] [] qs o) : R G MX8_fullSlots 27 [(0, .ref x0), (2, .int x2)] [.int y1, .int y0] s o := by
  unfold fX8_fullSlots_b27 at h
  refine R_iadd DX8_fullSlots_27 ?_
  obtain ⟨z6, ez6, h⟩ := lt_some h
  refine R_istoreE ez6 [(1, .int z6), (0, .ref x0), (2, .int x2)] DX8_fullSlots_28 (by decide) rfl ?_
  refine R_iinc [(2, .int (x2 + iI 1)), (1, .int z6), (0, .ref x0)] DX8_fullSlots_29 2 rfl (v := x2 + iI 1) (by rfl) (by decide) rfl ?_
  refine R_goto DX8_fullSlots_32 ?_
  refine R.sub (L' := [(0, .ref x0), (1, .int z6), (2, .int (x2 + iI 1))]) [2, 1, 0] rfl ?_
  cases h
  exact hc _ _ _ rfl
set_option maxRecDepth 8000 in
theorem tX8_fullSlots_l4 {G : Gm} {x0 : Nat} {o : Option Value × Hp} {a : Int32 × Int32 × Hp} {w : (Int32 × Int32 × Hp) ⊕ ((Int32 × Hp))} (h : fX8_fullSlots_l4 x0 a = some w) (hc : ∀ (q1 : Int32) (q2 : Int32) (qs : Hp), w = .inl (q1, q2, qs) → R G MX8_fullSlots 4 [(0, .ref x0), (1, .int q1), (2, .int q2)] [] qs o) (he0 : ∀ (q1 : Int32) (qs : Hp), w = .inr (q1, qs) → R G MX8_fullSlots 35 [(1, .int q1)] [] qs o) : R G MX8_fullSlots 4 [(0, .ref x0), (1, .int a.1), (2, .int a.2.1)] [] a.2.2 o := by
  unfold fX8_fullSlots_l4 at h
  refine R_iload DX8_fullSlots_4 2 rfl ?_
  refine R_constI DX8_fullSlots_5 ci_4 ?_
  by_cases c1 : (iI 4) ≤ a.2.1
  · replace h := if_t h c1
    refine R_icmp_ge_t DX8_fullSlots_6 c1 ?_
    refine R.sub (L' := [(1, .int a.1)]) [1] rfl ?_
    cases h
    exact he0 _ _ rfl
  · replace h := if_f h c1
    refine R_icmp_ge_f DX8_fullSlots_6 c1 ?_
    refine R_iload DX8_fullSlots_9 1 rfl ?_
    refine R_aload DX8_fullSlots_10 0 rfl ?_
    obtain ⟨v2, ev2, h⟩ := bind_some h
    refine R_gR DX8_fullSlots_11 fl_RX8_42 ev2 ?_
    refine R_iload DX8_fullSlots_14 2 rfl ?_
    obtain ⟨v3, ev3, h⟩ := bind_some h
    refine R_aR rt25 DX8_fullSlots_15 ev3 ?_
    obtain ⟨r4, er4, h⟩ := bind_some h
    refine R_cV1 [] DX8_fullSlots_16 kzvX5_isThere ml_RX8_383 ⟨Nat.le_of_ble_eq_true rfl, Nat.le_of_ble_eq_true rfl⟩ rfl (Nat.le_of_ble_eq_true rfl) (kX5_isThere er4) ?_
    by_cases c5 : r4.1 = 0
    · replace h := if_t h c5
      refine R_if_eq_t DX8_fullSlots_19 c5 ?_
      refine R_constI DX8_fullSlots_26 ci_0 ?_
      refine R.sub (L' := [(0, .ref x0), (2, .int a.2.1)]) [0, 2] rfl ?_
      exact tX8_fullSlots_b27 h hc he0
    · replace h := if_f h c5
      refine R_if_eq_f DX8_fullSlots_19 c5 ?_
      refine R_constI DX8_fullSlots_22 ci_1 ?_
      refine R_goto DX8_fullSlots_23 ?_
      refine R.sub (L' := [(0, .ref x0), (2, .int a.2.1)]) [0, 2] rfl ?_
      exact tX8_fullSlots_b27 h hc he0
set_option maxRecDepth 8000 in
theorem kX8_fullSlots {G : Gm} {x0 : Nat} {s : Hp} {w : Int32 × Hp} (h : fX8_fullSlots x0 s = some w) : (s.2.2 x0).1 = 8 ∧ Call G MX8_fullSlots [.ref x0] s (some (.int w.1), w.2) := by
  unfold fX8_fullSlots at h
  obtain ⟨_, e0, h⟩ := bind_some h
  refine ⟨ck_some e0, Call.of_R pnRX8 (Nat.le_of_ble_eq_true rfl) ?_⟩
  clear e0
  show R G MX8_fullSlots 0 [(0, .ref x0)] [] s (some (.int w.1), w.2)
  refine R_constI DX8_fullSlots_0 ci_0 ?_
  refine R_istore [(1, .int (iI 0)), (0, .ref x0)] DX8_fullSlots_1 (by decide) rfl ?_
  refine R_constI DX8_fullSlots_2 ci_0 ?_
  refine R_istore [(2, .int (iI 0)), (1, .int (iI 0)), (0, .ref x0)] DX8_fullSlots_3 (by decide) rfl ?_
  refine R.sub (L' := [(0, .ref x0), (1, .int (iI 0)), (2, .int (iI 0))]) [2, 1, 0] rfl ?_
  obtain ⟨r7, hi, h⟩ := bind_some h
  have hE : (fun u4 : Int32 × Hp => R G MX8_fullSlots 35 [(1, .int u4.1)] [] u4.2 (some (.int w.1), w.2)) r7 → ∀ (q1 : Int32) (q2 : Int32) (qs : Hp), iter (fX8_fullSlots_l4 x0) FU (q1, q2, qs) = some r7 → R G MX8_fullSlots 4 [(0, .ref x0), (1, .int q1), (2, .int q2)] [] qs (some (.int w.1), w.2) := fun hX q1 q2 qs hj => loop_R (fX8_fullSlots_l4 x0) (fun p4 : Int32 × Int32 × Hp => R G MX8_fullSlots 4 [(0, .ref x0), (1, .int p4.1), (2, .int p4.2.1)] [] p4.2.2 (some (.int w.1), w.2)) (fun u4 : Int32 × Hp => R G MX8_fullSlots 35 [(1, .int u4.1)] [] u4.2 (some (.int w.1), w.2)) (fun a w hw hc he => tX8_fullSlots_l4 hw (fun q1 q2 qs e => hc (q1, q2, qs) e) (fun q1 qs e => he (q1, qs) e)) FU (q1, q2, qs) r7 hj hX
  refine hE ?_ _ _ _ hi
  clear hE hi
  refine R_iload DX8_fullSlots_35 0 rfl ?_
  cases h
  exact R_ireturn rfl DX8_fullSlots_36
set_option maxRecDepth 8000 in
theorem kX8_count {G : Gm} {x0 : Nat} {x1 : Int32} {s : Hp} {w : Int32 × Hp} (h : fX8_count x0 x1 s = some w) : (s.2.2 x0).1 = 8 ∧ Call G MX8_count [.ref x0, .int x1] s (some (.int w.1), w.2) := by
  unfold fX8_count at h
  obtain ⟨_, e0, h⟩ := bind_some h
  refine ⟨ck_some e0, Call.of_R pnRX8 (Nat.le_of_ble_eq_true rfl) ?_⟩
  clear e0
  show R G MX8_count 0 [(0, .ref x0), (1, .int x1)] [] s (some (.int w.1), w.2)
  refine R_iload DX8_count_0 1 rfl ?_
  by_cases c1 : x1 = (iI 0)
  · replace h := if_t h c1
    refine R_tabIn (t := 68) DX8_count_1 (by rw [c1]; decide) (by rw [c1]; decide) (off := 67) (by rw [c1]; rfl) (by decide) ?_
    refine R_aload DX8_count_68 0 rfl ?_
    obtain ⟨v2, ev2, h⟩ := bind_some h
    refine R_gR DX8_count_69 fl_RX8_47 ev2 ?_
    obtain ⟨v3, ev3, h⟩ := bind_some h
    refine R_gI DX8_count_72 fl_RX8_295 ev3 ?_
    cases h
    exact R_ireturn rfl DX8_count_75
  replace h := if_f h c1
  by_cases c4 : x1 = (iI 1)
  · replace h := if_t h c4
    refine R_tabIn (t := 76) DX8_count_1 (by rw [c4]; decide) (by rw [c4]; decide) (off := 75) (by rw [c4]; rfl) (by decide) ?_
    refine R_aload DX8_count_76 0 rfl ?_
    obtain ⟨v5, ev5, h⟩ := bind_some h
    refine R_gR DX8_count_77 fl_RX8_47 ev5 ?_
    obtain ⟨v6, ev6, h⟩ := bind_some h
    refine R_gI DX8_count_80 fl_RX8_298 ev6 ?_
    cases h
    exact R_ireturn rfl DX8_count_83
  replace h := if_f h c4
  by_cases c7 : x1 = (iI 2)
  · replace h := if_t h c7
    refine R_tabIn (t := 84) DX8_count_1 (by rw [c7]; decide) (by rw [c7]; decide) (off := 83) (by rw [c7]; rfl) (by decide) ?_
    refine R_aload DX8_count_84 0 rfl ?_
    obtain ⟨v8, ev8, h⟩ := bind_some h
    refine R_gR DX8_count_85 fl_RX8_47 ev8 ?_
    obtain ⟨v9, ev9, h⟩ := bind_some h
    refine R_gI DX8_count_88 fl_RX8_218 ev9 ?_
    cases h
    exact R_ireturn rfl DX8_count_91
  replace h := if_f h c7
  by_cases c10 : x1 = (iI 3)
  · replace h := if_t h c10
    refine R_tabIn (t := 92) DX8_count_1 (by rw [c10]; decide) (by rw [c10]; decide) (off := 91) (by rw [c10]; rfl) (by decide) ?_
    refine R_aload DX8_count_92 0 rfl ?_
    obtain ⟨v11, ev11, h⟩ := bind_some h
    refine R_gR DX8_count_93 fl_RX8_47 ev11 ?_
    obtain ⟨v12, ev12, h⟩ := bind_some h
    refine R_gI DX8_count_96 fl_RX8_96 ev12 ?_
    cases h
    exact R_ireturn rfl DX8_count_99
  replace h := if_f h c10
  by_cases c13 : x1 = (iI 4)
  · replace h := if_t h c13
    refine R_tabIn (t := 100) DX8_count_1 (by rw [c13]; decide) (by rw [c13]; decide) (off := 99) (by rw [c13]; rfl) (by decide) ?_
    refine R_aload DX8_count_100 0 rfl ?_
    obtain ⟨v14, ev14, h⟩ := bind_some h
    refine R_gR DX8_count_101 fl_RX8_47 ev14 ?_
    obtain ⟨v15, ev15, h⟩ := bind_some h
    refine R_gI DX8_count_104 fl_RX8_337 ev15 ?_
    cases h
    exact R_ireturn rfl DX8_count_107
  replace h := if_f h c13
  by_cases c16 : x1 = (iI 5)
  · replace h := if_t h c16
    refine R_tabIn (t := 108) DX8_count_1 (by rw [c16]; decide) (by rw [c16]; decide) (off := 107) (by rw [c16]; rfl) (by decide) ?_
    refine R_aload DX8_count_108 0 rfl ?_
    obtain ⟨v17, ev17, h⟩ := bind_some h
    refine R_gR DX8_count_109 fl_RX8_47 ev17 ?_
    obtain ⟨v18, ev18, h⟩ := bind_some h
    refine R_gI DX8_count_112 fl_RX8_322 ev18 ?_
    cases h
    exact R_ireturn rfl DX8_count_115
  replace h := if_f h c16
  by_cases c19 : x1 = (iI 6)
  · replace h := if_t h c19
    refine R_tabIn (t := 116) DX8_count_1 (by rw [c19]; decide) (by rw [c19]; decide) (off := 115) (by rw [c19]; rfl) (by decide) ?_
    refine R_aload DX8_count_116 0 rfl ?_
    obtain ⟨v20, ev20, h⟩ := bind_some h
    refine R_gR DX8_count_117 fl_RX8_47 ev20 ?_
    obtain ⟨v21, ev21, h⟩ := bind_some h
    refine R_gI DX8_count_120 fl_RX8_370 ev21 ?_
    cases h
    exact R_ireturn rfl DX8_count_123
  replace h := if_f h c19
  by_cases c22 : x1 = (iI 7)
  · replace h := if_t h c22
    refine R_tabIn (t := 124) DX8_count_1 (by rw [c22]; decide) (by rw [c22]; decide) (off := 123) (by rw [c22]; rfl) (by decide) ?_
    refine R_aload DX8_count_124 0 rfl ?_
    obtain ⟨v23, ev23, h⟩ := bind_some h
    refine R_gR DX8_count_125 fl_RX8_47 ev23 ?_
    obtain ⟨v24, ev24, h⟩ := bind_some h
    refine R_gI DX8_count_128 fl_RX8_166 ev24 ?_
    cases h
    exact R_ireturn rfl DX8_count_131
  replace h := if_f h c22
  by_cases c25 : x1 = (iI 8)
  · replace h := if_t h c25
    refine R_tabIn (t := 132) DX8_count_1 (by rw [c25]; decide) (by rw [c25]; decide) (off := 131) (by rw [c25]; rfl) (by decide) ?_
    refine R_aload DX8_count_132 0 rfl ?_
    obtain ⟨v26, ev26, h⟩ := bind_some h
    refine R_gR DX8_count_133 fl_RX8_47 ev26 ?_
    obtain ⟨v27, ev27, h⟩ := bind_some h
    refine R_gI DX8_count_136 fl_RX8_252 ev27 ?_
    cases h
    exact R_ireturn rfl DX8_count_139
  replace h := if_f h c25
  by_cases c28 : x1 = (iI 9)
  · replace h := if_t h c28
    refine R_tabIn (t := 140) DX8_count_1 (by rw [c28]; decide) (by rw [c28]; decide) (off := 139) (by rw [c28]; rfl) (by decide) ?_
    refine R_aload DX8_count_140 0 rfl ?_
    obtain ⟨v29, ev29, h⟩ := bind_some h
    refine R_gR DX8_count_141 fl_RX8_47 ev29 ?_
    obtain ⟨v30, ev30, h⟩ := bind_some h
    refine R_gI DX8_count_144 fl_RX8_73 ev30 ?_
    cases h
    exact R_ireturn rfl DX8_count_147
  replace h := if_f h c28
  by_cases c31 : x1 = (iI 10)
  · replace h := if_t h c31
    refine R_tabIn (t := 148) DX8_count_1 (by rw [c31]; decide) (by rw [c31]; decide) (off := 147) (by rw [c31]; rfl) (by decide) ?_
    refine R_aload DX8_count_148 0 rfl ?_
    obtain ⟨v32, ev32, h⟩ := bind_some h
    refine R_gI DX8_count_149 fl_RX8_59 ev32 ?_
    cases h
    exact R_ireturn rfl DX8_count_152
  replace h := if_f h c31
  by_cases c33 : x1 = (iI 11)
  · replace h := if_t h c33
    refine R_tabIn (t := 153) DX8_count_1 (by rw [c33]; decide) (by rw [c33]; decide) (off := 152) (by rw [c33]; rfl) (by decide) ?_
    refine R_aload DX8_count_153 0 rfl ?_
    obtain ⟨v34, ev34, h⟩ := bind_some h
    refine R_gR DX8_count_154 fl_RX8_47 ev34 ?_
    obtain ⟨v35, ev35, h⟩ := bind_some h
    refine R_gI DX8_count_157 fl_RX8_129 ev35 ?_
    cases h
    exact R_ireturn rfl DX8_count_160
  replace h := if_f h c33
  by_cases c36 : x1 = (iI 12)
  · replace h := if_t h c36
    refine R_tabIn (t := 161) DX8_count_1 (by rw [c36]; decide) (by rw [c36]; decide) (off := 160) (by rw [c36]; rfl) (by decide) ?_
    refine R_aload DX8_count_161 0 rfl ?_
    obtain ⟨r37, er37, h⟩ := bind_some h
    refine R_cV1 [] DX8_count_162 kzvX8_fullSlots ml_RX8_373 ⟨Nat.le_of_ble_eq_true rfl, Nat.le_of_ble_eq_true rfl⟩ rfl (Nat.le_of_ble_eq_true rfl) (kX8_fullSlots er37) ?_
    cases h
    exact R_ireturn rfl DX8_count_165
  replace h := if_f h c36
  have hto : x1.toInt < 0 ∨ 12 < x1.toInt := by
    refine tab_out fun k h1 h2 hk => ?_
    rcases (show k = 0 ∨ k = 1 ∨ k = 2 ∨ k = 3 ∨ k = 4 ∨ k = 5 ∨ k = 6 ∨ k = 7 ∨ k = 8 ∨ k = 9 ∨ k = 10 ∨ k = 11 ∨ k = 12 by omega) with rfl | rfl | rfl | rfl | rfl | rfl | rfl | rfl | rfl | rfl | rfl | rfl | rfl
    · exact c1 (Int32.toInt_inj.mp (hk.trans (by decide)))
    · exact c4 (Int32.toInt_inj.mp (hk.trans (by decide)))
    · exact c7 (Int32.toInt_inj.mp (hk.trans (by decide)))
    · exact c10 (Int32.toInt_inj.mp (hk.trans (by decide)))
    · exact c13 (Int32.toInt_inj.mp (hk.trans (by decide)))
    · exact c16 (Int32.toInt_inj.mp (hk.trans (by decide)))
    · exact c19 (Int32.toInt_inj.mp (hk.trans (by decide)))
    · exact c22 (Int32.toInt_inj.mp (hk.trans (by decide)))
    · exact c25 (Int32.toInt_inj.mp (hk.trans (by decide)))
    · exact c28 (Int32.toInt_inj.mp (hk.trans (by decide)))
    · exact c31 (Int32.toInt_inj.mp (hk.trans (by decide)))
    · exact c33 (Int32.toInt_inj.mp (hk.trans (by decide)))
    · exact c36 (Int32.toInt_inj.mp (hk.trans (by decide)))
  refine R_tabOut (t := 166) DX8_count_1 hto (by decide) ?_
  refine R_constI DX8_count_166 ci_m1 ?_
  cases h
  exact R_ireturn rfl DX8_count_167
set_option maxRecDepth 8000 in
theorem tX8_keep_b9 {G : Gm} {s : Hp} {w : Int32 × Hp} (h : fX8_keep_b9 s = some w) : R G MX8_keep 9 [] [] s (some (.int w.1), w.2) := by
  unfold fX8_keep_b9 at h
  refine R_constI DX8_keep_9 ci_m2 ?_
  cases h
  exact R_ireturn rfl DX8_keep_11
set_option maxRecDepth 8000 in
theorem kX8_keep {G : Gm} {x0 : Nat} {x1 : Int32} {s : Hp} {w : Int32 × Hp} (h : fX8_keep x0 x1 s = some w) : (s.2.2 x0).1 = 8 ∧ Call G MX8_keep [.ref x0, .int x1] s (some (.int w.1), w.2) := by
  unfold fX8_keep at h
  obtain ⟨_, e0, h⟩ := bind_some h
  refine ⟨ck_some e0, Call.of_R pnRX8 (Nat.le_of_ble_eq_true rfl) ?_⟩
  clear e0
  show R G MX8_keep 0 [(0, .ref x0), (1, .int x1)] [] s (some (.int w.1), w.2)
  refine R_iload DX8_keep_0 1 rfl ?_
  by_cases c1 : x1 < 0
  · replace h := if_t h c1
    refine R_if_lt_t DX8_keep_1 c1 ?_
    refine R.sub (L' := []) [] rfl ?_
    exact tX8_keep_b9 h
  · replace h := if_f h c1
    refine R_if_lt_f DX8_keep_1 c1 ?_
    refine R_iload DX8_keep_4 1 rfl ?_
    refine R_constI DX8_keep_5 ci_3 ?_
    by_cases c2 : x1 < (iI 3)
    · replace h := if_t h c2
      refine R_icmp_lt_t DX8_keep_6 c2 ?_
      refine R_aload DX8_keep_12 0 rfl ?_
      obtain ⟨v3, ev3, h⟩ := bind_some h
      refine R_gR DX8_keep_13 fl_RX8_32 ev3 ?_
      refine R_iload DX8_keep_16 1 rfl ?_
      obtain ⟨v4, ev4, h⟩ := bind_some h
      refine R_aR rt24 DX8_keep_17 ev4 ?_
      refine R_aload DX8_keep_18 0 rfl ?_
      obtain ⟨v5, ev5, h⟩ := bind_some h
      refine R_gR DX8_keep_19 fl_RX8_47 ev5 ?_
      obtain ⟨s6, es6, h⟩ := bind_some h
      refine R_cV0 [.ref v5] DX8_keep_22 kzvX6_copyFrom ml_RX8_329 ⟨Nat.le_of_ble_eq_true rfl, Nat.le_of_ble_eq_true rfl⟩ rfl (Nat.le_of_ble_eq_true rfl) (kX6_copyFrom es6) ?_
      refine R_aload DX8_keep_25 0 rfl ?_
      obtain ⟨v7, ev7, h⟩ := bind_some h
      refine R_gR DX8_keep_26 fl_RX8_36 ev7 ?_
      refine R_iload DX8_keep_29 1 rfl ?_
      refine R_constI DX8_keep_30 ci_1 ?_
      obtain ⟨s8, es8, h⟩ := bind_some h
      refine R_sZ DX8_keep_31 es8 ?_
      refine R_constI DX8_keep_32 ci_0 ?_
      cases h
      exact R_ireturn rfl DX8_keep_33
    · replace h := if_f h c2
      refine R_icmp_lt_f DX8_keep_6 c2 ?_
      refine R.sub (L' := []) [] rfl ?_
      exact tX8_keep_b9 h
set_option maxRecDepth 8000 in
theorem tX8_back_b9 {G : Gm} {s : Hp} {w : Int32 × Hp} (h : fX8_back_b9 s = some w) : R G MX8_back 9 [] [] s (some (.int w.1), w.2) := by
  unfold fX8_back_b9 at h
  refine R_constI DX8_back_9 ci_m2 ?_
  cases h
  exact R_ireturn rfl DX8_back_11
set_option maxRecDepth 8000 in
theorem kX8_back {G : Gm} {x0 : Nat} {x1 : Int32} {s : Hp} {w : Int32 × Hp} (h : fX8_back x0 x1 s = some w) : (s.2.2 x0).1 = 8 ∧ Call G MX8_back [.ref x0, .int x1] s (some (.int w.1), w.2) := by
  unfold fX8_back at h
  obtain ⟨_, e0, h⟩ := bind_some h
  refine ⟨ck_some e0, Call.of_R pnRX8 (Nat.le_of_ble_eq_true rfl) ?_⟩
  clear e0
  show R G MX8_back 0 [(0, .ref x0), (1, .int x1)] [] s (some (.int w.1), w.2)
  refine R_iload DX8_back_0 1 rfl ?_
  by_cases c1 : x1 < 0
  · replace h := if_t h c1
    refine R_if_lt_t DX8_back_1 c1 ?_
    refine R.sub (L' := []) [] rfl ?_
    exact tX8_back_b9 h
  · replace h := if_f h c1
    refine R_if_lt_f DX8_back_1 c1 ?_
    refine R_iload DX8_back_4 1 rfl ?_
    refine R_constI DX8_back_5 ci_3 ?_
    by_cases c2 : x1 < (iI 3)
    · replace h := if_t h c2
      refine R_icmp_lt_t DX8_back_6 c2 ?_
      refine R_aload DX8_back_12 0 rfl ?_
      obtain ⟨v3, ev3, h⟩ := bind_some h
      refine R_gR DX8_back_13 fl_RX8_36 ev3 ?_
      refine R_iload DX8_back_16 1 rfl ?_
      obtain ⟨v4, ev4, h⟩ := bind_some h
      refine R_aZ DX8_back_17 ev4 ?_
      by_cases c5 : v4 = 0
      · replace h := if_t h c5
        refine R_if_ne_f DX8_back_18 c5 ?_
        refine R_constI DX8_back_21 ci_m6 ?_
        cases h
        exact R_ireturn rfl DX8_back_23
      · replace h := if_f h c5
        refine R_if_ne_t DX8_back_18 c5 ?_
        refine R_aload DX8_back_24 0 rfl ?_
        obtain ⟨v6, ev6, h⟩ := bind_some h
        refine R_gR DX8_back_25 fl_RX8_47 ev6 ?_
        refine R_aload DX8_back_28 0 rfl ?_
        obtain ⟨v7, ev7, h⟩ := bind_some h
        refine R_gR DX8_back_29 fl_RX8_32 ev7 ?_
        refine R_iload DX8_back_32 1 rfl ?_
        obtain ⟨v8, ev8, h⟩ := bind_some h
        refine R_aR rt24 DX8_back_33 ev8 ?_
        obtain ⟨s9, es9, h⟩ := bind_some h
        refine R_cV0 [.ref v8] DX8_back_34 kzvX6_copyFrom ml_RX8_329 ⟨Nat.le_of_ble_eq_true rfl, Nat.le_of_ble_eq_true rfl⟩ rfl (Nat.le_of_ble_eq_true rfl) (kX6_copyFrom es9) ?_
        refine R_aload DX8_back_37 0 rfl ?_
        obtain ⟨s10, es10, h⟩ := bind_some h
        refine R_cV0 [] DX8_back_38 kzvX8_forgetAll ml_RX8_70 ⟨Nat.le_of_ble_eq_true rfl, Nat.le_of_ble_eq_true rfl⟩ rfl (Nat.le_of_ble_eq_true rfl) (kX8_forgetAll es10) ?_
        refine R_constI DX8_back_41 ci_0 ?_
        cases h
        exact R_ireturn rfl DX8_back_42
    · replace h := if_f h c2
      refine R_icmp_lt_f DX8_back_6 c2 ?_
      refine R.sub (L' := []) [] rfl ?_
      exact tX8_back_b9 h
set_option maxRecDepth 8000 in
theorem tX8_row_b22 {G : Gm} {s : Hp} {w : Int32 × Hp} (h : fX8_row_b22 s = some w) : R G MX8_row 22 [] [] s (some (.int w.1), w.2) := by
  unfold fX8_row_b22 at h
  refine R_constI DX8_row_22 ci_m2 ?_
  cases h
  exact R_ireturn rfl DX8_row_24
set_option maxRecDepth 8000 in
theorem kX8_row {G : Gm} {x0 : Nat} {x1 : Int32} {x2 : Int32} {x3 : Int32} {s : Hp} {w : Int32 × Hp} (h : fX8_row x0 x1 x2 x3 s = some w) : (s.2.2 x0).1 = 8 ∧ Call G MX8_row [.ref x0, .int x1, .int x2, .int x3] s (some (.int w.1), w.2) := by
  unfold fX8_row at h
  obtain ⟨_, e0, h⟩ := bind_some h
  refine ⟨ck_some e0, Call.of_R pnRX8 (Nat.le_of_ble_eq_true rfl) ?_⟩
  clear e0
  show R G MX8_row 0 [(0, .ref x0), (1, .int x1), (2, .int x2), (3, .int x3)] [] s (some (.int w.1), w.2)
  refine R_iload DX8_row_0 1 rfl ?_
  obtain ⟨r1, er1, h⟩ := bind_some h
  refine R_cS1 [.int x1] DX8_row_1 kzsX8_isSlot ml_RX8_376 ⟨Nat.le_of_ble_eq_true rfl, Nat.le_of_ble_eq_true rfl⟩ rfl (Nat.le_of_ble_eq_true rfl) (kX8_isSlot er1) ?_
  by_cases c2 : r1.1 = 0
  · replace h := if_t h c2
    refine R_if_eq_t DX8_row_4 c2 ?_
    refine R.sub (L' := []) [] rfl ?_
    exact tX8_row_b22 h
  · replace h := if_f h c2
    refine R_if_eq_f DX8_row_4 c2 ?_
    refine R_iload DX8_row_7 2 rfl ?_
    by_cases c3 : x2 < 0
    · replace h := if_t h c3
      refine R_if_lt_t DX8_row_8 c3 ?_
      refine R.sub (L' := []) [] rfl ?_
      exact tX8_row_b22 h
    · replace h := if_f h c3
      refine R_if_lt_f DX8_row_8 c3 ?_
      refine R_iload DX8_row_11 2 rfl ?_
      refine R_constI DX8_row_12 ci_4 ?_
      by_cases c4 : (iI 4) ≤ x2
      · replace h := if_t h c4
        refine R_icmp_ge_t DX8_row_13 c4 ?_
        refine R.sub (L' := []) [] rfl ?_
        exact tX8_row_b22 h
      · replace h := if_f h c4
        refine R_icmp_ge_f DX8_row_13 c4 ?_
        refine R_iload DX8_row_16 3 rfl ?_
        refine R_constI DX8_row_17 ci_60 ?_
        by_cases c5 : x3 ≤ (iI 60)
        · replace h := if_t h c5
          refine R_icmp_le_t DX8_row_19 c5 ?_
          refine R_iload DX8_row_25 3 rfl ?_
          by_cases c6 : 0 ≤ x3
          · replace h := if_t h c6
            refine R_if_ge_t DX8_row_26 c6 ?_
            refine R_aload DX8_row_32 0 rfl ?_
            obtain ⟨v7, ev7, h⟩ := bind_some h
            refine R_gR DX8_row_33 fl_RX8_42 ev7 ?_
            refine R_iload DX8_row_36 1 rfl ?_
            obtain ⟨v8, ev8, h⟩ := bind_some h
            refine R_aR rt25 DX8_row_37 ev8 ?_
            refine R_iload DX8_row_38 2 rfl ?_
            refine R_iload DX8_row_39 3 rfl ?_
            obtain ⟨s9, es9, h⟩ := bind_some h
            refine R_cV0 [.int x2, .int x3] DX8_row_40 kzvX5_renew ml_RX8_379 ⟨Nat.le_of_ble_eq_true rfl, Nat.le_of_ble_eq_true rfl⟩ rfl (Nat.le_of_ble_eq_true rfl) (kX5_renew es9) ?_
            refine R_constI DX8_row_43 ci_0 ?_
            cases h
            exact R_ireturn rfl DX8_row_44
          · replace h := if_f h c6
            refine R_if_ge_f DX8_row_26 c6 ?_
            refine R_constI DX8_row_29 ci_m3 ?_
            cases h
            exact R_ireturn rfl DX8_row_31
        · replace h := if_f h c5
          refine R_icmp_le_f DX8_row_19 c5 ?_
          refine R.sub (L' := []) [] rfl ?_
          exact tX8_row_b22 h
set_option maxRecDepth 8000 in
theorem kX8_write {G : Gm} {x0 : Nat} {x1 : Int32} {x2 : Int32} {x3 : Int64} {s : Hp} {w : Int32 × Hp} (h : fX8_write x0 x1 x2 x3 s = some w) : (s.2.2 x0).1 = 8 ∧ Call G MX8_write [.ref x0, .int x1, .int x2, .long x3] s (some (.int w.1), w.2) := by
  unfold fX8_write at h
  obtain ⟨_, e0, h⟩ := bind_some h
  refine ⟨ck_some e0, Call.of_R pnRX8 (Nat.le_of_ble_eq_true rfl) ?_⟩
  clear e0
  show R G MX8_write 0 [(0, .ref x0), (1, .int x1), (2, .int x2), (3, .long x3)] [] s (some (.int w.1), w.2)
  refine R_iload DX8_write_0 1 rfl ?_
  obtain ⟨r1, er1, h⟩ := bind_some h
  refine R_cS1 [.int x1] DX8_write_1 kzsX8_isSlot ml_RX8_376 ⟨Nat.le_of_ble_eq_true rfl, Nat.le_of_ble_eq_true rfl⟩ rfl (Nat.le_of_ble_eq_true rfl) (kX8_isSlot er1) ?_
  by_cases c2 : r1.1 = 0
  · replace h := if_t h c2
    refine R_if_ne_f DX8_write_4 c2 ?_
    refine R_constI DX8_write_7 ci_m2 ?_
    cases h
    exact R_ireturn rfl DX8_write_9
  · replace h := if_f h c2
    refine R_if_ne_t DX8_write_4 c2 ?_
    refine R_aload DX8_write_10 0 rfl ?_
    obtain ⟨v3, ev3, h⟩ := bind_some h
    refine R_gR DX8_write_11 fl_RX8_42 ev3 ?_
    refine R_iload DX8_write_14 1 rfl ?_
    obtain ⟨v4, ev4, h⟩ := bind_some h
    refine R_aR rt25 DX8_write_15 ev4 ?_
    obtain ⟨r5, er5, h⟩ := bind_some h
    refine R_cV1 [] DX8_write_16 kzvX5_isThere ml_RX8_383 ⟨Nat.le_of_ble_eq_true rfl, Nat.le_of_ble_eq_true rfl⟩ rfl (Nat.le_of_ble_eq_true rfl) (kX5_isThere er5) ?_
    by_cases c6 : r5.1 = 0
    · replace h := if_t h c6
      refine R_if_ne_f DX8_write_19 c6 ?_
      refine R_constI DX8_write_22 ci_m6 ?_
      cases h
      exact R_ireturn rfl DX8_write_24
    · replace h := if_f h c6
      refine R_if_ne_t DX8_write_19 c6 ?_
      refine R_aload DX8_write_25 0 rfl ?_
      obtain ⟨v7, ev7, h⟩ := bind_some h
      refine R_gR DX8_write_26 fl_RX8_42 ev7 ?_
      refine R_iload DX8_write_29 1 rfl ?_
      obtain ⟨v8, ev8, h⟩ := bind_some h
      refine R_aR rt25 DX8_write_30 ev8 ?_
      refine R_iload DX8_write_31 2 rfl ?_
      refine R_constI DX8_write_32 ci_1 ?_
      obtain ⟨r9, er9, h⟩ := bind_some h
      refine R_cV1 [.int x2, .int (iI 1)] DX8_write_33 kzvX5_holds ml_RX8_386 ⟨Nat.le_of_ble_eq_true rfl, Nat.le_of_ble_eq_true rfl⟩ rfl (Nat.le_of_ble_eq_true rfl) (kX5_holds er9) ?_
      by_cases c10 : r9.1 = 0
      · replace h := if_t h c10
        refine R_if_ne_f DX8_write_36 c10 ?_
        refine R_constI DX8_write_39 ci_m7 ?_
        cases h
        exact R_ireturn rfl DX8_write_41
      · replace h := if_f h c10
        refine R_if_ne_t DX8_write_36 c10 ?_
        refine R_aload DX8_write_42 0 rfl ?_
        obtain ⟨v11, ev11, h⟩ := bind_some h
        refine R_gR DX8_write_43 fl_RX8_42 ev11 ?_
        refine R_iload DX8_write_46 1 rfl ?_
        obtain ⟨v12, ev12, h⟩ := bind_some h
        refine R_aR rt25 DX8_write_47 ev12 ?_
        refine R_iload DX8_write_48 2 rfl ?_
        refine R_lload DX8_write_49 3 rfl ?_
        obtain ⟨s13, es13, h⟩ := bind_some h
        refine R_cV0 [.int x2, .long x3] DX8_write_50 kzvX5_put ml_RX8_389 ⟨Nat.le_of_ble_eq_true rfl, Nat.le_of_ble_eq_true rfl⟩ rfl (Nat.le_of_ble_eq_true rfl) (kX5_put es13) ?_
        refine R_constI DX8_write_53 ci_0 ?_
        cases h
        exact R_ireturn rfl DX8_write_54
set_option maxRecDepth 8000 in
theorem tX8_paste_b14 {G : Gm} {s : Hp} {w : Int32 × Hp} (h : fX8_paste_b14 s = some w) : R G MX8_paste 14 [] [] s (some (.int w.1), w.2) := by
  unfold fX8_paste_b14 at h
  refine R_constI DX8_paste_14 ci_m2 ?_
  cases h
  exact R_ireturn rfl DX8_paste_16
set_option maxRecDepth 8000 in
theorem tX8_paste_b41 {G : Gm} {s : Hp} {w : Int32 × Hp} (h : fX8_paste_b41 s = some w) : R G MX8_paste 41 [] [] s (some (.int w.1), w.2) := by
  unfold fX8_paste_b41 at h
  refine R_constI DX8_paste_41 ci_m6 ?_
  cases h
  exact R_ireturn rfl DX8_paste_43
set_option maxRecDepth 8000 in
theorem tX8_paste_b99 {G : Gm} {s : Hp} {w : Int32 × Hp} (h : fX8_paste_b99 s = some w) : R G MX8_paste 99 [] [] s (some (.int w.1), w.2) := by
  unfold fX8_paste_b99 at h
  refine R_constI DX8_paste_99 ci_m7 ?_
  cases h
  exact R_ireturn rfl DX8_paste_101
set_option maxRecDepth 8000 in
theorem kX8_paste {G : Gm} {x0 : Nat} {x1 : Int32} {x2 : Int32} {x3 : Int32} {x4 : Int32} {x5 : Int32} {s : Hp} {w : Int32 × Hp} (h : fX8_paste x0 x1 x2 x3 x4 x5 s = some w) : (s.2.2 x0).1 = 8 ∧ Call G MX8_paste [.ref x0, .int x1, .int x2, .int x3, .int x4, .int x5] s (some (.int w.1), w.2) := by
  unfold fX8_paste at h
  obtain ⟨_, e0, h⟩ := bind_some h
  refine ⟨ck_some e0, Call.of_R pnRX8 (Nat.le_of_ble_eq_true rfl) ?_⟩
  clear e0
  show R G MX8_paste 0 [(0, .ref x0), (1, .int x1), (2, .int x2), (3, .int x3), (4, .int x4), (5, .int x5)] [] s (some (.int w.1), w.2)
  refine R_iload DX8_paste_0 1 rfl ?_
  obtain ⟨r1, er1, h⟩ := bind_some h
  refine R_cS1 [.int x1] DX8_paste_1 kzsX8_isSlot ml_RX8_376 ⟨Nat.le_of_ble_eq_true rfl, Nat.le_of_ble_eq_true rfl⟩ rfl (Nat.le_of_ble_eq_true rfl) (kX8_isSlot er1) ?_
  by_cases c2 : r1.1 = 0
  · replace h := if_t h c2
    refine R_if_eq_t DX8_paste_4 c2 ?_
    refine R.sub (L' := []) [] rfl ?_
    exact tX8_paste_b14 h
  · replace h := if_f h c2
    refine R_if_eq_f DX8_paste_4 c2 ?_
    refine R_iload DX8_paste_7 3 rfl ?_
    obtain ⟨r3, er3, h⟩ := bind_some h
    refine R_cS1 [.int x3] DX8_paste_8 kzsX8_isSlot ml_RX8_376 ⟨Nat.le_of_ble_eq_true rfl, Nat.le_of_ble_eq_true rfl⟩ rfl (Nat.le_of_ble_eq_true rfl) (kX8_isSlot er3) ?_
    by_cases c4 : r3.1 = 0
    · replace h := if_t h c4
      refine R_if_ne_f DX8_paste_11 c4 ?_
      refine R.sub (L' := []) [] rfl ?_
      exact tX8_paste_b14 h
    · replace h := if_f h c4
      refine R_if_ne_t DX8_paste_11 c4 ?_
      refine R_aload DX8_paste_17 0 rfl ?_
      obtain ⟨v5, ev5, h⟩ := bind_some h
      refine R_gR DX8_paste_18 fl_RX8_42 ev5 ?_
      refine R_iload DX8_paste_21 1 rfl ?_
      obtain ⟨v6, ev6, h⟩ := bind_some h
      refine R_aR rt25 DX8_paste_22 ev6 ?_
      obtain ⟨r7, er7, h⟩ := bind_some h
      refine R_cV1 [] DX8_paste_23 kzvX5_isThere ml_RX8_383 ⟨Nat.le_of_ble_eq_true rfl, Nat.le_of_ble_eq_true rfl⟩ rfl (Nat.le_of_ble_eq_true rfl) (kX5_isThere er7) ?_
      by_cases c8 : r7.1 = 0
      · replace h := if_t h c8
        refine R_if_eq_t DX8_paste_26 c8 ?_
        refine R.sub (L' := []) [] rfl ?_
        exact tX8_paste_b41 h
      · replace h := if_f h c8
        refine R_if_eq_f DX8_paste_26 c8 ?_
        refine R_aload DX8_paste_29 0 rfl ?_
        obtain ⟨v9, ev9, h⟩ := bind_some h
        refine R_gR DX8_paste_30 fl_RX8_42 ev9 ?_
        refine R_iload DX8_paste_33 3 rfl ?_
        obtain ⟨v10, ev10, h⟩ := bind_some h
        refine R_aR rt25 DX8_paste_34 ev10 ?_
        obtain ⟨r11, er11, h⟩ := bind_some h
        refine R_cV1 [] DX8_paste_35 kzvX5_isThere ml_RX8_383 ⟨Nat.le_of_ble_eq_true rfl, Nat.le_of_ble_eq_true rfl⟩ rfl (Nat.le_of_ble_eq_true rfl) (kX5_isThere er11) ?_
        by_cases c12 : r11.1 = 0
        · replace h := if_t h c12
          refine R_if_ne_f DX8_paste_38 c12 ?_
          refine R.sub (L' := []) [] rfl ?_
          exact tX8_paste_b41 h
        · replace h := if_f h c12
          refine R_if_ne_t DX8_paste_38 c12 ?_
          refine R_aload DX8_paste_44 0 rfl ?_
          obtain ⟨v13, ev13, h⟩ := bind_some h
          refine R_gR DX8_paste_45 fl_RX8_42 ev13 ?_
          refine R_iload DX8_paste_48 1 rfl ?_
          obtain ⟨v14, ev14, h⟩ := bind_some h
          refine R_aR rt25 DX8_paste_49 ev14 ?_
          obtain ⟨v15, ev15, h⟩ := bind_some h
          refine R_gIN DX8_paste_50 fl_RX8_393 ev15 ?_
          refine R_aload DX8_paste_53 0 rfl ?_
          obtain ⟨v16, ev16, h⟩ := bind_some h
          refine R_gR DX8_paste_54 fl_RX8_42 ev16 ?_
          refine R_iload DX8_paste_57 3 rfl ?_
          obtain ⟨v17, ev17, h⟩ := bind_some h
          refine R_aR rt25 DX8_paste_58 ev17 ?_
          obtain ⟨v18, ev18, h⟩ := bind_some h
          refine R_gIN DX8_paste_59 fl_RX8_393 ev18 ?_
          by_cases c19 : v15 = v18
          · replace h := if_t h c19
            refine R_icmp_eq_t DX8_paste_62 c19 ?_
            refine R_aload DX8_paste_68 0 rfl ?_
            obtain ⟨v20, ev20, h⟩ := bind_some h
            refine R_gR DX8_paste_69 fl_RX8_42 ev20 ?_
            refine R_iload DX8_paste_72 1 rfl ?_
            obtain ⟨v21, ev21, h⟩ := bind_some h
            refine R_aR rt25 DX8_paste_73 ev21 ?_
            refine R_iload DX8_paste_74 2 rfl ?_
            refine R_iload DX8_paste_75 5 rfl ?_
            obtain ⟨r22, er22, h⟩ := bind_some h
            refine R_cV1 [.int x2, .int x5] DX8_paste_77 kzvX5_holds ml_RX8_386 ⟨Nat.le_of_ble_eq_true rfl, Nat.le_of_ble_eq_true rfl⟩ rfl (Nat.le_of_ble_eq_true rfl) (kX5_holds er22) ?_
            by_cases c23 : r22.1 = 0
            · replace h := if_t h c23
              refine R_if_eq_t DX8_paste_80 c23 ?_
              refine R.sub (L' := []) [] rfl ?_
              exact tX8_paste_b99 h
            · replace h := if_f h c23
              refine R_if_eq_f DX8_paste_80 c23 ?_
              refine R_aload DX8_paste_83 0 rfl ?_
              obtain ⟨v24, ev24, h⟩ := bind_some h
              refine R_gR DX8_paste_84 fl_RX8_42 ev24 ?_
              refine R_iload DX8_paste_87 3 rfl ?_
              obtain ⟨v25, ev25, h⟩ := bind_some h
              refine R_aR rt25 DX8_paste_88 ev25 ?_
              refine R_iload DX8_paste_89 4 rfl ?_
              refine R_iload DX8_paste_91 5 rfl ?_
              obtain ⟨r26, er26, h⟩ := bind_some h
              refine R_cV1 [.int x4, .int x5] DX8_paste_93 kzvX5_holds ml_RX8_386 ⟨Nat.le_of_ble_eq_true rfl, Nat.le_of_ble_eq_true rfl⟩ rfl (Nat.le_of_ble_eq_true rfl) (kX5_holds er26) ?_
              by_cases c27 : r26.1 = 0
              · replace h := if_t h c27
                refine R_if_ne_f DX8_paste_96 c27 ?_
                refine R.sub (L' := []) [] rfl ?_
                exact tX8_paste_b99 h
              · replace h := if_f h c27
                refine R_if_ne_t DX8_paste_96 c27 ?_
                refine R_aload DX8_paste_102 0 rfl ?_
                obtain ⟨v28, ev28, h⟩ := bind_some h
                refine R_gR DX8_paste_103 fl_RX8_42 ev28 ?_
                refine R_iload DX8_paste_106 1 rfl ?_
                obtain ⟨v29, ev29, h⟩ := bind_some h
                refine R_aR rt25 DX8_paste_107 ev29 ?_
                refine R_iload DX8_paste_108 2 rfl ?_
                refine R_aload DX8_paste_109 0 rfl ?_
                obtain ⟨v30, ev30, h⟩ := bind_some h
                refine R_gR DX8_paste_110 fl_RX8_42 ev30 ?_
                refine R_iload DX8_paste_113 3 rfl ?_
                obtain ⟨v31, ev31, h⟩ := bind_some h
                refine R_aR rt25 DX8_paste_114 ev31 ?_
                refine R_iload DX8_paste_115 4 rfl ?_
                refine R_iload DX8_paste_117 5 rfl ?_
                obtain ⟨s32, es32, h⟩ := bind_some h
                refine R_cV0 [.int x2, .ref v31, .int x4, .int x5] DX8_paste_119 kzvX5_copyTo ml_RX8_396 ⟨Nat.le_of_ble_eq_true rfl, Nat.le_of_ble_eq_true rfl⟩ rfl (Nat.le_of_ble_eq_true rfl) (kX5_copyTo es32) ?_
                refine R_constI DX8_paste_122 ci_0 ?_
                cases h
                exact R_ireturn rfl DX8_paste_123
          · replace h := if_f h c19
            refine R_icmp_eq_f DX8_paste_62 c19 ?_
            refine R_constI DX8_paste_65 ci_m8 ?_
            cases h
            exact R_ireturn rfl DX8_paste_67
