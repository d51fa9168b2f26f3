/-! plan: both answer alike -/
section P3
variable {E : Ev} {B : Bk} {n : Nat}
theorem o_plan {s h x : Int} (R : RV E B n) (hn : 0 < n) (hn2 : n < 50) (hs : i32 s) (hh : i32 h) (hx : i32 x) : QC E B n (fX8_plan (E.1 + co) (iI s) (iI h) (iI x)) (fX9_plan (E.1 + mo) (iI s) (iI h) (iI x)) := by
  have hco : co = 0 := rfl
  have hmo : mo = 58 := rfl
  have hn8 : n < 58 := by omega
  have R1 := R
  have R0 := rv_0 R hn8
  have hsh := s8_hasShopHour R hs hh
  obtain ⟨⟨rc, rn, rk, rm⟩, rw1, rv, rb⟩ := R
  have hvw := rw1
  obtain ⟨w0, w1, w2, w3, w4', w5, w6, w7, w8, -⟩ := hvw
  have h13 := rb.1
  by_cases c : ((0 ≤ s ∧ s < B.1 n 8) ∧ (0 ≤ h ∧ h < B.1 n 4)) ∧ (0 ≤ x ∧ x ≤ 2)
  · obtain ⟨⟨c1, c2⟩, c3⟩ := c
    by_cases c4 : B.1 n 13 < 60
    · have hst : 0 < B.1 n 0 := by
        by_cases q : B.1 n 0 = 0
        · have := rb.2.2.1 q
          omega
        · omega
      have rowC : ∀ k z, k ≠ n + 4 → k ≠ n + 5 → (plB B n s h x).2.2.2.1 k z = B.2.2.2.1 k z := fun k z q1 q2 => by
        unfold plB
        rw [wA_o q1, wI_2, w4_o q2]
        rfl
      have hw1 : mWd (plB B n s h x) mo := by
        have := rv_mw R1
        unfold mWd at *
        simp only [rowC (mo + 6) _ (by omega) (by omega), rowC (mo + 7) _ (by omega) (by omega)]
        exact this
      have hact := vr_a R1 c1.1 c1.2 c2.1 c2.2
      have hwas := rb.2.2.2.2.2.2.1 s h c1.1 c1.2 c2.1 c2.2
      refine ⟨_, plB B n s h x, plM (plB B n s h x) (B.1 n 13) s h x (B.2.2.2.1 (n + 4) (s * 24 + h)), s8_plan R1 hn hs hh hx c1 c2 c3 c4, m_plan rm hw1 hs hh hx (by rw [rowC _ _ (by omega) (by omega)]; exact vr_h14 R1) (by rw [rowC _ _ (by omega) (by omega)]; exact hact) (by rw [rowC _ _ (by omega) (by omega), vr_h7 R1]; exact c1) (by rw [rowC _ _ (by omega) (by omega), vr_h3 R1]; exact c2) c3 c4, Or.inr ?_⟩
      have fi : ∀ d j, d ≠ mo → (plM (plB B n s h x) (B.1 n 13) s h x (B.2.2.2.1 (n + 4) (s * 24 + h))).1 d j = if d = n ∧ j = 13 then B.1 n 13 + 1 else if d = co ∧ j = 11 then 0 else B.1 d j := fun d j q => by
        show (if d = mo ∧ j = 0 then 0 else if d = n ∧ j = 13 then B.1 n 13 + 1 else if d = co ∧ j = 11 then 0 else B.1 d j) = _
        rw [if_neg (fun p => q p.1)]
      have fm : ∀ j, msv j → (plM (plB B n s h x) (B.1 n 13) s h x (B.2.2.2.1 (n + 4) (s * 24 + h))).1 mo j = B.1 mo j := fun j q => by
        show (if mo = mo ∧ j = 0 then 0 else if mo = n ∧ j = 13 then B.1 n 13 + 1 else if mo = co ∧ j = 11 then 0 else B.1 mo j) = _
        unfold msv at q
        rw [if_neg (by omega), if_neg (by omega), if_neg (by omega)]
      have fr0 : ∀ k z, k ≠ n + 4 → k ≠ n + 5 → k ≠ mo + 7 → k ≠ mo + 12 → k ≠ mo + 13 → (plM (plB B n s h x) (B.1 n 13) s h x (B.2.2.2.1 (n + 4) (s * 24 + h))).2.2.2.1 k z = B.2.2.2.1 k z := fun k z q1 q2 q3 q4 q5 => by
        unfold plM
        rw [wA_o q3, wA_o q4, w4_o q5, wI_2, rowC k z q1 q2]
      have f4 : ∀ z, (plM (plB B n s h x) (B.1 n 13) s h x (B.2.2.2.1 (n + 4) (s * 24 + h))).2.2.2.1 (n + 4) z = if z = s * 24 + h then x else B.2.2.2.1 (n + 4) z := fun z => by
        unfold plM
        rw [wA_o (by omega), wA_o (by omega), w4_o (by omega), wI_2]
        unfold plB
        by_cases q : z = s * 24 + h
        · rw [q, wA_s, if_pos rfl]
        · rw [wA_z q, if_neg q, wI_2, w4_o (by omega)]
          rfl
      have f5 : ∀ z, (plM (plB B n s h x) (B.1 n 13) s h x (B.2.2.2.1 (n + 4) (s * 24 + h))).2.2.2.1 (n + 5) z = if z = B.1 n 13 * 4 + 3 then B.2.2.2.1 (n + 4) (s * 24 + h) else if z = B.1 n 13 * 4 + 2 then x else if z = B.1 n 13 * 4 + 1 then h else if z = B.1 n 13 * 4 then s else B.2.2.2.1 (n + 5) z := fun z => by
        unfold plM
        rw [wA_o (by omega), wA_o (by omega), w4_o (by omega), wI_2]
        unfold plB
        rw [wA_o (by omega), wI_2, w4_d]
        rfl
      have f7 : ∀ z, (plM (plB B n s h x) (B.1 n 13) s h x (B.2.2.2.1 (n + 4) (s * 24 + h))).2.2.2.1 (mo + 7) z = if z = 14 then B.1 n 13 + 1 else B.2.2.2.1 (mo + 7) z := fun z => by
        unfold plM
        by_cases q : z = 14
        · rw [q, wA_s, if_pos rfl]
        · rw [wA_z q, if_neg q, wA_o (by omega), w4_o (by omega), wI_2, rowC _ _ (by omega) (by omega)]
      have f12 : ∀ z, (plM (plB B n s h x) (B.1 n 13) s h x (B.2.2.2.1 (n + 4) (s * 24 + h))).2.2.2.1 (mo + 12) z = if z = 24 * s + h then x else B.2.2.2.1 (mo + 12) z := fun z => by
        unfold plM
        rw [wA_o (by omega)]
        by_cases q : z = 24 * s + h
        · rw [q, wA_s, if_pos rfl]
        · rw [wA_z q, if_neg q, w4_o (by omega), wI_2, rowC _ _ (by omega) (by omega)]
      have f13 : ∀ z, (plM (plB B n s h x) (B.1 n 13) s h x (B.2.2.2.1 (n + 4) (s * 24 + h))).2.2.2.1 (mo + 13) z = if z = 4 * B.1 n 13 + 3 then B.2.2.2.1 (n + 4) (s * 24 + h) else if z = 4 * B.1 n 13 + 2 then x else if z = 4 * B.1 n 13 + 1 then h else if z = 4 * B.1 n 13 then s else B.2.2.2.1 (mo + 13) z := fun z => by
        unfold plM
        rw [wA_o (by omega), wA_o (by omega), w4_d, wI_2, rowC _ _ (by omega) (by omega)]
      have hr2 : (plM (plB B n s h x) (B.1 n 13) s h x (B.2.2.2.1 (n + 4) (s * 24 + h))).2.2.1 = B.2.2.1 := rfl
      have hl2 : (plM (plB B n s h x) (B.1 n 13) s h x (B.2.2.2.1 (n + 4) (s * 24 + h))).2.1 = B.2.1 := rfl
      have hj2 : (plM (plB B n s h x) (B.1 n 13) s h x (B.2.2.2.1 (n + 4) (s * 24 + h))).2.2.2.2 = B.2.2.2.2 := rfl
      generalize plM (plB B n s h x) (B.1 n 13) s h x (B.2.2.2.1 (n + 4) (s * 24 + h)) = B2 at fi fm fr0 f4 f5 f7 f12 f13 hr2 hl2 hj2 ⊢
      have en : ∀ j, j ≠ 13 → B2.1 n j = B.1 n j := fun j q => by rw [fi _ _ (by omega), if_neg (fun p => q p.2), if_neg (by omega)]
      have en13 : B2.1 n 13 = B.1 n 13 + 1 := by rw [fi _ _ (by omega), if_pos ⟨rfl, rfl⟩]
      refine ⟨⟨fun d j q1 q2 q3 => ?_, fun d j _ => by rw [hl2], hr2, fun d z q1 q2 q3 => ?_, fun d z _ => by rw [hj2]⟩, ?_, ?_, Or.inr ⟨?_, en, fun k z k1 k2 => ?_⟩⟩
      · by_cases q : d = mo
        · rw [q]
          exact fm j (q3 q)
        · rw [fi d j q, if_neg (fun p => q1 p.1), if_neg (fun p => (q2 p.1).1 p.2)]
      · by_cases p7 : d = mo + 7
        · have : bsz d = 15 := by rw [p7]; rfl
          rw [p7, f7, if_neg (by omega)]
        · by_cases p12 : d = mo + 12
          · have : bsz d = 96 := by rw [p12]; rfl
            rw [p12, f12, if_neg (by omega)]
          · by_cases p13 : d = mo + 13
            · have : bsz d = 240 := by rw [p13]; rfl
              rw [p13, f13, if_neg (by omega), if_neg (by omega), if_neg (by omega), if_neg (by omega)]
            · exact fr0 d z (by omega) (by omega) p7 p12 p13
      · refine rv_pc R1 hst hr2 en (by omega) (by omega) fr0 (fun z q => by rw [f7, if_neg q]) (by rw [f7, if_pos rfl, en13]) (fun s' h' a1 a2 a3 a4 => ?_) (fun i k a1 a2 a3 a4 => ?_) (fun i a1 a2 => ?_)
        · have v := vr_a R1 a1 a2 a3 a4
          have b := rb.2.2.2.2.2.2.1 s' h' a1 a2 a3 a4
          rw [f12, f4, show 96 * 0 + (24 * s' + h') = 24 * s' + h' by omega]
          by_cases q : 24 * s' + h' = 24 * s + h
          · rw [if_pos q, if_pos (by omega)]
            exact ⟨rfl, c3⟩
          · rw [if_neg q, if_neg (by omega)]
            exact ⟨v, b⟩
        · rw [en13] at a2
          rw [f13, f5, show 240 * 0 + (4 * i + k) = 4 * i + k by omega]
          by_cases q : i = B.1 n 13
          · rcases (show k = 0 ∨ k = 1 ∨ k = 2 ∨ k = 3 by omega) with rfl | rfl | rfl | rfl
            · rw [if_neg (by omega), if_neg (by omega), if_neg (by omega), if_pos (by omega), if_neg (by omega), if_neg (by omega), if_neg (by omega), if_pos (by omega)]
            · rw [if_neg (by omega), if_neg (by omega), if_pos (by omega), if_neg (by omega), if_neg (by omega), if_pos (by omega)]
            · rw [if_neg (by omega), if_pos (by omega), if_neg (by omega), if_pos (by omega)]
            · rw [if_pos (by omega), if_pos (by omega)]
          · rw [if_neg (by omega), if_neg (by omega), if_neg (by omega), if_neg (by omega), if_neg (by omega), if_neg (by omega), if_neg (by omega), if_neg (by omega)]
            exact vr_c R1 a1 (by omega) a3 a4
        · rw [en13] at a2
          rw [f5, f5, f5, f5]
          by_cases q : i = B.1 n 13
          · rw [if_neg (by omega), if_neg (by omega), if_neg (by omega), if_pos (by omega), if_neg (by omega), if_neg (by omega), if_pos (by omega), if_neg (by omega), if_pos (by omega), if_pos (by omega)]
            exact ⟨c1, c2, c3, hwas⟩
          · have b := rb.2.2.2.2.2.2.2.1 i a1 (by omega)
            rw [if_neg (by omega), if_neg (by omega), if_neg (by omega), if_neg (by omega), if_neg (by omega), if_neg (by omega), if_neg (by omega), if_neg (by omega), if_neg (by omega), if_neg (by omega), if_neg (by omega), if_neg (by omega), if_neg (by omega), if_neg (by omega), if_neg (by omega), if_neg (by omega)]
            exact b
      · rw [fi _ _ (by omega), if_neg (by omega), if_pos ⟨rfl, rfl⟩]
      · rw [fi _ _ (by omega), if_neg (by omega), if_neg (by omega)]
      · exact fr0 _ _ (by omega) (by omega) (by omega) (by omega) (by omega)
    · refine ⟨iI (-5), B, wI B mo 0 0, ?_, ?_, Or.inl (sc_I (by unfold msv; omega))⟩
      · simp (disch := omega) only [fX8_plan, c8 rc, hsh, s8_isAct hx, some_bind, iI_0, ib, g8_7 rc rn, g6_13 rk.1, iI_lt]
        rw [if_pos ⟨c1, c2⟩, if_pos c3, if_neg c4]
      · simp only [fX9_plan, c9 rm.1, p9_0 rm.1, m_isShop hs rm (rv_mw R0), jI_i hh.1 hh.2, m_isHour (i3264 hh) rm (rv_mw R0), m_isAct hx, some_bind, iI_0, ib, vr_h7 R0, vr_h3 R0, w0n hn8]
        rw [if_pos c1, if_pos c2, if_pos c3]
        simp (disch := omega) only [some_bind, wI_2, g9_17 rm.1, aI_ok (mk7 rm), vr_h14 R1, iI_eq]
        rw [if_pos (by omega)]
  · refine ⟨iI (-2), B, wI B mo 0 0, ?_, ?_, Or.inl (sc_I (by unfold msv; omega))⟩
    · simp only [fX8_plan, fX8_plan_b16, c8 rc, hsh, s8_isAct hx, some_bind, iI_0, ib]
      by_cases q1 : (0 ≤ s ∧ s < B.1 n 8) ∧ (0 ≤ h ∧ h < B.1 n 4)
      · rw [if_pos q1, if_neg (fun q => c ⟨q1, q⟩)]
      · rw [if_neg q1]
    · simp only [fX9_plan, fX9_plan_b29, c9 rm.1, p9_0 rm.1, m_isShop hs rm (rv_mw R0), jI_i hh.1 hh.2, m_isHour (i3264 hh) rm (rv_mw R0), m_isAct hx, some_bind, iI_0, ib, vr_h7 R0, vr_h3 R0, w0n hn8]
      by_cases q1 : 0 ≤ s ∧ s < B.1 n 8
      · rw [if_pos q1]
        by_cases q2 : 0 ≤ h ∧ h < B.1 n 4
        · rw [if_pos q2, if_neg (fun q => c ⟨⟨q1, q2⟩, q⟩)]
        · rw [if_neg q2]
      · rw [if_neg q1]
end P3
