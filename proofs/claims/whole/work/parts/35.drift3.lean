/-! drift, whence: the answers -/
abbrev isDr (B : Bk) (n : Nat) (x y l h k : Int) : Prop := ((0 ≤ x ∧ x < B.1 n 1) ∧ (0 ≤ y ∧ y < B.1 n 2)) ∧ (0 ≤ l ∧ l < B.1 n 3) ∧ (0 ≤ h ∧ h < B.1 n 4) ∧ (0 ≤ k ∧ k ≤ 24)
section D3
variable {E : Ev} {B : Bk} {n : Nat}
theorem s8_hasDrift {x y l h k : Int} (R : RV E B n) (hx : i32 x) (hy : i32 y) (hl : i32 l) (hh : i32 h) (hk : i32 k) : fX8_hasDrift (E.1 + co) (iI x) (iI y) (iI l) (iI h) (iI k) (St E B) = some (iI (bI (isDr B n x y l h k)), St E B) := by
  obtain ⟨⟨rc, rn, rk, rm⟩, rw1, -⟩ := R
  have k29 : ∀ z : Int, (z = 0 ∨ z = 1) → fX8_hasDrift_b29 (E.1 + co) (iI x) (iI y) (iI l) (iI z) (St E B) = some (iI (bI (z = 1 ∧ ((0 ≤ x ∧ x < B.1 n 1) ∧ (0 ≤ y ∧ y < B.1 n 2)) ∧ (0 ≤ l ∧ l < B.1 n 3))), St E B) := by
    intro z hz
    simp (disch := omega) only [fX8_hasDrift_b29, fX8_hasDrift_b63, iI_0, iI_eq, g8_7 rc rn, s_hasColumn hx hy rk rw1, s_hasLayer hl rk rw1, some_bind, ib]
    by_cases q : z = 0
    · rw [if_pos q, bI_f (fun w => by omega)]
    · rw [if_neg q]
      by_cases q1 : (0 ≤ x ∧ x < B.1 n 1) ∧ (0 ≤ y ∧ y < B.1 n 2)
      · rw [if_pos q1]
        by_cases q2 : 0 ≤ l ∧ l < B.1 n 3
        · rw [if_pos q2, bI_t ⟨by omega, q1, q2⟩]
        · rw [if_neg q2, bI_f (fun w => q2 w.2.2)]
      · rw [if_neg q1, bI_f (fun w => q1 w.2.1)]
  have hk' := hk
  obtain ⟨k1, k2⟩ := hk'
  simp (disch := omega) only [fX8_hasDrift, fX8_hasDrift_b28, c8 rc, g8_7 rc rn, s_hasHour hh rk rw1, some_bind, iI_0, ib, iI_lt, k29 0 (Or.inl rfl), k29 1 (Or.inr rfl)]
  by_cases q1 : 0 ≤ h ∧ h < B.1 n 4
  · rw [if_pos q1]
    by_cases q2 : k < 0
    · rw [if_pos q2, bI_congr (q := isDr B n x y l h k) (by unfold isDr; omega)]
    · rw [if_neg q2]
      by_cases q3 : 24 < k
      · rw [if_pos q3, bI_congr (q := isDr B n x y l h k) (by unfold isDr; omega)]
      · rw [if_neg q3, bI_congr (q := isDr B n x y l h k) (by unfold isDr; simp only [true_and]; omega)]
  · rw [if_neg q1, bI_congr (q := isDr B n x y l h k) (by unfold isDr; omega)]
theorem m_isDrift {x y l h k : Int} (R : RV E B n) (hx : i32 x) (hy : i32 y) (hl : i32 l) (hh : i32 h) (hk : i32 k) : fX9_isDrift (E.1 + mo) (iI x) (iI y) (iI l) (iI h) (iI k) (St E B) = some (iI (bI (isDr B n x y l h k)), St E B) := by
  have R1 := R
  have hmw := rv_mw R
  obtain ⟨⟨rc, rn, rk, rm⟩, rw1, -⟩ := R
  have hk' := hk
  obtain ⟨k1, k2⟩ := hk'
  simp (disch := omega) only [fX9_isDrift, fX9_isDrift_b46, c9 rm.1, jI_i hx.1 hx.2, jI_i hy.1 hy.2, jI_i hh.1 hh.2, jI_i k1 k2, m_isColumn (i3264 hx) (i3264 hy) rm hmw, m_isLayer hl rm hmw, m_isHour (i3264 hh) rm hmw, jI_0, jI_24, m_in, some_bind, iI_0, ib, vr_h0 R1, vr_h1 R1, vr_h2 R1, vr_h3 R1]
  by_cases q1 : (0 ≤ x ∧ x < B.1 n 1) ∧ (0 ≤ y ∧ y < B.1 n 2)
  · rw [if_pos q1]
    by_cases q2 : 0 ≤ l ∧ l < B.1 n 3
    · rw [if_pos q2]
      by_cases q3 : 0 ≤ h ∧ h < B.1 n 4
      · rw [if_pos q3]
        by_cases q4 : 0 ≤ k ∧ k ≤ 24
        · rw [if_pos q4, bI_t ⟨q1, q2, q3, q4⟩]
        · rw [if_neg q4, bI_f (fun w => q4 w.2.2.2)]
      · rw [if_neg q3, bI_f (fun w => q3 w.2.2.1)]
    · rw [if_neg q2, bI_f (fun w => q2 w.2.1)]
  · rw [if_neg q1, bI_f (fun w => q1 w.1)]
theorem isDr_0 {x y l h k : Int} (hn : n < 58) : isDr (wI B mo 0 0) n x y l h k = isDr B n x y l h k := by
  unfold isDr
  rw [w0n hn, w0n hn, w0n hn, w0n hn]
theorem dr_0 {l c hr nn : Int} (hn : n < 58) : dr (wI B mo 0 0) n l c hr (drK (wI B mo 0 0) n hr nn) = dr B n l c hr (drK B n hr nn) := by
  unfold dr drK
  rw [w0n hn, w0n hn, w0n hn]
  rfl
theorem o_drift {x y l h k : Int} (R : RV E B n) (hn : n < 50) (hx : i32 x) (hy : i32 y) (hl : i32 l) (hh : i32 h) (hk : i32 k) : QS E B (fX8_drift (E.1 + co) (iI x) (iI y) (iI l) (iI h) (iI k)) (fX9_drift (E.1 + mo) (iI x) (iI y) (iI l) (iI h) (iI k)) := by
  have R0 := rv_0 R (show n < 58 by omega)
  have R1 := R
  have hd := s8_hasDrift R hx hy hl hh hk
  have hm := m_isDrift R0 hx hy hl hh hk
  simp only [isDr_0 (show n < 58 by omega)] at hm
  obtain ⟨⟨rc, rn, rk, rm⟩, rw1, -⟩ := R
  have hw := rw1
  obtain ⟨w0, w1, w2, w3, w4, -⟩ := hw
  unfold QS
  simp only [fX8_drift, c8 rc, hd, some_bind, iI_0, ib, fX9_drift, c9 rm.1, p9_0 rm.1, hm]
  by_cases c1 : isDr B n x y l h k
  · obtain ⟨⟨x1, y1⟩, l1, h1, k1⟩ := c1
    have hin := dr_in (l := l) (hr := h) w1.2 (cOK_xy x1.1 x1.2 y1.1 y1.2 w1.2) (drK B n h k)
    have h64 := cOK_64 hin w1.2 w2.2
    have hdf := m_driftOf (x := x) (y := y) (l := l) (hr := h) (nn := k) R0 hn x1.1 (by rw [w0n (by omega)]; exact x1.2) y1.1 (by rw [w0n (by omega)]; exact y1.2) l1.1 (by rw [w0n (by omega)]; exact l1.2) h1.1 (by rw [w0n (by omega)]; exact h1.2) k1.1 k1.2 (a := (wI B mo 0 0).1 mo 26) (b := (wI B mo 0 0).1 mo 27)
    rw [tB_self, dr_0 (by omega)] at hdf
    simp only [if_pos (show isDr B n x y l h k from ⟨⟨x1, y1⟩, l1, h1, k1⟩), s_columnOf, some_bind, s8_drifted R1 (cOK_xy x1.1 x1.2 y1.1 y1.2 w1.2) l1.1 l1.2 h1.1 h1.2 k1.1 k1.2, s8_hundredfold h64.1 h64.2, hdf]
    exact ⟨_, _, rfl, rfl, sc_tr (sc_I (by unfold msv; omega)) sc_tB⟩
  · simp only [if_neg c1]
    exact ⟨_, _, rfl, rfl, sc_I (by unfold msv; omega)⟩
end D3
