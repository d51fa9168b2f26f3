/-! feed, end: both answer alike -/
/-- all stays but the tapes and scratch -/
def frT (B B' : Bk) : Prop :=
  (∀ d j, (d = co → j ≠ 10) → (d = mo → j = 14 ∨ j = 15) → B'.1 d j = B.1 d j) ∧ (∀ d j, d ≠ mo → B'.2.1 d j = B.2.1 d j) ∧ B'.2.2.1 = B.2.2.1 ∧ (∀ d z, ¬ mscr d → d ≠ co + 1 → d ≠ mo + 5 → B'.2.2.2.1 d z = B.2.2.2.1 d z) ∧ (∀ d z, ¬ mscr d → B'.2.2.2.2 d z = B.2.2.2.2 d z)
def QT (E : Ev) (B : Bk) (f g : Hp → Option (Int32 × Hp)) : Prop := ∃ v B1 B2, f (St E B) = some (v, St E B1) ∧ g (St E B1) = some (v, St E B2) ∧ frT B B2 ∧ rTp B2
section FH
variable {E : Ev} {B : Bk}
theorem o_end {k : Int} (rc : KD E co 8 13) (rm : mKd E mo) (T : rTp B) (hk : i32 k) : QT E B (fX8_end (E.1 + co) (iI k)) (fX9_end (E.1 + mo) (iI k)) := by
  have hco : co = 0 := rfl
  have hmo : mo = 58 := rfl
  obtain ⟨k1, k2⟩ := hk
  obtain ⟨t1, t2, t3, t4, t5, t6, t7⟩ := T
  by_cases c : 0 ≤ k ∧ k ≤ B.1 co 10
  · have e6 : (wI (wI B co 10 k) mo 0 0).1 mo 6 = B.1 co 10 := by rw [wI_1, if_neg (by omega), wI_1, if_neg (by omega), t2]
    refine ⟨iI k, wI B co 10 k, wI (wI (wI B co 10 k) mo 0 0) mo 6 k, ?_, ?_, ⟨fun d j q1 q2 => ?_, fun _ _ _ => rfl, rfl, fun _ _ _ _ _ => rfl, fun _ _ _ => rfl⟩, ?_⟩
    · simp (disch := omega) only [fX8_end, c8 rc, g8_10 rc, p8_10 rc, some_bind, iI_0, iI_lt, iI_le]
      rw [if_neg (by omega), if_pos c.2]
    · simp (disch := omega) only [fX9_end, c9 rm.1, p9_0 rm.1, g9_6 rm.1, some_bind, e6, jI_i, jI_0, m_in, iI_0, ib, p9_6 rm.1]
      rw [if_pos c]
    · rw [wI_1, if_neg (fun p => by have := q2 p.1; omega), wI_1, if_neg (fun p => by have := q2 p.1; omega), wI_1, if_neg (fun p => q1 p.1 p.2)]
    · have f10 : (wI (wI (wI B co 10 k) mo 0 0) mo 6 k).1 co 10 = k := by rw [wI_1, if_neg (by omega), wI_1, if_neg (by omega), wI_1, if_pos ⟨rfl, rfl⟩]
      have f6 : (wI (wI (wI B co 10 k) mo 0 0) mo 6 k).1 mo 6 = k := by rw [wI_1, if_pos ⟨rfl, rfl⟩]
      have f14 : (wI (wI (wI B co 10 k) mo 0 0) mo 6 k).1 mo 14 = B.1 mo 14 := by rw [wI_1, if_neg (by omega), wI_1, if_neg (by omega), wI_1, if_neg (by omega)]
      have f15 : (wI (wI (wI B co 10 k) mo 0 0) mo 6 k).1 mo 15 = B.1 mo 15 := by rw [wI_1, if_neg (by omega), wI_1, if_neg (by omega), wI_1, if_neg (by omega)]
      have f20 : ∀ j, (wI (wI (wI B co 10 k) mo 0 0) mo 6 k).1 (co + 2) j = B.1 (co + 2) j := fun j => by rw [wI_1, if_neg (by omega), wI_1, if_neg (by omega), wI_1, if_neg (by omega)]
      unfold rTp
      rw [f10, f6, f14, f15, f20, f20]
      exact ⟨⟨by omega, by omega⟩, rfl, fun z z1 z2 => t3 z z1 (by omega), t4, t5, t6, t7⟩
  · refine ⟨iI (-1), B, wI B mo 0 0, ?_, ?_, ⟨fun d j q1 q2 => ?_, fun _ _ _ => rfl, rfl, fun _ _ _ _ _ => rfl, fun _ _ _ => rfl⟩, ?_⟩
    · simp (disch := omega) only [fX8_end, fX8_end_b12, c8 rc, g8_10 rc, some_bind, iI_0, iI_lt, iI_le]
      by_cases q : k < 0
      · rw [if_pos q]
      · rw [if_neg q, if_neg (by omega)]
    · have e6 : (wI B mo 0 0).1 mo 6 = B.1 co 10 := by rw [wI_1, if_neg (by omega), t2]
      simp (disch := omega) only [fX9_end, c9 rm.1, p9_0 rm.1, g9_6 rm.1, some_bind, e6, jI_i, jI_0, m_in, iI_0, ib]
      rw [if_neg c]
    · rw [wI_1, if_neg (fun p => by have := q2 p.1; omega)]
    · have f : ∀ d j, (d = mo → j ≠ 0) → (wI B mo 0 0).1 d j = B.1 d j := fun d j q => by rw [wI_1, if_neg (fun p => q p.1 p.2)]
      unfold rTp
      rw [f co 10 (by omega), f mo 6 (by omega), f mo 14 (by omega), f mo 15 (by omega), f (co + 2) 0 (by omega), f (co + 2) 1 (by omega)]
      exact ⟨t1, t2, t3, t4, t5, t6, t7⟩
theorem s8_feed {a b c g h : Int32} (rc : KD E co 8 13) (rt : KD E (co + 1) 22 1600) (h0 : 0 ≤ B.1 co 10) (h1 : B.1 co 10 ≤ 1580) : fX8_feed (E.1 + co) a b c g h (St E B) = some (iI (B.1 co 10 + 20), St E (fdF co (co + 1) 10 a b c g h B)) := by
  have e : (fdF co (co + 1) 10 a b c g h B).1 co 10 = B.1 co 10 + 20 := by rw [fdF_1, if_pos ⟨rfl, rfl⟩]
  simp (disch := omega) only [fX8_feed, c8 rc, g8_10 rc, some_bind, iI_le]
  rw [if_pos h1, s8_putBytes rc rt h0 (by omega), some_bind, s8_putBytes rc rt (by rw [puF_n]; omega) (by rw [puF_n]; omega), some_bind, s8_putBytes rc rt (by rw [puF_n, puF_n]; omega) (by rw [puF_n, puF_n]; omega), some_bind, s8_putBytes rc rt (by rw [puF_n, puF_n, puF_n]; omega) (by rw [puF_n, puF_n, puF_n]; omega), some_bind, s8_putBytes rc rt (by rw [puF_n, puF_n, puF_n, puF_n]; omega) (by rw [puF_n, puF_n, puF_n, puF_n]; omega), some_bind, g8_10 rc, some_bind]
  show some (iI ((fdF co (co + 1) 10 a b c g h B).1 co 10), _) = _
  rw [e]
  rfl
theorem m_feed {a b c g h : Int32} (rm : mKd E mo) (h0 : 0 ≤ B.1 mo 6) (h1 : B.1 mo 6 ≤ 1580) : fX9_feed (E.1 + mo) a b c g h (St E B) = some (iI (B.1 mo 6 + 20), St E (fdF mo (mo + 5) 6 a b c g h (wI B mo 0 0))) := by
  have e6 : (wI B mo 0 0).1 mo 6 = B.1 mo 6 := by rw [wI_1, if_neg (by omega)]
  have e : (fdF mo (mo + 5) 6 a b c g h (wI B mo 0 0)).1 mo 6 = B.1 mo 6 + 20 := by rw [fdF_1, if_pos ⟨rfl, rfl⟩, e6]
  simp (disch := omega) only [fX9_feed, c9 rm.1, p9_0 rm.1, g9_6 rm.1, e6, some_bind, iI_add, iI_le]
  rw [if_pos (by omega), m_four rm (by omega) (by omega), some_bind, m_four rm (by rw [puF_n]; omega) (by rw [puF_n]; omega), some_bind, m_four rm (by rw [puF_n, puF_n]; omega) (by rw [puF_n, puF_n]; omega), some_bind, m_four rm (by rw [puF_n, puF_n, puF_n]; omega) (by rw [puF_n, puF_n, puF_n]; omega), some_bind, m_four rm (by rw [puF_n, puF_n, puF_n, puF_n]; omega) (by rw [puF_n, puF_n, puF_n, puF_n]; omega), some_bind, g9_6 rm.1, some_bind]
  show some (iI ((fdF mo (mo + 5) 6 a b c g h (wI B mo 0 0)).1 mo 6), _) = _
  rw [e]
  rfl
end FH
